/-! ===== months: the class (wip/whole/gen/g86.py) ===== -/
section U36
variable {h h1 h0 : Hp} {g g' g1 g2 g0 : Nat → Nat → Int32} {w w' w0 u : Nat → Int32} {A B L S c d k n l y j m q s i r z E N M M' o T R : Nat} {v x a b p1 p2 p3 p4 p5 : Int32} {Q : Nat → Nat → Int32}
theorem IMG.mono (I : IMG M h g) (hM : M ≤ M') : IMG M' h g := I.imp id fun z => ⟨z.1, z.2.1, z.2.2.mono hM⟩
theorem IMG.fz (I : IMG M h g) (z : FZ h g g') (y : ∀ r, r ≤ 765 → (r < 15 ∨ 614 < r) → r ≠ 755 → r ≠ 756 → r ≠ 758 → r ≠ 759 → r ≠ 760 → r ≠ 763 → g' r = g r) (y6 : g' 755 6 = g 755 6) : IMG M h g' := by
  rcases I with ⟨i1, i2⟩ | ⟨i1, i2, i3⟩
  · exact Or.inl ⟨by rw [y 1 (by decide) (by decide) (by decide) (by decide) (by decide) (by decide) (by decide) (by decide)]; exact i1, y6.trans i2⟩
  · refine Or.inr ⟨by rw [y 1 (by decide) (by decide) (by decide) (by decide) (by decide) (by decide) (by decide) (by decide)]; exact i1, y6.trans i2, ?_⟩
    rw [y 757 (by decide) (by decide) (by decide) (by decide) (by decide) (by decide) (by decide) (by decide)]
    exact i3.fz z fun r h1 h2 _ => y r (by omega) (by omega) (by omega) (by omega) (by omega) (by omega) (by omega) (by omega)
theorem LBD.r8 (lb : LBD h) (hn : n + 5 ≤ hN h) : LBD (sR h (la c) 8 n) := by
  intro c' hc'
  by_cases e : c' = c
  · subst e
    rw [hR_s]; exact hn
  · have : hR (sR h (la c) 8 n) (la c') 8 = hR h (la c') 8 := if_neg fun z => by have := z.1; unfold la at this; omega
    rw [this]; exact lb c' hc'
/-- the class as months pass -/
def CMP (M : Nat) (u : Nat → Int32) (s c : Nat) (Q : Nat → Nat → Int32) (h0 : Hp) (g0 : Nat → Nat → Int32) (h : Hp) (g : Nat → Nat → Int32) : Prop :=
  TS h ∧ LBD h ∧ IMG M h g ∧ HELD M h g 569 u ∧ (∃ N, g 15 1 = nI N ∧ N < 12 ∧ g 15 2 = nI s ∧ ∀ j, j < c → HELD M h g (la ((N + 12 - j) % 12)) (Q j)) ∧ (∀ r, r ≤ 765 → (r < 15 ∨ 614 < r) → g r = g0 r) ∧ hN h = hN h0 ∧ hZ h = hZ h0
theorem CMP.skip (x : CMP M u s c Q h0 g0 h g) {Q' : Nat → Nat → Int32} : CMP M u s 0 Q' h0 g0 h g := by
  obtain ⟨t, lb, I, H, ⟨N, m1, m2, m3, -⟩, f, x⟩ := x
  exact ⟨t, lb, I, H, ⟨N, m1, m2, m3, fun j hj => absurd hj (Nat.not_lt_zero _)⟩, f, x⟩
theorem CMP.month (x : CMP M u s c Q h0 g0 h g) (hM : M < 2 ^ 30) : ∃ g', f_Land_passMonth (uI h g) 569 = some (nI (thirstW u), uI h g') ∧ CMP (M + 1) (monthW u) s c Q h0 g0 h g' := by
  obtain ⟨t, lb, I, ⟨W, R, Lr⟩, ⟨N, m1, m2, m3, m4⟩, f, nz⟩ := x
  obtain ⟨g', q1, q2, q3, -, q5⟩ := C_month t.l9 (by decide) (by decide) W hM R Lr
  have z : FZ h g g' := q5.fz Lr (by decide)
  have X : ∀ r, r ≤ 765 → (r < 569 ∨ 614 < r) → g' r = g r := fun r hr hn => q5 r hn fun q => by omega
  refine ⟨g', q1, t, lb, (I.mono (Nat.le_succ _)).fz z (fun r h1 h2 _ _ _ _ _ _ => X r h1 (by omega)) (by rw [X 755 (by decide) (by omega)]), ⟨W.month hM, q2, q3⟩, ⟨N, by rw [X 15 (by decide) (by omega)]; exact m1, m2, by rw [X 15 (by decide) (by omega)]; exact m3, fun j hj => ?_⟩, fun r h1 h2 => (X r h1 (by omega)).trans (f r h1 h2), nz⟩
  have := Nat.mod_lt (N + 12 - j) (show 0 < 12 by decide)
  exact ((m4 j hj).mono (Nat.le_succ _)).fz z fun r h1 h2 _ => X r (by unfold la at *; omega) (by unfold la at *; omega)
theorem CMP.rem (x : CMP M u s c Q h0 g0 h g) (hs : s ≤ 12) (hc : c ≤ 12) : ∃ h' g', f_Memory_remember (uI h g) 15 569 = some (uI h' g') ∧ CMP M u (min 12 (s + 1)) (min 12 (c + 1)) (pushQ u Q) h0 g0 h' g' := by
  obtain ⟨t, lb, I, H, ⟨N, m1, m2, m3, m4⟩, f, n1, z1⟩ := x
  have s15 : ∀ g, hS (uI h g) 15 = 8 := fun g => t.2.2.2.2.2.1.1
  have jr : jrem (nI (N + 1)) (12 : Int32) = nI ((N + 1) % 12) := jrem_n (d := 12) (by omega) (by decide) (by decide)
  have hN1 : (N + 1) % 12 < 12 := Nat.mod_lt _ (by decide)
  have e8 : la ((N + 1) % 12) + 45 ≤ 568 := by unfold la; omega
  have e17 : 17 ≤ la ((N + 1) % 12) := by unfold la; omega
  have fa : ∀ r, r ≠ 15 → up2 (up2 g 15 1 (nI ((N + 1) % 12))) 15 2 (nI (min 12 (s + 1))) r = g r := fun r hr => by rw [up_row hr, up_row hr]
  have za : FZ h g (up2 (up2 g 15 1 (nI ((N + 1) % 12))) 15 2 (nI (min 12 (s + 1)))) := fun r hr _ => fa r (by omega)
  have Ha := H.fz za fun r h1 h2 _ => fa r (by omega)
  have p1 : up2 (up2 g 15 1 (nI ((N + 1) % 12))) 15 2 (nI (min 12 (s + 1))) 15 1 = nI ((N + 1) % 12) := by rw [up_k (by decide), up_eq]
  have p2 : up2 (up2 g 15 1 (nI ((N + 1) % 12))) 15 2 (nI (min 12 (s + 1))) 15 2 = nI (min 12 (s + 1)) := up_eq
  have ld0 := t.ld (c := (N + 1) % 12) (by omega)
  obtain ⟨g', q1, q2, q3, q4⟩ := C_copy (A := la ((N + 1) % 12)) (B := 569) ld0 t.l9 (Or.inl (by omega)) (by omega) (by decide) Ha.1 Ha.2.1 Ha.2.2
  have zz : FZ h (up2 (up2 g 15 1 (nI ((N + 1) % 12))) 15 2 (nI (min 12 (s + 1)))) g' := q4.fz (by omega)
  have z2 : FZ h g g' := za.tr zz
  have X : ∀ r, r ≠ 15 → (r < la ((N + 1) % 12) ∨ la ((N + 1) % 12) + 45 < r) → g' r = g r := fun r hr h2 => (q4 r h2).trans (fa r hr)
  refine ⟨sR h (la ((N + 1) % 12)) 8 (hR h 569 8), g', ?_, t.sR8 (c := (N + 1) % 12) (by omega), lb.r8 (c := (N + 1) % 12) (n := hR h 569 8) (show hR h (la 12) 8 + 5 ≤ hN h from lb 12 (by decide)), ?_, H.r8' (by omega) (by omega) z2 (fun r h1 h2 _ => X r (by omega) (by omega)), ⟨(N + 1) % 12, by rw [q4 15 (by omega)]; exact p1, hN1, by rw [q4 15 (by omega)]; exact p2, fun j hj => ?_⟩, fun r h1 h2 => (X r (by omega) (by omega)).trans (f r h1 h2), n1, z1⟩
  · have sla : ∀ g, hS (uI h g) (la ((N + 1) % 12)) = 4 := fun g => ld0.1
    have g1e : g 15 1 + (1 : Int32) = nI (N + 1) := by rw [m1]; exact nI_add N 1
    unfold f_Memory_remember f_Memory_remember_b0
    rw [if_pos (s15 _), hI_u, g1e, jr, wr_s, sI_u, hI_u, up_k (by decide), m3, show nI s + (1 : Int32) = nI (s + 1) from nI_add s 1, show (12 : Int32) = nI 12 from rfl, mn_n (by decide) (by omega), bI_s, if_pos (s15 _), wr_s, sI_u, C_latestL t p1 hN1, bI_s, if_pos (sla _), q1, bV_s]
  · exact (I.fz z2 (fun r h1 h2 _ _ _ _ _ _ => X r (by omega) (by omega)) (by rw [X 755 (by decide) (by omega)])).r8 (by omega) (by omega)
  · unfold pushQ
    by_cases e : j = 0
    · subst e
      rw [if_pos rfl, show ((N + 1) % 12 + 12 - 0) % 12 = (N + 1) % 12 from by omega]
      exact ⟨H.1, q2, q3⟩
    · rw [if_neg e]
      have hj2 : j - 1 < c := by omega
      have ne : ((N + 1) % 12 + 12 - j) % 12 ≠ (N + 1) % 12 := by omega
      have hh := m4 (j - 1) hj2
      rw [show (N + 12 - (j - 1)) % 12 = ((N + 1) % 12 + 12 - j) % 12 from by omega] at hh
      have b12 := Nat.mod_lt ((N + 1) % 12 + 12 - j) (show 0 < 12 by decide)
      have sep : la (((N + 1) % 12 + 12 - j) % 12) + 45 < la ((N + 1) % 12) ∨ la ((N + 1) % 12) + 45 < la (((N + 1) % 12 + 12 - j) % 12) := by unfold la; omega
      have r17 : 17 ≤ la (((N + 1) % 12 + 12 - j) % 12) := by unfold la; omega
      exact hh.r8' (by omega) (by omega) z2 fun r h1 h2 _ => X r (by omega) (by omega)
theorem C_months_L (hM : M + 60 < 2 ^ 30) (hn : n ≤ 60) : ∀ (j i s c : Nat) (h : Hp) (g : Nat → Nat → Int32), i + j = n → CMP (M + i) (wk w i) s c (Qf w Q i) h0 g0 h g → s ≤ 12 → c ≤ 12 → ∀ q, ∃ h' g', f_Water_months_L25 (q + j + 1) (uI h g) 1 (nI n) (nI (thS w i)) (nI i) = some (.inl (nI (thS w n)), uI h' g') ∧ CMP (M + n) (wk w n) (min 12 (s + min j 12)) (if j ≤ 12 then min 12 (c + j) else 12) (Qf w Q n) h0 g0 h' g' := by
  intro j
  induction j with
  | zero =>
    intro i s c h g hi x hs hc q
    have hi' : i = n := hi
    subst hi'
    refine ⟨h, g, ?_, ?_⟩
    · show f_Water_months_b25 (f_Water_months_L25 q) (uI h g) 1 (nI i) (nI (thS w i)) (nI i) = _
      unfold f_Water_months_b25
      rw [if_pos (Int32.le_refl _)]
    · rw [if_pos (by decide), show min 12 (s + min 0 12) = s from by omega, show min 12 (c + 0) = c from by omega]
      exact x
  | succ j ih =>
    intro i s c h g hi x hs hc q
    have E : f_Water_months_L25 (q + (j + 1) + 1) (uI h g) 1 (nI n) (nI (thS w i)) (nI i) = f_Water_months_b25 (f_Water_months_L25 (q + j + 1)) (uI h g) 1 (nI n) (nI (thS w i)) (nI i) := rfl
    have st : ∀ h g s' c', CMP (M + i) (wk w i) s' c' (Qf w Q (i + 1)) h0 g0 h g → s' ≤ 12 → c' ≤ 12 → ∃ h' g', f_Water_months_b49 (f_Water_months_L25 (q + j + 1)) (uI h g) 1 (nI n) (nI (thS w i)) (nI i) = some (.inl (nI (thS w n)), uI h' g') ∧ CMP (M + n) (wk w n) (min 12 (s' + min j 12)) (if j ≤ 12 then min 12 (c' + j) else 12) (Qf w Q n) h0 g0 h' g' := by
      intro h g s' c' x hs' hc'
      have w1 : hS (uI h g) 1 = 10 := x.1.td.2.1.1
      have w5 : hR (uI h g) 1 4 = 569 := x.1.td.2.1.2.1.2.2.2.2.1
      have w6 : hS (uI h g) 569 = 4 := x.1.l9.1
      obtain ⟨g1, a1, a2⟩ := x.month (by omega)
      obtain ⟨h', g', z1, z2⟩ := ih (i + 1) s' c' h g1 (by omega) a2 hs' hc' q
      refine ⟨h', g', ?_, z2⟩
      unfold f_Water_months_b49
      rw [if_pos w1, w5, if_pos w6, a1, bI_s, nI_add, nI_1]
      exact z1
    have w1 : hS (uI h g) 1 = 10 := x.1.td.2.1.1
    have w4 : hR (uI h g) 1 3 = 15 := x.1.td.2.1.2.1.2.2.2.1
    have w5 : hR (uI h g) 1 4 = 569 := x.1.td.2.1.2.1.2.2.2.2.1
    have s15 : hS (uI h g) 15 = 8 := x.1.2.2.2.2.2.1.1
    have sb : nI n - nI i = nI (n - i) := pk_sub (by omega)
    rw [E]
    unfold f_Water_months_b25
    rw [if_neg (nI_ge (by omega) (by omega)), sb]
    by_cases e : 12 < n - i
    · rw [if_pos (show (12 : Int32) < nI (n - i) from nI_lt e (by omega))]
      obtain ⟨h', g', z1, z2⟩ := st h g s 0 x.skip hs (by decide)
      refine ⟨h', g', z1, ?_⟩
      rw [if_neg (by omega)]
      rw [show min 12 (s + min j 12) = min 12 (s + min (j + 1) 12) from by omega, show (if j ≤ 12 then min 12 (0 + j) else 12) = 12 from by split <;> omega] at z2
      exact z2
    · rw [if_neg (show ¬ (12 : Int32) < nI (n - i) from Int32.not_lt.mpr (nI_le (b := 12) (by omega) (by decide))), if_pos w1, w4, if_pos s15, w5]
      obtain ⟨h1, g1, a1, a2⟩ := x.rem hs hc
      rw [a1, bV_s]
      obtain ⟨h', g', z1, z2⟩ := st h1 g1 (min 12 (s + 1)) (min 12 (c + 1)) a2 (by omega) (by omega)
      refine ⟨h', g', z1, ?_⟩
      rw [if_pos (by omega)]
      rw [if_pos (by omega), show min 12 (min 12 (s + 1) + min j 12) = min 12 (s + min (j + 1) 12) from by omega, show min 12 (min 12 (c + 1) + j) = min 12 (c + (j + 1)) from by omega] at z2
      exact z2
theorem sp_months (hM : M + 60 < 2 ^ 30) : LSp M (fun H => f_Lw_months H 1 p1 765) (fun H => f_Model_months H 755 p1) := by
  intro H I
  obtain ⟨h, g, rfl⟩ : ∃ h g, H = uI h g := ⟨H, hI H, rfl⟩
  have I : INV M h g := I
  obtain ⟨t, W, R, Lr, e0, e1, e2, n8, nh8, nd8⟩ := I.us
  obtain ⟨⟨w1, wr0, wr1, wr2, wr3, w5, wr5, wr6, wr7, wr8, wr9⟩, w6, w7⟩ := WTR (g := g) t
  have s7 : ∀ (h : Hp) (g : Nat → Nat → Int32), TS h → hS (uI h g) 755 = 11 := fun h g t => t.td.1.1
  have s56 : ∀ (h : Hp) (g : Nat → Nat → Int32), TS h → hR (uI h g) 755 1 = 756 ∧ hS (uI h g) 756 = 20 ∧ hL (uI h g) 756 = 2291 := fun h g t => ⟨t.td.1.2.1.1, t.td.1.2.2.1.1, t.td.1.2.2.1.2⟩
  have l9 := t.l9
  by_cases lo : p1 < 1
  · refine cl_r (h := h) (g := g) (fl := fun H => f_Lw_months H 1 p1 765) (fm := fun H => f_Model_months H 755 p1) I (lw_months_2 (H := uI h g) t ?_) (by decide) (fun h' g' t' x' => ⟨0, thr g' 1, ?_, thr_c, REF.thr⟩)
    · unfold f_Water_months f_Water_months_b0 f_Water_months_b11
      rw [if_pos lo]
    · show f_Model_months_b0 (uI h' g') 755 p1 = _
      unfold f_Model_months_b0 f_Model_months_b21
      rw [if_pos (s7 _ _ t'), wr_s, sI_u, N_in, bI_s, if_pos lo, if_pos rfl, if_pos (s7 _ _ t'), N_thr1 t'.td.1, bI_s, if_neg (by decide)]
      rfl
  by_cases hi : p1 ≤ 60
  · obtain ⟨n, hn, rfl⟩ := nI_of2 (x := p1) (M := 60) (n := 60) rfl (fun z => lo (Int32.lt_trans z (by decide))) hi
    have hi' : ¬ (60 : Int32) < nI n := fun q => Int32.lt_irrefl (Int32.lt_of_lt_of_le q hi)
    have I0 := I
    obtain ⟨-, H0, Im, ⟨N, R0, m1, m2, m3, m4, m5, m6⟩, ⟨Tp, e3, e4, e5, e6⟩, W1, lb, mo⟩ := I0
    have cmp : CMP (M + 0) (wk (g 756) 0) R0 R0 (Qf (g 756) (fun j => wmo g (R0 - 1 - j)) 0) h g h g := ⟨t, lb, Im, H0, ⟨N, m1, m2, m3, m6⟩, fun _ _ _ => rfl, rfl, rfl⟩
    obtain ⟨h1, g1, q1, t1, lb1, Im1, H1, ⟨N1, k1, k2, k3, k4⟩, fr, nx, zx⟩ := C_months_L (w := g 756) (Q := fun j => wmo g (R0 - 1 - j)) hM hn n 0 R0 R0 h g (by omega) cmp m5 m5 (999999 - n)
    have FUe : FU = 999999 - n + n + 1 := by unfold FU; omega
    obtain ⟨-, W, -⟩ := I.us
    refine cl_l (h := h) (g := g) (fl := fun H => f_Lw_months H 1 (nI n) 765) (fm := fun H => f_Model_months H 755 (nI n)) (h1 := h1) (g1 := g1) (v := (nI (thS (g 756) n))) (lw_months (H := uI h g) (H1 := uI h1 (g1)) t t1 ?_) t1 (fun h' t' => ?_) (by omega) (by omega)
    · unfold f_Water_months f_Water_months_b0
      rw [if_neg lo, if_pos hi, FUe]
      exact q1
    · have ge : ∀ r, r ≠ 755 → (r < 15 ∨ 614 < r) → r ≤ 765 → up2 g1 755 0 0 r = g r := fun r a b c => (up_row a).trans (fr r c b)
      obtain ⟨G, z1, z2, z3, z4, z5, z6⟩ := N_months_L (h := h') (Q := fun j => wmo g (R0 - 1 - j)) (w := g 756) t'.td.1 W hM hn n 0 (up2 g1 755 0 0) R0 (by omega) (by rw [ge 756 (by decide) (by omega) (by decide)]; rfl) (by rw [up_k (by decide), fr 755 (by decide) (by omega)]; exact m4) m5 (fun j hj k hk => by rw [ge 760 (by decide) (by omega) (by decide)]; rfl) (999999 - n)
      have em : f_Model_months_b0 (uI h' (g1)) 755 (nI n) = some ((nI (thS (g 756) n)), uI h' (G)) := by
        unfold f_Model_months_b0 f_Model_months_b21
        rw [if_pos (s7 _ _ t'), wr_s, sI_u, N_in, bI_s, if_neg lo, if_neg hi', if_neg (by decide), if_pos (s7 _ _ t'), N_thr0 t'.td.1, bI_s, if_pos rfl, FUe]
        exact z1
      have em0 : G 755 0 = 0 := by rw [z6 0 (by decide) (by decide)]; exact up_eq
      have X : ∀ r, r ≠ 755 → r ≠ 756 → r ≠ 760 → r ≠ 763 → G r = g1 r := fun r a b c d => (z5 r a b c d).trans (up_row a)
      have zF : FZ h1 g1 G := fun r hr _ => X r (by omega) (by omega) (by omega) (by omega)
      have rr : min 12 (R0 + min n 12) = min 12 (R0 + n) := by omega
      have cc : (if n ≤ 12 then min 12 (R0 + n) else 12) = min 12 (R0 + n) := by split <;> omega
      rw [rr] at k3
      rw [cc] at k4
      have z4' : ∀ j, j < min 12 (R0 + n) → ∀ k, k < 1454 → wmo G (min 12 (R0 + n) - 1 - j) k = Qf (g 756) (fun j => wmo g (R0 - 1 - j)) n j k := z4
      have I2 : INV (M + n) h1 G := by
        refine ⟨t1, ?_, Im1.fz zF (fun r _ _ a b _ _ c d => X r a b c d) (by rw [z6 6 (by decide) (by decide), up_k (by decide)]), ⟨N1, min 12 (R0 + n), ?_, k2, ?_, z3, by omega, fun j hj => ?_⟩, ⟨Tp, ?_, ?_, e5, fun k hk => ?_⟩, ?_, lb1, mo.cg ((X 6 (by decide) (by decide) (by decide) (by decide)).trans (fr 6 (by decide) (by omega))) ((X 11 (by decide) (by decide) (by decide) (by decide)).trans (fr 11 (by decide) (by omega)))⟩
        · rw [z2]; exact H1.fz zF fun r a b _ => X r (by omega) (by omega) (by omega) (by omega)
        · rw [X 15 (by decide) (by decide) (by decide) (by decide)]; exact k1
        · rw [X 15 (by decide) (by decide) (by decide) (by decide)]; exact k3
        · have := Nat.mod_lt (N1 + 12 - j) (show 0 < 12 by decide)
          refine HELD.cg (w := Qf (g 756) (fun j => wmo g (R0 - 1 - j)) n j) ?_ (fun k hk => z4' j hj k hk)
          exact (k4 j hj).fz zF fun r a b _ => X r (by unfold la at *; omega) (by unfold la at *; omega) (by unfold la at *; omega) (by unfold la at *; omega)
        · rw [X 2 (by decide) (by decide) (by decide) (by decide), fr 2 (by decide) (by omega)]; exact e3
        · rw [z6 9 (by decide) (by decide), up_k (by decide), fr 755 (by decide) (by omega)]; exact e4
        · rw [X 3 (by decide) (by decide) (by decide) (by decide), fr 3 (by decide) (by omega), X 761 (by decide) (by decide) (by decide) (by decide), fr 761 (by decide) (by omega)]; exact e6 k hk
        · rw [X 1 (by decide) (by decide) (by decide) (by decide), fr 1 (by decide) (by omega), z6 14 (by decide) (by decide), up_k (by decide), fr 755 (by decide) (by omega)]; exact W1
      exact ⟨G, em, em0, I2.mono (by omega)⟩
  · have hi' : (60 : Int32) < p1 := Int32.not_le.mp hi
    refine cl_r (h := h) (g := g) (fl := fun H => f_Lw_months H 1 p1 765) (fm := fun H => f_Model_months H 755 p1) I (lw_months_2 (H := uI h g) t ?_) (by decide) (fun h' g' t' x' => ⟨0, thr g' 1, ?_, thr_c, REF.thr⟩)
    · unfold f_Water_months f_Water_months_b0 f_Water_months_b11
      rw [if_neg lo, if_neg hi]
    · show f_Model_months_b0 (uI h' g') 755 p1 = _
      unfold f_Model_months_b0 f_Model_months_b21
      rw [if_pos (s7 _ _ t'), wr_s, sI_u, N_in, bI_s, if_neg lo, if_pos hi', if_pos rfl, if_pos (s7 _ _ t'), N_thr1 t'.td.1, bI_s, if_neg (by decide)]
      rfl
end U36
