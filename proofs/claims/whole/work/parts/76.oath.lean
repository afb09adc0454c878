/-! ===== oath, swap ===== -/
section U26
variable {h h1 : Hp} {g g' g1 g2 : Nat → Nat → Int32} {w w' : Nat → Int32} {A B L S c d k n l y j m q s i F r z E N M M' : Nat} {v x a b p1 p2 p3 p4 p5 : Int32} {f p : Nat → Nat} {fl fm fw : Hp → Option (Int32 × Hp)} {P Q : Nat → Int32}
def tS (f : Nat → Nat) : Nat → Nat → Nat
  | 0, _ => 0
  | j + 1, y => f y + tS f j (y + 1)
theorem tS_congr (e : ∀ z, y ≤ z → f z = p z) : tS f j y = tS p j y := by
  induction j generalizing y with
  | zero => rfl
  | succ j ih =>
    show f y + tS f j (y + 1) = p y + tS p j (y + 1)
    rw [e y (Nat.le_refl _), ih (fun z hz => e z (by omega))]
theorem tS_sm : smN f y + tS f j y = smN f (y + j) := by
  induction j generalizing y with
  | zero => rfl
  | succ j ih =>
    have := ih (y := y + 1)
    have e : smN f (y + 1) = smN f y + f y := rfl
    rw [e, show y + 1 + j = y + (j + 1) from by omega] at this
    show smN f y + (f y + tS f j (y + 1)) = _
    omega
/-- the oldest first: j years are left, from y on, and l measures -/
def odW (c : Nat) : Nat → Nat → Nat → (Nat → Int32) → (Nat → Int32) × Nat
  | 0, _, l, w => (w, l)
  | j + 1, y, l, w => odW c j (y + 1) (l - min l (ly w c y)) (tkW w c y (min l (ly w c y)))
theorem ly_tk (O : OKL w c) (hy : y < 30) (e : z ≠ y) : ly (tkW w c y s) c z = ly w c z := by
  have := (O y hy).2
  unfold tkW
  rw [ly_up (by omega), if_neg e]
theorem od_l (O : ∀ z, z < 30 → w (70 + 35 * c + z) = nI (ly w c z) ∧ ly w c z ≤ 999) : y + j ≤ 30 → (odW c j y l w).2 = l - min l (tS (ly w c) j y) := by
  intro hj
  induction j generalizing y l w with
  | zero => show l = l - min l 0; omega
  | succ j ih =>
    have O' : ∀ z, z < 30 → tkW w c y (min l (ly w c y)) (70 + 35 * c + z) = nI (ly (tkW w c y (min l (ly w c y))) c z) ∧ ly (tkW w c y (min l (ly w c y))) c z ≤ 999 := by
      intro z hz
      have oy := (O y (by omega)).2
      unfold tkW
      rw [ly_up (by omega)]
      by_cases e : z = y
      · rw [if_pos e, e, up1_eq]; exact ⟨rfl, by omega⟩
      · rw [if_neg e, up1_ne (by omega)]; exact O z hz
    show (odW c j (y + 1) (l - min l (ly w c y)) (tkW w c y (min l (ly w c y)))).2 = l - min l (ly w c y + tS (ly w c) j (y + 1))
    rw [ih O' (by omega), tS_congr (f := ly (tkW w c y (min l (ly w c y))) c) (p := ly w c) (fun z hz => ly_tk O (by omega) (by omega))]
    omega
theorem N_oath_L (t : TSr h) (hn : n < 2 ^ 31) : ∀ (j y l : Nat) (g : Nat → Nat → Int32) (w : Nat → Int32), y + j = 30 → l ≤ n → g 756 = w → WF M w → c < nc w → ∀ q,
    ∃ g', f_Model_oath_L42 (q + j + 1) (uI h g) 755 (nI c) (nI n) (nI l) (nI y) = some (nI (n - (odW c j y l w).2), uI h g') ∧ g' 756 = up1 (odW c j y l w).1 9 ((odW c j y l w).1 9 + nI (n - (odW c j y l w).2)) ∧ (odW c j y l w).2 ≤ l ∧ ∀ r, r ≠ 756 → g' r = g r := by
  have s : ∀ g, hS (uI h g) 755 = 11 := fun g => (t.iu (g := g)).1
  intro j
  induction j with
  | zero =>
    intro y l g w hy hl hg W hc q
    have hy' : y = 30 := hy
    obtain ⟨q1, q2, q3, q4⟩ := s56r (g := g) t
    have E : f_Model_oath_L42 (q + 0 + 1) (uI h g) 755 (nI c) (nI n) (nI l) (nI y) = f_Model_oath_b42 (f_Model_oath_L42 q) (uI h g) 755 (nI c) (nI n) (nI l) (nI y) := rfl
    rw [E]
    unfold f_Model_oath_b42
    rw [n30, hy', if_pos (Int32.le_refl _), if_pos q4, q1, if_pos q2, q3, show (9 : Int32) = nI 9 from rfl, if_pos (ib_n (by decide) (by decide)), if_pos (ib_n (by decide) (by decide)), ix_n (by decide), wr_s, pk_sub hl]
    refine ⟨_, rfl, ?_, Nat.le_refl _, fun r hr => up_row hr⟩
    rw [up2_row, hI_u, hg]
    rfl
  | succ j ih =>
    intro y l g w hy hl hg W hc q
    have h8 := W.2.1.1
    have O := (W.2.2.2.2.2.1 c hc).1
    have oy := O y (by omega)
    have E : f_Model_oath_L42 (q + (j + 1) + 1) (uI h g) 755 (nI c) (nI n) (nI l) (nI y) = f_Model_oath_b42 (f_Model_oath_L42 (q + j + 1)) (uI h g) 755 (nI c) (nI n) (nI l) (nI y) := rfl
    obtain ⟨g1, p1, p2, p3⟩ := N_take (s := min l (ly w c y)) (y := y) t hg O (by omega) (by omega) (by omega)
    have n0 : nc (tkW w c y (min l (ly w c y))) = nc w := congrArg ix (tk_lo (by decide))
    obtain ⟨g', z1, z2, z3, z4⟩ := ih (y + 1) (l - min l (ly w c y)) g1 _ (by omega) (by omega) p2 (W.tk hc (by omega) (by omega)) (by rw [n0]; exact hc) q
    rw [E]
    unfold f_Model_oath_b42
    rw [n30, if_neg (nI_ge (by omega) (by decide)), if_pos (s _), N_layer t (by omega) (by omega), bI_s, hg, oy.1, mn_n (by omega) (by omega), bI_s, if_pos (s _), p1, bV_s, pk_sub (by omega), nI_1]
    exact ⟨g', z1, z2, Nat.le_trans z3 (Nat.sub_le _ _), fun r hr => (z4 r hr).trans (p3 r hr)⟩
theorem C_oath_L (t : LDs h A) (hA : 6 ≤ A) {tk : Int32} : ∀ (j y l lc : Nat) (g : Nat → Nat → Int32) (w : Nat → Int32), y + j = 30 → lc = min l (tS (ly w c) j y) → RLa g A w → WF M w → c < nc w → ∀ q,
    ∃ g', f_Land_takeOldest_L15 (q + j + 1) (uI h g) A (A + 6 + 2 * c) tk (nI lc) (nI y) = some (tk, uI h g') ∧ RLa g' A (up1 (odW c j y l w).1 9 ((odW c j y l w).1 9 + tk)) ∧ WF M (odW c j y l w).1 ∧ CO w (odW c j y l w).1 ∧ FA A g g' := by
  have s4 : ∀ g, hS (uI h g) A = 4 := fun g => t.1
  intro j
  induction j with
  | zero =>
    intro y l lc g w hy hl R W hc q
    have hy' : y = 30 := hy
    have E : f_Land_takeOldest_L15 (q + 0 + 1) (uI h g) A (A + 6 + 2 * c) tk (nI lc) (nI y) = f_Land_takeOldest_b15 (f_Land_takeOldest_L15 q) (uI h g) A (A + 6 + 2 * c) tk (nI lc) (nI y) := rfl
    rw [E]
    unfold f_Land_takeOldest_b15
    rw [n30, hy', if_pos (Int32.le_refl _), if_pos (s4 _), wr_s]
    refine ⟨_, rfl, ?_, W, CO.rf, fun r hr => up_row (by omega)⟩
    refine R.sca W.2.1 (fun r _ _ h1 _ => up_row h1) (fun k hk => up1_ne (by omega)) ?_
    obtain ⟨s0, s1, s2, s3, s4, s5, s6, s7, s8, s9⟩ := R.1
    refine ⟨?_, ?_, ?_, ?_, ?_, ?_, ?_, ?_, ?_, ?_⟩
    · rw [up_k (by decide), up1_ne (by decide)]; exact s0
    · rw [up_k (by decide), up1_ne (by decide)]; exact s1
    · rw [up_k (by decide), up1_ne (by decide)]; exact s2
    · rw [up_k (by decide), up1_ne (by decide)]; exact s3
    · rw [up_k (by decide), up1_ne (by decide)]; exact s4
    · rw [up_k (by decide), up1_ne (by decide)]; exact s5
    · rw [up_k (by decide), up1_ne (by decide)]; exact s6
    · rw [up_k (by decide), up1_ne (by decide)]; exact s7
    · rw [up_k (by decide), up1_ne (by decide)]; exact s8
    · rw [up_eq, up1_eq, hI_u, s9]; rfl
  | succ j ih =>
    intro y l lc g w hy hl R W hc q
    have h8 := W.2.1.1
    have O := (W.2.2.2.2.2.1 c hc).1
    have oy := O y (by omega)
    obtain ⟨r1, r2, r3⟩ := R.2.1 c hc
    obtain ⟨s1, b2, b3, b4⟩ := (t.cs (c := c) (by omega)).un (g := g)
    have E : f_Land_takeOldest_L15 (q + (j + 1) + 1) (uI h g) A (A + 6 + 2 * c) tk (nI lc) (nI y) = f_Land_takeOldest_b15 (f_Land_takeOldest_L15 (q + j + 1)) (uI h g) A (A + 6 + 2 * c) tk (nI lc) (nI y) := rfl
    have hS1 : tS (ly w c) (j + 1) y = ly w c y + tS (ly w c) j (y + 1) := rfl
    rw [hS1] at hl
    have bnd : lc ≤ 2 ^ 20 := by
      have := tS_sm (f := ly w c) (y := y) (j := j + 1)
      rw [hS1, show y + (j + 1) = 30 from by omega] at this
      have m9 := (W.2.2.2.2.2.1 c hc).ms_lt
      have h2 : smN (ly w c) 30 = ms w c := rfl
      omega
    have pe : min lc (ly w c y) = min l (ly w c y) := by omega
    have n0 : nc (tkW w c y (min l (ly w c y))) = nc w := congrArg ix (tk_lo (by decide))
    have W' := W.tk (s := min l (ly w c y)) hc (show y < 30 by omega) (by omega)
    have R' := R.take W.2.1 hc O (show y < 30 by omega) (s := min l (ly w c y)) (by omega)
    obtain ⟨g', z1, z2, z3, z4, z5⟩ := ih (y + 1) (l - min l (ly w c y)) (lc - min l (ly w c y)) _ _ (by omega) (by rw [tS_congr (f := ly (tkW w c y (min l (ly w c y))) c) (p := ly w c) (fun z hz => ly_tk O (by omega) (by omega))]; omega) R' W' (by rw [n0]; exact hc) q
    rw [E]
    unfold f_Land_takeOldest_b15
    rw [n30, if_neg (nI_ge (by omega) (by decide)), if_pos s1, b2, if_pos b3, b4, if_pos (ib_n (by omega) (by decide)), ix_n (by omega), hI_u, r2 y (by omega), oy.1, mn_n (by omega) (by omega), bI_s, if_pos s1, C_take (t.cs (by omega)) (by omega), bV_s, pk_sub (by omega), nI_1, pe]
    have cw : CO w (tkW w c y (min l (ly w c y))) := fun k _ h2 _ => up1_ne (by omega)
    exact ⟨g', z1, z2, z3, cw.tr z4, FA.tr (fun r hr => pt_row (by omega) (by omega)) z5⟩
theorem WF.s9 (W : WF M w) (hk : 5 ≤ k ∧ k ≤ 9) : WF M (up1 w k v) := W.co (fun j h1 _ _ => up1_ne (by omega)) fun c hc => by
  have h8 := W.2.1.1
  have Wc := W.2.2.2.2.2.1 c hc
  exact Wc.of (b := ly w c) (fun z hz => (up1_ne (by omega)).trans (Wc.1 z hz).1) Wc.2.1.2.2 (fun j hj => up1_ne (by omega))
theorem tS_30 : tS f 30 0 = smN f 30 := by
  have := tS_sm (f := f) (y := 0) (j := 30)
  have z : smN f 0 = 0 := rfl
  rw [z, Nat.zero_add, Nat.zero_add] at this
  exact this
theorem sp_oath : LSp M (fun H => f_Lw_oath H 1 p1 p2 765) (fun H => f_Model_oath H 755 p1 p2) := by
  intro H I
  obtain ⟨h, g, rfl⟩ : ∃ h g, H = uI h g := ⟨H, hI H, rfl⟩
  have I : INV M h g := I
  obtain ⟨t, W, R, Lr, e0, e1, e2, n8, nh8, nd8⟩ := I.us
  obtain ⟨⟨w1, wr0, wr1, wr2, wr3, w5, wr5, wr6, wr7, wr8, wr9⟩, w6, w7⟩ := WTR (g := g) t
  have s7 : ∀ (h : Hp) (g : Nat → Nat → Int32), TS h → hS (uI h g) 755 = 11 := fun h g t => t.td.1.1
  have s56 : ∀ (h : Hp) (g : Nat → Nat → Int32), TS h → hR (uI h g) 755 1 = 756 ∧ hS (uI h g) 756 = 20 ∧ hL (uI h g) 756 = 2291 := fun h g t => ⟨t.td.1.2.1.1, t.td.1.2.2.1.1, t.td.1.2.2.1.2⟩
  have l9 := t.l9
  rcases bad_or p1 (n := nc (g 756)) (by omega) with bd | ⟨c, hc, rfl⟩
  · refine cl_r (h := h) (g := g) (fl := fun H => f_Lw_oath H 1 p1 p2 765) (fm := fun H => f_Model_oath H 755 p1 p2) I (lw_oath_1 (H := uI h g) t ?_) (by decide) (fun h' g' t' x' => ⟨0, thr g' 1, ?_, thr_c, REF.thr⟩)
    · unfold f_Water_oath f_Water_oath_b0
      rw [if_pos w1, (C_needC t e0 (by omega)).1 bd, bX_r]
    · show f_Model_oath_b0 (uI h' g') 755 p1 p2 = _
      unfold f_Model_oath_b0
      rw [if_pos (s7 _ _ t'), wr_s, sI_u, (N_noC t'.td.1 (g := up2 g' 755 0 0) (n := nc (g 756)) (by rw [th_r (by decide), x' 756 (by decide)]; exact W.1.1) (by omega)).1 bd, bI_s, if_pos (s7 _ _ t'), N_thr1 t'.td.1, bI_s, if_neg (by decide)]
      rfl
  by_cases neg : p2 < 0
  · refine cl_r (h := h) (g := g) (fl := fun H => f_Lw_oath H 1 (nI c) p2 765) (fm := fun H => f_Model_oath H 755 (nI c) p2) I (lw_oath_2 (H := uI h g) t ?_) (by decide) (fun h' g' t' x' => ⟨0, thr g' 2, ?_, thr_c, REF.thr⟩)
    · unfold f_Water_oath f_Water_oath_b0
      rw [if_pos w1, (C_needC (x := 0) t e0 (by omega)).2 c hc, bX_l, if_neg (fun z => Int32.lt_irrefl (Int32.lt_of_lt_of_le neg z))]
    · show f_Model_oath_b0 (uI h' g') 755 (nI c) p2 = _
      unfold f_Model_oath_b0 f_Model_oath_b28
      rw [if_pos (s7 _ _ t'), wr_s, sI_u, (N_noC (x := 0) t'.td.1 (g := up2 g' 755 0 0) (n := nc (g 756)) (by rw [th_r (by decide), x' 756 (by decide)]; exact W.1.1) (by omega)).2 c hc, bI_s, if_pos (s7 _ _ t'), N_thr0 t'.td.1, bI_s, if_pos rfl, if_neg (fun z => Int32.lt_irrefl (Int32.lt_of_lt_of_le neg z)), if_pos (s7 _ _ t'), N_thr1 t'.td.1, bI_s, if_neg (by decide)]
      rfl
  obtain ⟨n, hn, rfl⟩ := nI_of neg
  have O := (W.2.2.2.2.2.1 c hc).1
  have m9 := (W.2.2.2.2.2.1 c hc).ms_lt
  obtain ⟨a1, a2, a3, a4, a5⟩ := (l9.iu (g := g)).cr (c := c) (by omega)
  obtain ⟨r1, r2, r3⟩ := R.2.1 c hc
  have od2 := od_l (w := g 756) (c := c) (y := 0) (j := 30) (l := n) O (by decide)
  have ms30 : tS (ly (g 756) c) 30 0 = ms (g 756) c := tS_30
  rw [ms30] at od2
  obtain ⟨g1, q1, q2, q3, q4, q5⟩ := C_oath_L (h := h) (A := 569) (c := c) (tk := nI (min n (ms (g 756) c))) l9 (by decide) 30 0 n (min n (ms (g 756) c)) g (g 756) rfl (by rw [ms30]) R W hc 999969
  have g6 : g1 756 = g 756 := q5 756 (by omega)
  refine cl_l (h := h) (g := g) (fl := fun H => f_Lw_oath H 1 (nI c) (nI n) 765) (fm := fun H => f_Model_oath H 755 (nI c) (nI n)) (h1 := h) (g1 := g1) (v := nI (min n (ms (g 756) c))) (lw_oath (H := uI h g) (H1 := uI h (g1)) t t ?_) t (fun h' t' => ?_) (by omega) (by omega)
  · unfold f_Water_oath f_Water_oath_b0 f_Land_takeOldest f_Land_takeOldest_b0
    rw [if_pos w1, (C_needC (x := 0) t e0 (by omega)).2 c hc, bX_l, if_pos (nI_pos' hn), if_pos w1, w5, if_pos w6, a3, if_pos a4, a5, if_pos (ib_n (by omega) (by decide)), ix_n (by omega), a1, if_pos a2, hI_u, r3, mn_n hn (by omega), bI_s, FU_30, show (0 : Int32) = nI 0 from rfl, q1, bI_s]
  · obtain ⟨g2, z1, z2, z3, z4⟩ := N_oath_L (M := M) (c := c) (n := n) t'.td.1 hn 30 0 n (up2 g1 755 0 0) (g 756) rfl (Nat.le_refl _) (by rw [th_r (by decide)]; exact g6) W hc 999969
    rw [od2, show n - (n - min n (ms (g 756) c)) = min n (ms (g 756) c) from by omega] at z1 z2
    have em : f_Model_oath_b0 (uI h' (g1)) 755 (nI c) (nI n) = some (nI (min n (ms (g 756) c)), uI h' (g2)) := by
      unfold f_Model_oath_b0 f_Model_oath_b28
      rw [if_pos (s7 _ _ t'), wr_s, sI_u, (N_noC (x := 0) t'.td.1 (g := up2 g1 755 0 0) (n := nc (g 756)) (by rw [th_r (by decide), g6]; exact W.1.1) (by omega)).2 c hc, bI_s, if_pos (s7 _ _ t'), N_thr0 t'.td.1, bI_s, if_pos rfl, if_pos (nI_pos' hn), if_pos (s7 _ _ t'), N_thr0 t'.td.1, bI_s, if_pos rfl, FU_30]
      exact z1
    refine ⟨g2, em, by rw [z4 755 (by decide)]; exact up_eq, I.go (g1 := g1) (by omega) ((q3.s9 (k := 9) (by omega)).mono (by omega)) q2 ?_ (FH.fa q5) z2 (fun r h1 h2 _ _ _ _ _ => by rw [z4 r h2, up_row h1]) (fun j hj => by rw [z4 755 (by decide), up_k (by omega)])⟩
    exact LR.congr (Lr.hi fun r hr => q5 r (by omega)) ((up1_ne (by omega)).trans (q4 3 (by decide) (by decide) (by omega))) (fun k hk => (up1_ne (by omega)).trans (q4.hi k hk))
end U26
