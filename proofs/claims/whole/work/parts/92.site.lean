/-! ===== site (wip/whole/gen/g92.py) ===== -/
section U42
variable {h h1 h0 : Hp} {g g' g1 g2 g0 : Nat → Nat → Int32} {w w' w0 u : Nat → Int32} {A B L S c d k n l y j m q s i r z E N M M' o T R V : Nat} {v x a b p1 p2 p3 p4 p5 : Int32} {Q : Nat → Nat → Int32}
/-- j months of leaks -/
def lkE (w : Nat → Int32) : Nat → Nat → Int32
  | 0 => w
  | j + 1 => lkE (leaksW w (nc w)) j
theorem WFn.lk (W : WFn w) : WFn (leaksW w (nc w)) ∧ nc (leaksW w (nc w)) = nc w := by
  obtain ⟨W0, W1, W2, W3, W4⟩ := W
  have x := leaks_co (w := w) W1
  have e0 := x.nc
  refine ⟨⟨?_, by rw [e0]; exact W1, by rw [x.nh]; exact W2, by rw [x.nd]; exact W3, ?_⟩, e0⟩
  · rw [e0, x 0 (by decide) (by decide) (by omega)]; exact W0
  · rw [e0]; exact WF_leaks W1 W4 _ (Nat.le_refl _)
theorem lkE_hi : ∀ (j : Nat) {w : Nat → Int32}, WFn w → ∀ k, 617 ≤ k → lkE w j k = w k := by
  intro j
  induction j with
  | zero => intro w _ k _; rfl
  | succ j ih => intro w W k hk; exact (ih W.lk.1 k hk).trans ((leaks_co W.2.1).hi k hk)
theorem C_lost_L (t : TS h) : ∀ (j i : Nat) (g : Nat → Nat → Int32) (w : Nat → Int32), i + j = 12 → RLa g 615 w → WFn w → ∀ q, ∃ g', f_Water_lostBySite_L62 (q + j + 1) (uI h g) 1 a (nI i) = some (lkE w j 6 - a, uI h g') ∧ FA 615 g g' := by
  have w1 : ∀ g, hS (uI h g) 1 = 10 := fun g => t.td.2.1.1
  have w6 : ∀ g, hR (uI h g) 1 5 = 615 := fun g => t.td.2.1.2.1.2.2.2.2.2.1
  have d13 := t.ld (c := 13) (by decide)
  rw [la13] at d13
  have s4 : ∀ g, hS (uI h g) 615 = 4 := fun g => d13.1
  intro j
  induction j with
  | zero =>
    intro i g w hi R W q
    have hi' : i = 12 := hi
    subst hi'
    refine ⟨g, ?_, FA.rf⟩
    show f_Water_lostBySite_b62 (f_Water_lostBySite_L62 q) (uI h g) 1 a (nI 12) = _
    unfold f_Water_lostBySite_b62
    rw [if_pos (show (12 : Int32) ≤ nI 12 by decide), if_pos (w1 _), w6, if_pos (s4 _), hI_u, R.1.2.2.2.2.2.2.1]
    rfl
  | succ j ih =>
    intro i g w hi R W q
    have E : f_Water_lostBySite_L62 (q + (j + 1) + 1) (uI h g) 1 a (nI i) = f_Water_lostBySite_b62 (f_Water_lostBySite_L62 (q + j + 1)) (uI h g) 1 a (nI i) := rfl
    obtain ⟨g1, q1, q2, q3⟩ := C_leaks d13 (by decide) R W
    obtain ⟨g', z1, z2⟩ := ih (i + 1) g1 _ (by omega) q2 W.lk.1 q
    refine ⟨g', ?_, q3.tr z2⟩
    rw [E]
    unfold f_Water_lostBySite_b62
    rw [if_neg (show ¬ (12 : Int32) ≤ nI i from nI_ge (b := 12) (by omega) (by decide)), if_pos (w1 _), w6, if_pos (s4 _), q1, bV_s, nI_1]
    exact z1
/-- what is lost with the new one at c -/
def siL (w : Nat → Int32) (v : Int32) (c : Nat) : Int32 := lkE (siW w v c) 12 6 - w 6
def siF (w : Nat → Int32) (v : Int32) : Int32 → Int32 → Nat → Nat → Int32
  | b, _, _, 0 => b
  | b, x, c, j + 1 => if b < 0 then siF w v (nI c) (siL w v c) (c + 1) j else if siL w v c < x then siF w v (nI c) (siL w v c) (c + 1) j else siF w v b x (c + 1) j
theorem si_lo (hk : k ≠ 0) (h65 : k < 65) : siW w v c k = w k := (up1_ne (by omega)).trans (nw_o hk (by omega))
theorem C_lostBy (I : INV M h g) (hw : g 756 = w) (h8 : nc w < 8) (hV : V ≤ 999) (hc : c < nc w) : ∃ g', f_Water_lostBySite (uI h g) 1 (nI c) (nI V) = some (siL w (nI V) c, uI (sR h 615 8 (hR h 569 8)) g') ∧ INV M (sR h 615 8 (hR h 569 8)) g' ∧ ∀ r, r ≤ 765 → (r < 615 ∨ 660 < r) → g' r = g r := by
  obtain ⟨t, W, -⟩ := I.us
  rw [hw] at W
  obtain ⟨⟨w1, -, -, -, -, w5, w6, -⟩, -, -⟩ := WTR (g := g) t
  obtain ⟨g1, q1, t1, H1, q4, I1⟩ := C_trial I
  rw [hw] at H1
  have d13 := t1.ld (c := 13) (by decide)
  rw [la13] at d13
  have st : ∀ G, hS (uI (sR h 615 8 (hR h 569 8)) G) 1 = 10 ∧ hR (uI (sR h 615 8 (hR h 569 8)) G) 1 5 = 615 ∧ hS (uI (sR h 615 8 (hR h 569 8)) G) 615 = 4 := fun G => ⟨t1.td.2.1.1, w6, d13.1⟩
  have Wn : WFn w := W.wn
  obtain ⟨g2, b1, b2, b3⟩ := C_addC (A := 615) (g := g1) (v := nI V) (b := 0) d13 H1.2.1 W.2.1 W.1.1 h8
  have g10 : g1 615 0 = nI (nc w) := H1.2.1.1.1.trans W.1.1
  have ec := nw_cn (v := nI V) (b := 0) W.1.1 h8
  have eh : nh (newC w (nI V) 0) = nh w := congrArg ix (nw_o (by decide) (by omega))
  have ed : nd (newC w (nI V) 0) = nd w := congrArg ix (nw_o (by decide) (by omega))
  obtain ⟨r1, r2, r3⟩ := b2.2.1 c (by rw [ec]; omega)
  obtain ⟨x1, x2, x3⟩ := Wn.2
  have R3 : RLa (up2 g2 (615 + 6 + 2 * c) 4 (nI (nc w))) 615 (siW w (nI V) c) := by
    refine b2.cis (w' := siW w (nI V) c) (c := c) ⟨by rw [ec]; omega, by rw [eh]; exact W.2.1.2.1, by rw [ed]; exact W.2.1.2.2⟩ (by rw [ec]; omega) (fun r _ _ h3 _ _ => up_row h3) (fun k hk => up1_ne (by omega)) ⟨fun j hj => ?_, fun y hy => ?_, ?_⟩
    · by_cases e : j = 4
      · subst e
        rw [up_eq, show 65 + 35 * c + 4 = 69 + 35 * c from by omega]
        exact up1_eq.symm
      · rw [up_k e, r1 j hj]
        exact (up1_ne (by omega)).symm
    · rw [up_r (by omega), r2 y hy]
      exact (up1_ne (by omega)).symm
    · rw [up_k (by decide), r3]
      exact congrArg nI (ms_eq fun y hy => up1_ne (by omega)).symm
  obtain ⟨g', z1, z2⟩ := C_lost_L (a := siW w (nI V) c 6) t1 12 0 (up2 g2 (615 + 6 + 2 * c) 4 (nI (nc w))) (siW w (nI V) c) rfl R3 (si_wf Wn h8 hV hc) 999987
  have F : FA 615 g1 g' := b3.tr (FA.tr (fun r hr => up_row (by omega)) z2)
  refine ⟨g', ?_, I1.ft H1.2.2 (FH.fa F), fun r h1 h2 => (F r (by omega)).trans (q4 r (by omega))⟩
  obtain ⟨c1, c2, c3, c4, c5⟩ := (d13.iu (g := g2)).cr (c := c) (by omega)
  have s6 : siW w (nI V) c 6 = w 6 := si_lo (by decide) (by decide)
  have g6 : up2 g2 (615 + 6 + 2 * c) 4 (nI (nc w)) 615 12 = siW w (nI V) c 6 := R3.1.2.2.2.2.2.2.1
  unfold f_Water_lostBySite f_Water_lostBySite_b0 f_Water_lostBySite_b50
  rw [if_pos w1, w6, if_pos (show hS (uI h g) 615 = 4 from (t.ld (c := 13) (by decide)).1), w5, q1, bV_s, if_pos (st _).1, (st _).2.1, if_pos (st _).2.2, b1, bV_s, if_neg (nI_pos (by omega)), hI_u, g10, if_neg (nI_ge hc (by omega)), if_pos (st _).1, (st _).2.1, if_pos (st _).2.2, c3, if_pos c4, c5, if_pos (ib_n (by omega) (by decide)), ix_n (by omega), c1, if_pos c2, wr_s, sI_u, if_pos (st _).1, (st _).2.1, if_pos (st _).2.2, hI_u, g6]
  show f_Water_lostBySite_L62 (999987 + 12 + 1) (uI (sR h 615 8 (hR h 569 8)) (up2 g2 (615 + 6 + 2 * c) 4 (nI (nc w)))) 1 (siW w (nI V) c 6) (nI 0) = _
  rw [z1, s6]
  rfl
theorem C_site_L (h8 : nc w < 8) (hV : V ≤ 999) : ∀ (j c : Nat) (b x : Int32) (h : Hp) (g : Nat → Nat → Int32), c + j = nc w → (b = -1 ∨ ¬ b < 0) → INV M h g → g 756 = w → (∀ r, r ≤ 765 → (r < 615 ∨ 660 < r) → g r = g0 r) → hN h = hN h0 → hZ h = hZ h0 → ∀ q, ∃ h' g', f_Water_site_L44 (q + j + 1) (uI h g) 1 (nI V) b x (nI c) = some (.inl (siF w (nI V) b x c j), uI h' g') ∧ INV M h' g' ∧ g' 756 = w ∧ (∀ r, r ≤ 765 → (r < 615 ∨ 660 < r) → g' r = g0 r) ∧ hN h' = hN h0 ∧ hZ h' = hZ h0 := by
  intro j
  induction j with
  | zero =>
    intro c b x h g hc hb I e6 fr n1 z1 q
    have hc' : c = nc w := hc
    subst hc'
    obtain ⟨t, W, R, -⟩ := I.us
    rw [e6] at W R
    obtain ⟨⟨w1, -, -, -, -, w5, w6, -⟩, s9, -⟩ := WTR (g := g) t
    refine ⟨h, g, ?_, I, e6, fr, n1, z1⟩
    show f_Water_site_b44 (f_Water_site_L44 q) (uI h g) 1 (nI V) b x (nI (nc w)) = _
    unfold f_Water_site_b44
    rw [if_pos w1, w5, if_pos s9, hI_u, R.1.1, W.1.1, if_pos (Int32.le_refl _)]
    rfl
  | succ j ih =>
    intro c b x h g hc hb I e6 fr n1 y1 q
    obtain ⟨t, W, R, -⟩ := I.us
    rw [e6] at W R
    obtain ⟨⟨w1, -, -, -, -, w5, w6, -⟩, s9, -⟩ := WTR (g := g) t
    obtain ⟨g3, q1, I3, X⟩ := C_lostBy I e6 h8 hV (c := c) (by omega)
    have E : f_Water_site_L44 (q + (j + 1) + 1) (uI h g) 1 (nI V) b x (nI c) = f_Water_site_b44 (f_Water_site_L44 (q + j + 1)) (uI h g) 1 (nI V) b x (nI c) := rfl
    have nx := fun (b x : Int32) (hb : b = -1 ∨ ¬ b < 0) => ih (c + 1) b x (sR h 615 8 (hR h 569 8)) g3 (by omega) hb I3 ((X 756 (by decide) (by omega)).trans e6) (fun r a b => (X r a b).trans (fr r a b)) n1 y1 q
    have F : siF w (nI V) b x c (j + 1) = (if b < 0 then siF w (nI V) (nI c) (siL w (nI V) c) (c + 1) j else if siL w (nI V) c < x then siF w (nI V) (nI c) (siL w (nI V) c) (c + 1) j else siF w (nI V) b x (c + 1) j) := rfl
    rw [E, F]
    unfold f_Water_site_b44 f_Water_site_b76 f_Water_site_b82
    rw [if_pos w1, w5, if_pos s9, hI_u, R.1.1, W.1.1, if_neg (nI_ge (by omega) (by omega)), q1, bI_s, nI_1]
    have pc : ¬ nI c < 0 := nI_pos (by omega)
    by_cases c2 : b = -1
    · rw [if_pos c2, if_pos (show b < 0 by rw [c2]; decide)]
      exact nx _ _ (Or.inr pc)
    · rw [if_neg c2, if_neg (hb.resolve_left c2)]
      by_cases c3 : x ≤ siL w (nI V) c
      · rw [if_pos c3, if_neg (Int32.not_lt.mpr c3)]
        exact nx _ _ hb
      · rw [if_neg c3, if_pos (Int32.not_le.mp c3)]
        exact nx _ _ (Or.inr pc)
theorem N_site65 {f : Hp → Nat → Int32 → Int32 → Int32 → Int32 → Int32 → Option (Int32 × Hp)} (t : TSr h) (hn : n < 8) : ∀ (j i : Nat) (g : Nat → Nat → Int32), i + j = 35 → (∀ k, k < i → g 756 (65 + 35 * n + k) = 0) → ∀ q, ∃ g', f_Model_site_L65 f (q + j + 1) (uI h g) 755 p1 (nI n) p3 p4 p5 (nI i) = f_Model_site_b65 f (f_Model_site_L65 f q) (uI h g') 755 p1 (nI n) p3 p4 p5 (nI 35) ∧ (∀ k, k < 35 → g' 756 (65 + 35 * n + k) = 0) ∧ (∀ k, ¬ (65 + 35 * n ≤ k ∧ k < 100 + 35 * n) → g' 756 k = g 756 k) ∧ ∀ r, r ≠ 756 → g' r = g r := by
  have s7 : ∀ g, hS (uI h g) 755 = 11 := fun g => t.1
  intro j
  induction j with
  | zero =>
    intro i g hi hz q
    have hi' : i = 35 := hi
    subst hi'
    exact ⟨g, rfl, hz, fun _ _ => rfl, fun _ _ => rfl⟩
  | succ j ih =>
    intro i g hi hz q
    have E : f_Model_site_L65 f (q + (j + 1) + 1) (uI h g) 755 p1 (nI n) p3 p4 p5 (nI i) = f_Model_site_b65 f (f_Model_site_L65 f (q + j + 1)) (uI h g) 755 p1 (nI n) p3 p4 p5 (nI i) := rfl
    obtain ⟨g', z1, z2, z3, z4⟩ := ih (i + 1) (up2 g 756 (65 + 35 * n + i) 0) (by omega) (fun k hk => by
      by_cases e : k = i
      · subst e; exact up_eq
      · rw [up_k (by omega)]; exact hz k (by omega)) q
    refine ⟨g', ?_, z2, fun k hk => (z3 k hk).trans (up_k (by omega)), fun r hr => (z4 r hr).trans (up_row hr)⟩
    rw [E, ← z1]
    show f_Model_site_b65 f (f_Model_site_L65 f (q + j + 1)) (uI h g) 755 p1 (nI n) p3 p4 p5 (nI i) = _
    conv => lhs; unfold f_Model_site_b65
    rw [if_neg (show ¬ (35 : Int32) ≤ nI i from nI_ge (b := 35) (by omega) (by decide)), if_pos (s7 _), N_sets t hn (by omega), bV_s, nI_1]
theorem N_site130 {f : Hp → Nat → Int32 → Int32 → Int32 → Int32 → Int32 → Option (Int32 × Hp)} (t : TSr h) : ∀ (j i : Nat) (g : Nat → Nat → Int32), i + j = 12 → WFn (g 756) → ∀ q, ∃ g', f_Model_site_L130 f (q + j + 1) (uI h g) 755 p1 p2 p3 p4 p5 a (nI i) = (if p3 < 0 then f (uI h (cpg g' 759 756 617)) 755 p1 p2 p5 (lkE (g 756) j 6 - a) (p5 + 1) else if lkE (g 756) j 6 - a < p4 then f (uI h (cpg g' 759 756 617)) 755 p1 p2 p5 (lkE (g 756) j 6 - a) (p5 + 1) else f (uI h (cpg g' 759 756 617)) 755 p1 p2 p3 p4 (p5 + 1)) ∧ g' 756 = lkE (g 756) j ∧ ∀ r, r ≠ 756 → g' r = g r := by
  have s7 : ∀ g, hS (uI h g) 755 = 11 := fun g => t.1
  have r1 : ∀ g, hR (uI h g) 755 1 = 756 := fun g => t.2.1.1
  have s6 : ∀ g, hS (uI h g) 756 = 20 := fun g => t.2.2.1.1
  have l6 : ∀ g, hL (uI h g) 756 = 2291 := fun g => t.2.2.1.2
  intro j
  induction j with
  | zero =>
    intro i g hi W q
    have hi' : i = 12 := hi
    subst hi'
    refine ⟨g, ?_, rfl, fun _ _ => rfl⟩
    show f_Model_site_b130 f (f_Model_site_L130 f q) (uI h g) 755 p1 p2 p3 p4 p5 a (nI 12) = _
    unfold f_Model_site_b130 f_Model_site_b177 f_Model_site_b184
    rw [if_pos (show (12 : Int32) ≤ nI 12 by decide), if_pos (s7 _), r1, if_pos (s6 _), l6, if_pos (by decide), M_laysBack (h := uI h g) t, bV_s, cp_g, hI_u]
    rfl
  | succ j ih =>
    intro i g hi W q
    have E : f_Model_site_L130 f (q + (j + 1) + 1) (uI h g) 755 p1 p2 p3 p4 p5 a (nI i) = f_Model_site_b130 f (f_Model_site_L130 f (q + j + 1)) (uI h g) 755 p1 p2 p3 p4 p5 a (nI i) := rfl
    obtain ⟨g1, q1, q2, q3⟩ := N_leaks (n := nc (g 756)) t W.2.1 W.1 W.2.2.2.2
    obtain ⟨g', z1, z2, z3⟩ := ih (i + 1) g1 (by omega) (by rw [q2]; exact W.lk.1) q
    rw [q2] at z1 z2
    refine ⟨g', ?_, z2, fun r hr => (z3 r hr).trans (q3 r hr)⟩
    rw [E]
    unfold f_Model_site_b130
    rw [if_neg (show ¬ (12 : Int32) ≤ nI i from nI_ge (b := 12) (by omega) (by decide)), if_pos (s7 _), q1, bV_s, nI_1]
    exact z1
theorem N_site_L (t : TSr h) (W : WFn w) (h8 : nc w < 8) (hV : V ≤ 999) : ∀ (j c : Nat) (b x : Int32) (g : Nat → Nat → Int32), c + j = nc w → g 756 = w → (∀ k, k < 617 → g 759 k = w k) → ∀ q, ∃ g', f_Model_site_L56 (q + j + 1) (uI h g) 755 (nI V) (nI (nc w)) b x (nI c) = some (siF w (nI V) b x c j, uI h g') ∧ g' 756 = w ∧ ∀ r, r ≠ 756 → g' r = g r := by
  have s7 : ∀ g, hS (uI h g) 755 = 11 := fun g => t.1
  have r1 : ∀ g, hR (uI h g) 755 1 = 756 := fun g => t.2.1.1
  have s6 : ∀ g, hS (uI h g) 756 = 20 := fun g => t.2.2.1.1
  have l6 : ∀ g, hL (uI h g) 756 = 2291 := fun g => t.2.2.1.2
  intro j
  induction j with
  | zero =>
    intro c b x g hc e6 e9 q
    have hc' : c = nc w := hc
    subst hc'
    refine ⟨g, ?_, e6, fun _ _ => rfl⟩
    show f_Model_site_b56 (f_Model_site_L56 q) (uI h g) 755 (nI V) (nI (nc w)) b x (nI (nc w)) = _
    unfold f_Model_site_b56
    rw [if_pos (Int32.le_refl _)]
    rfl
  | succ j ih =>
    intro c b x g hc e6 e9 q
    have E : f_Model_site_L56 (q + (j + 1) + 1) (uI h g) 755 (nI V) (nI (nc w)) b x (nI c) = f_Model_site_b56 (f_Model_site_L56 (q + j + 1)) (uI h g) 755 (nI V) (nI (nc w)) b x (nI c) := rfl
    obtain ⟨g1, a1, a2, a3, a4⟩ := N_site65 (f := f_Model_site_L56 (q + j + 1)) (p1 := nI V) (p3 := b) (p4 := x) (p5 := nI c) (n := nc w) t h8 35 0 g rfl (fun k hk => absurd hk (Nat.not_lt_zero _)) 999964
    have row : up1 (up1 (up1 (up1 (g1 756) (65 + 35 * nc w + 0) (nI V)) (65 + 35 * nc w + 4) (-1)) (65 + 35 * c + 4) (nI (nc w))) 0 (w 0 + 1) = siW w (nI V) c := by
      funext k
      by_cases k0 : k = 0
      · subst k0
        rw [up1_eq]
        exact ((up1_ne (by omega)).trans nw_0).symm
      rw [up1_ne k0]
      by_cases k1 : k = 69 + 35 * c
      · subst k1
        rw [show 65 + 35 * c + 4 = 69 + 35 * c from by omega, up1_eq]
        exact up1_eq.symm
      rw [up1_ne (by omega)]
      have rr : siW w (nI V) c k = newC w (nI V) 0 k := up1_ne k1
      rw [rr]
      by_cases k2 : k = 69 + 35 * nc w
      · subst k2
        rw [show 65 + 35 * nc w + 4 = 69 + 35 * nc w from by omega, up1_eq]
        exact nw_t.symm
      rw [up1_ne (by omega)]
      by_cases k3 : k = 65 + 35 * nc w
      · subst k3
        rw [show 65 + 35 * nc w + 0 = 65 + 35 * nc w from rfl, up1_eq]
        exact nw_r.symm
      rw [up1_ne (by omega)]
      by_cases k4 : 65 + 35 * nc w ≤ k ∧ k < 100 + 35 * nc w
      · have z := a2 (k - (65 + 35 * nc w)) (by omega)
        rw [show 65 + 35 * nc w + (k - (65 + 35 * nc w)) = k from by omega] at z
        rw [z]
        by_cases k5 : k = 66 + 35 * nc w
        · subst k5; exact nw_b.symm
        · exact (nw_z (by omega) (by omega) k2).symm
      · rw [a3 k k4, e6, nw_o k0 k4]
    have g0v : up2 (up2 (up2 g1 756 (65 + 35 * nc w + 0) (nI V)) 756 (65 + 35 * nc w + 4) (-1)) 756 (65 + 35 * c + 4) (nI (nc w)) 756 0 = w 0 := by
      rw [up_k (by omega), up_k (by omega), up_k (by omega), a3 0 (by omega), e6]
    have rowg : up2 (up2 (up2 (up2 g1 756 (65 + 35 * nc w + 0) (nI V)) 756 (65 + 35 * nc w + 4) (-1)) 756 (65 + 35 * c + 4) (nI (nc w))) 756 0 (w 0 + 1) 756 = siW w (nI V) c := by
      rw [up2_row, up2_row, up2_row, up2_row]; exact row
    obtain ⟨g2, b1, b2, b3⟩ := N_site130 (f := f_Model_site_L56 (q + j + 1)) (p1 := nI V) (p2 := nI (nc w)) (p3 := b) (p4 := x) (p5 := nI c) (a := w 6) t 12 0 (up2 (up2 (up2 (up2 g1 756 (65 + 35 * nc w + 0) (nI V)) 756 (65 + 35 * nc w + 4) (-1)) 756 (65 + 35 * c + 4) (nI (nc w))) 756 0 (w 0 + 1)) rfl (by rw [rowg]; exact si_wf W h8 hV (by omega)) 999987
    rw [rowg] at b1 b2
    have fr : ∀ r, r ≠ 756 → g2 r = g r := fun r hr => (b3 r hr).trans (by rw [up_row hr, up_row hr, up_row hr, up_row hr, a4 r hr])
    have lw : cpg g2 759 756 617 756 = w := lay_eq (fun k hk => by rw [fr 759 (by decide)]; exact e9 k hk) (fun k hk => by rw [b2, lkE_hi 12 (si_wf W h8 hV (by omega)) k hk]; exact (up1_ne (by omega)).trans (nw_o (by omega) (by omega)))
    have nx := fun (b x : Int32) => ih (c + 1) b x (cpg g2 759 756 617) (by omega) lw (fun k hk => by rw [cpg_r (by decide), fr 759 (by decide)]; exact e9 k hk) q
    have fin : ∀ (b x : Int32), ∃ g', f_Model_site_L56 (q + j + 1) (uI h (cpg g2 759 756 617)) 755 (nI V) (nI (nc w)) b x (nI (c + 1)) = some (siF w (nI V) b x (c + 1) j, uI h g') ∧ g' 756 = w ∧ ∀ r, r ≠ 756 → g' r = g r := fun b x => by
      obtain ⟨g', z1, z2, z3⟩ := nx b x
      exact ⟨g', z1, z2, fun r hr => (z3 r hr).trans ((cpg_r hr).trans (fr r hr))⟩
    have F : siF w (nI V) b x c (j + 1) = (if b < 0 then siF w (nI V) (nI c) (siL w (nI V) c) (c + 1) j else if siL w (nI V) c < x then siF w (nI V) (nI c) (siL w (nI V) c) (c + 1) j else siF w (nI V) b x (c + 1) j) := rfl
    have b1' : f_Model_site_L130 (f_Model_site_L56 (q + j + 1)) FU (uI h (up2 (up2 (up2 (up2 g1 756 (65 + 35 * nc w + 0) (nI V)) 756 (65 + 35 * nc w + 4) (-1)) 756 (65 + 35 * c + 4) (nI (nc w))) 756 0 (w 0 + 1))) 755 (nI V) (nI (nc w)) b x (nI c) (w 6) 0 = _ := b1
    have i0 : ix (0 : Int32) = 0 := rfl
    have i6 : ix (6 : Int32) = 6 := rfl
    have a1' : f_Model_site_L65 (f_Model_site_L56 (q + j + 1)) FU (uI h g) 755 (nI V) (nI (nc w)) b x (nI c) 0 = _ := a1
    have v6 : up2 (up2 (up2 (up2 g1 756 (65 + 35 * nc w + 0) (nI V)) 756 (65 + 35 * nc w + 4) (-1)) 756 (65 + 35 * c + 4) (nI (nc w))) 756 0 (w 0 + 1) 756 6 = w 6 := by rw [rowg]; exact si_lo (by decide) (by decide)
    have sS : ∀ (g : Nat → Nat → Int32) (c j : Nat) (v : Int32), c < 8 → j < 35 → f_Model_setsCistern (uI h g) 755 (nI c) (nI j) v = some (uI h (up2 g 756 (65 + 35 * c + j) v)) := fun g c j v hc hj => N_sets t hc hj
    rw [E, F]
    unfold f_Model_site_b56
    rw [if_neg (nI_ge (by omega) (by omega)), a1']
    unfold f_Model_site_b65
    rw [if_pos (show (35 : Int32) ≤ nI 35 by decide), if_pos (s7 _), show f_Model_setsCistern (uI h g1) 755 (nI (nc w)) (0 : Int32) (nI V) = _ from sS g1 (nc w) 0 (nI V) h8 (by decide), bV_s, if_pos (s7 _), show f_Model_setsCistern (uI h (up2 g1 756 (65 + 35 * nc w + 0) (nI V))) 755 (nI (nc w)) (4 : Int32) (-1) = _ from sS _ (nc w) 4 (-1) h8 (by decide), bV_s, if_pos (s7 _), show f_Model_setsCistern (uI h (up2 (up2 g1 756 (65 + 35 * nc w + 0) (nI V)) 756 (65 + 35 * nc w + 4) (-1))) 755 (nI c) (4 : Int32) (nI (nc w)) = _ from sS _ c 4 (nI (nc w)) (by omega) (by decide), bV_s, if_pos (s7 _), r1, if_pos (s6 _), l6, if_pos (by decide), if_pos (by decide), i0, hI_u, g0v, wr_s, sI_u, r1, if_pos (s6 _), l6, if_pos (by decide), i6, hI_u, v6, b1', nI_1]
    show ∃ g', (if b < 0 then f_Model_site_L56 (q + j + 1) (uI h (cpg g2 759 756 617)) 755 (nI V) (nI (nc w)) (nI c) (siL w (nI V) c) (nI (c + 1)) else if siL w (nI V) c < x then f_Model_site_L56 (q + j + 1) (uI h (cpg g2 759 756 617)) 755 (nI V) (nI (nc w)) (nI c) (siL w (nI V) c) (nI (c + 1)) else f_Model_site_L56 (q + j + 1) (uI h (cpg g2 759 756 617)) 755 (nI V) (nI (nc w)) b x (nI (c + 1))) = _ ∧ _
    by_cases c1 : b < 0
    · rw [if_pos c1, if_pos c1]; exact fin _ _
    · rw [if_neg c1, if_neg c1]
      by_cases c2 : siL w (nI V) c < x
      · rw [if_pos c2, if_pos c2]; exact fin _ _
      · rw [if_neg c2, if_neg c2]; exact fin _ _
theorem sp_site : LSp M (fun H => f_Lw_site H 1 p1 765) (fun H => f_Model_site H 755 p1) := by
  intro H I
  obtain ⟨h, g, rfl⟩ : ∃ h g, H = uI h g := ⟨H, hI H, rfl⟩
  have I : INV M h g := I
  obtain ⟨t, W, R, Lr, e0, e1, e2, n8, nh8, nd8⟩ := I.us
  obtain ⟨⟨w1, wr0, wr1, wr2, wr3, w5, wr5, wr6, wr7, wr8, wr9⟩, w6, w7⟩ := WTR (g := g) t
  have s7 : ∀ (h : Hp) (g : Nat → Nat → Int32), TS h → hS (uI h g) 755 = 11 := fun h g t => t.td.1.1
  have s56 : ∀ (h : Hp) (g : Nat → Nat → Int32), TS h → hR (uI h g) 755 1 = 756 ∧ hS (uI h g) 756 = 20 ∧ hL (uI h g) 756 = 2291 := fun h g t => ⟨t.td.1.2.1.1, t.td.1.2.2.1.1, t.td.1.2.2.1.2⟩
  have l9 := t.l9
  by_cases lo : p1 < 1
  · refine cl_r (h := h) (g := g) (fl := fun H => f_Lw_site H 1 p1 765) (fm := fun H => f_Model_site H 755 p1) I (lw_site_2 (H := uI h g) t ?_) (by decide) (fun h' g' t' x' => ⟨0, thr g' 1, ?_, thr_c, REF.thr⟩)
    · unfold f_Water_site f_Water_site_b0 f_Water_site_b12
      rw [if_pos lo]
    · show f_Model_site_b0 (uI h' g') 755 p1 = _
      unfold f_Model_site_b0 f_Model_site_b22
      rw [if_pos (s7 _ _ t'), wr_s, sI_u, N_in, bI_s, if_pos lo, if_pos rfl, if_pos (s7 _ _ t'), N_thr1 t'.td.1, bI_s, if_neg (by decide)]
      rfl
  by_cases hi : p1 ≤ 999
  · obtain ⟨n, hn, rfl⟩ := nI_of2 (x := p1) (M := 999) (n := 999) rfl (fun z => lo (Int32.lt_trans z (by decide))) hi
    have hi' : ¬ (999 : Int32) < nI n := fun q => Int32.lt_irrefl (Int32.lt_of_lt_of_le q hi)
    by_cases c8 : nc (g 756) < 8
    · obtain ⟨h1, g1, q1, I1, e6, fr, nx, zx⟩ := C_site_L (w := g 756) (g0 := g) (h0 := h) (V := n) c8 hn (nc (g 756)) 0 (-1) 0 h g (by omega) (Or.inl rfl) I rfl (fun _ _ _ => rfl) rfl rfl (999999 - nc (g 756))
      have t1 := I1.1
      have FUe : FU = 999999 - nc (g 756) + nc (g 756) + 1 := by unfold FU; omega
      have n8' : ¬ nI (nc (g 756)) = (8 : Int32) := fun z => absurd ((nI_eq (b := 8) (by omega) (by decide)).mp z) (by omega)
      refine cl_l (h := h) (g := g) (fl := fun H => f_Lw_site H 1 (nI n) 765) (fm := fun H => f_Model_site H 755 (nI n)) (h1 := h1) (g1 := g1) (v := (siF (g 756) (nI n) (-1) 0 0 (nc (g 756)))) (lw_site (H := uI h g) (H1 := uI h1 (g1)) t t1 ?_) t1 (fun h' t' => ?_) (by omega) (by omega)
      · unfold f_Water_site f_Water_site_b0
        rw [if_neg lo, if_pos hi, if_pos w1, w5, if_pos w6, hI_u, e0, if_pos (show nI (nc (g 756)) < (8 : Int32) from nI_lt (b := 8) c8 (by decide)), FUe]
        exact q1
      · have k6 : cpg (up2 g1 755 0 0) 756 759 617 756 = g 756 := by rw [cpg_r (by decide), up_row (by decide)]; exact e6
        have u6 : up2 g1 755 0 0 756 = g 756 := (up_row (by decide)).trans e6
        obtain ⟨G, z1, z2, z3⟩ := N_site_L (h := h') (w := g 756) (V := n) t'.td.1 W.wn c8 hn (nc (g 756)) 0 (-1) 0 (cpg (up2 g1 755 0 0) 756 759 617) (by omega) k6 (fun k hk => by rw [cpg_k hk, u6]) (999999 - nc (g 756))
        have em : f_Model_site_b0 (uI h' (g1)) 755 (nI n) = some ((siF (g 756) (nI n) (-1) 0 0 (nc (g 756))), uI h' (G)) := by
          unfold f_Model_site_b0 f_Model_site_b22
          rw [if_pos (s7 _ _ t'), wr_s, sI_u, N_in, bI_s, if_neg lo, if_neg hi', if_neg (by decide), if_pos (s7 _ _ t'), N_thr0 t'.td.1, bI_s, if_pos rfl, if_pos (s7 _ _ t'), N_cis t'.td.1, bI_s, u6, W.1.1, if_neg n8', if_pos (s7 _ _ t'), M_keeps (h := uI h' (up2 g1 755 0 0)) t'.td.1, bV_s, cp_g, FUe]
          exact z1
        have em0 : G 755 0 = 0 := by rw [z3 755 (by decide), cpg_r (by decide)]; exact up_eq
        refine ⟨G, em, em0, (I1.nw (g' := G) (z2.trans e6.symm) (fun r a1 a2 a3 a4 a5 a6 a7 => by rw [z3 r a2, cpg_r a4, up_row a1]) (fun j hj => by rw [z3 755 (by decide), cpg_r (by decide), up_k (by omega)])).mono (by omega)⟩
    · have n8' : nI (nc (g 756)) = (8 : Int32) := congrArg nI (show nc (g 756) = 8 from by omega)
      refine cl_l (h := h) (g := g) (fl := fun H => f_Lw_site H 1 (nI n) 765) (fm := fun H => f_Model_site H 755 (nI n)) (h1 := h) (g1 := g) (v := (-1)) (lw_site (H := uI h g) (H1 := uI h (g)) t t ?_) t (fun h' t' => ⟨up2 g 755 0 0, ?_, up_eq, I.th⟩) (by omega) (by omega)
      · unfold f_Water_site f_Water_site_b0
        rw [if_neg lo, if_pos hi, if_pos w1, w5, if_pos w6, hI_u, e0, if_neg (show ¬ nI (nc (g 756)) < (8 : Int32) from by rw [n8']; decide)]
      · show f_Model_site_b0 (uI h' (g)) 755 (nI n) = _
        unfold f_Model_site_b0 f_Model_site_b22
        rw [if_pos (s7 _ _ t'), wr_s, sI_u, N_in, bI_s, if_neg lo, if_neg hi', if_neg (by decide), if_pos (s7 _ _ t'), N_thr0 t'.td.1, bI_s, if_pos rfl, if_pos (s7 _ _ t'), N_cis t'.td.1, bI_s, th_r (by decide), W.1.1, if_pos n8']
  · have hi' : (999 : Int32) < p1 := Int32.not_le.mp hi
    refine cl_r (h := h) (g := g) (fl := fun H => f_Lw_site H 1 p1 765) (fm := fun H => f_Model_site H 755 p1) I (lw_site_2 (H := uI h g) t ?_) (by decide) (fun h' g' t' x' => ⟨0, thr g' 1, ?_, thr_c, REF.thr⟩)
    · unfold f_Water_site f_Water_site_b0 f_Water_site_b12
      rw [if_neg lo, if_neg hi]
    · show f_Model_site_b0 (uI h' g') 755 p1 = _
      unfold f_Model_site_b0 f_Model_site_b22
      rw [if_pos (s7 _ _ t'), wr_s, sI_u, N_in, bI_s, if_neg lo, if_pos hi', if_pos rfl, if_pos (s7 _ _ t'), N_thr1 t'.td.1, bI_s, if_neg (by decide)]
      rfl
end U42
