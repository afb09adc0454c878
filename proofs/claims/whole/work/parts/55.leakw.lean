/-! ===== leaks of the reference: all of them ===== -/
section U5
variable {h : Hp} {g g' g1 : Nat → Nat → Int32} {w w' : Nat → Int32} {c d k n l y j m q s i F : Nat} {v x : Int32} {f p : Nat → Nat}
def rm (w : Nat → Int32) (c : Nat) : Nat := ix (w (65 + 35 * c))
def lk (w : Nat → Int32) (c : Nat) : Nat := ix (w (68 + 35 * c))
def tw (w : Nat → Int32) (c : Nat) : Nat := if w (69 + 35 * c) = -1 then 8 else ix (w (69 + 35 * c))
/-- a cistern of n, as it should be -/
def WFC (w : Nat → Int32) (n c : Nat) : Prop :=
  OKL w c ∧ (w (65 + 35 * c) = nI (rm w c) ∧ rm w c ≤ 999 ∧ ms w c ≤ rm w c) ∧ (∃ k, w (66 + 35 * c) = nI k ∧ k ≤ 3) ∧ (∃ k, w (67 + 35 * c) = nI k ∧ k ≤ 1) ∧ (w (68 + 35 * c) = nI (lk w c) ∧ lk w c ≤ 99) ∧ (w (69 + 35 * c) = tI (tw w c) ∧ (tw w c = 8 ∨ tw w c < n) ∧ tw w c ≠ c)
def fitW (w : Nat → Int32) (c : Nat) : Nat := if tw w c < 8 then min (min (lk w c) (ms w c)) (rm w (tw w c) - ms w (tw w c)) else 0
def dripW (w : Nat → Int32) (c : Nat) : Nat → Int32 := mvW w c (tw w c) (min (lk w c) (ms w c)) (fitW w c)
def crackW (w : Nat → Int32) (c : Nat) : Nat → Int32 := if w (66 + 35 * c) = 3 ∧ 0 < ms w c then mvW w c 8 1 0 else w
def leakW (w : Nat → Int32) (c : Nat) : Nat → Int32 := dripW (crackW w c) c
def leaksW (w : Nat → Int32) : Nat → Nat → Int32
  | 0 => w
  | n + 1 => leakW (leaksW w n) n
theorem fit_le : fitW w c ≤ min (lk w c) (ms w c) := by unfold fitW; split <;> omega
theorem WFC.ms_lt (W : WFC w n c) : ms w c ≤ 999 := Nat.le_trans W.2.1.2.2 W.2.1.2.1
theorem mv_h1 {u c' : Nat} : mvW w c d u s (65 + 35 * c') = w (65 + 35 * c') := mv_h (j := 0) (by decide)
theorem mv_h2 {u c' : Nat} : mvW w c d u s (66 + 35 * c') = w (66 + 35 * c') := by
  have := mv_h (w := w) (c := c) (d := d) (u := u) (s := s) (c' := c') (j := 1) (by decide)
  rw [show 65 + 35 * c' + 1 = 66 + 35 * c' from by omega] at this
  exact this
theorem mv_h3 {u c' : Nat} : mvW w c d u s (67 + 35 * c') = w (67 + 35 * c') := by
  have := mv_h (w := w) (c := c) (d := d) (u := u) (s := s) (c' := c') (j := 2) (by decide)
  rw [show 65 + 35 * c' + 2 = 67 + 35 * c' from by omega] at this
  exact this
theorem mv_h4 {u c' : Nat} : mvW w c d u s (68 + 35 * c') = w (68 + 35 * c') := by
  have := mv_h (w := w) (c := c) (d := d) (u := u) (s := s) (c' := c') (j := 3) (by decide)
  rw [show 65 + 35 * c' + 3 = 68 + 35 * c' from by omega] at this
  exact this
theorem mv_h5 {u c' : Nat} : mvW w c d u s (69 + 35 * c') = w (69 + 35 * c') := by
  have := mv_h (w := w) (c := c) (d := d) (u := u) (s := s) (c' := c') (j := 4) (by decide)
  rw [show 65 + 35 * c' + 4 = 69 + 35 * c' from by omega] at this
  exact this
theorem N_drip_L (t : TSr h) (hc : c < 8) (W : WFC w n c) (hn : n ≤ 8) (Wd : tw w c < 8 → WFC w n (tw w c)) {k2 : Hp → Nat → Int32 → Option Hp} : ∀ (j i : Nat) (g : Nat → Nat → Int32), i + j = min (lk w c) (ms w c) → g 756 = mvW w c (tw w c) i (min i (fitW w c)) → ∀ m,
    ∃ g', f_Model_leaks_L36 k2 (m + j + 1) (uI h g) 755 (nI c) (nI i) = k2 (uI h g') 755 (nI (c + 1)) ∧ g' 756 = dripW w c ∧ ∀ r, r ≠ 756 → g' r = g r := by
  have s : ∀ g, hS (uI h g) 755 = 11 := fun g => (t.iu (g := g)).1
  obtain ⟨W1, ⟨W2, W3, W4⟩, -, -, ⟨W5, W6⟩, W7, W8, W9⟩ := id W
  have MC : ∀ (i : Nat) (g : Nat → Nat → Int32), g 756 = mvW w c (tw w c) i (min i (fitW w c)) → ∀ y, y < 30 → g 756 (70 + 35 * c + y) = nI (drN (ly w c) i y) := fun i g hg y hy => by
    rw [hg, mv_c hy]
  intro j
  induction j with
  | zero =>
    intro i g hi hg m
    have E : f_Model_leaks_L36 k2 (m + 0 + 1) (uI h g) 755 (nI c) (nI i) = f_Model_leaks_b36 k2 (f_Model_leaks_L36 k2 m) (uI h g) 755 (nI c) (nI i) := rfl
    have fin : g 756 = dripW w c := by
      rw [hg, show min i (fitW w c) = fitW w c from by have := fit_le (w := w) (c := c); omega]
      unfold dripW
      rw [← hi]
      rfl
    rw [E]
    unfold f_Model_leaks_b36
    rw [if_pos (s _), show (3 : Int32) = nI 3 from rfl, N_of t hc (by decide), bI_s, hg, mv_h (by decide), show 65 + 35 * c + 3 = 68 + 35 * c from by omega, W5]
    by_cases e : lk w c ≤ i
    · rw [if_pos (nI_le e (by omega))]
      unfold f_Model_leaks_b71
      rw [nI_1]
      exact ⟨g, rfl, fin, fun _ _ => rfl⟩
    · have sm := drN_sum (f := ly w c) (n := i) (by unfold ms at hi; omega)
      rw [if_neg (nI_ge (by omega) (by omega)), if_pos (s _), N_meas t hc (MC i g hg), bI_s, show smN (drN (ly w c) i) 30 = 0 from by unfold ms at hi; omega, if_pos (show nI 0 ≤ 0 from by decide)]
      unfold f_Model_leaks_b71
      rw [nI_1]
      exact ⟨g, rfl, fin, fun _ _ => rfl⟩
  | succ j ih =>
    intro i g hi hg m
    have E : f_Model_leaks_L36 k2 (m + (j + 1) + 1) (uI h g) 755 (nI c) (nI i) = f_Model_leaks_b36 k2 (f_Model_leaks_L36 k2 (m + j + 1)) (uI h g) 755 (nI c) (nI i) := rfl
    have hms : ms w c = smN (ly w c) 30 := rfl
    have sm := drN_sum (f := ly w c) (n := i) (by omega)
    have fl := fit_le (w := w) (c := c)
    rw [E]
    unfold f_Model_leaks_b36
    rw [if_pos (s _), show (3 : Int32) = nI 3 from rfl, N_of t hc (by decide), bI_s, hg, mv_h (by decide), show 65 + 35 * c + 3 = 68 + 35 * c from by omega, W5, if_neg (nI_ge (by omega) (by omega)), if_pos (s _), N_meas t hc (MC i g hg), bI_s, if_neg (nI_nle (by omega) (by omega)), if_pos (s _), show (4 : Int32) = nI 4 from rfl, N_of t hc (by decide), bI_s, hg, mv_h (by decide), show 65 + 35 * c + 4 = 69 + 35 * c from by omega, W7, if_pos (s _)]
    rw [N_drop t hc (f := drN (ly w c) i) (p := fun y => ly w (tw w c) y + shF (ly w c) (min i (fitW w c)) y) (q := rm w (tw w c)) (d := tw w c) (MC i g hg) (fun y hy => Nat.le_trans drN_le (W1 y hy).2) (fun hd => ?_), bV_s, nI_1]
    · have fin : ∀ g1, g1 756 = mvW w c (tw w c) (i + 1) (min (i + 1) (fitW w c)) → (∀ r, r ≠ 756 → g1 r = g r) → ∃ g', f_Model_leaks_L36 k2 (m + j + 1) (uI h g1) 755 (nI c) (nI (i + 1)) = k2 (uI h g') 755 (nI (c + 1)) ∧ g' 756 = dripW w c ∧ ∀ r, r ≠ 756 → g' r = g r := by
        intro g1 e1 e2
        obtain ⟨g', q1, q2, q3⟩ := ih (i + 1) g1 (by omega) e1 m
        exact ⟨g', q1, q2, fun r hr => (q3 r hr).trans (e2 r hr)⟩
      by_cases e : i < fitW w c
      · have hd : tw w c < 8 := by
          unfold fitW at e
          by_cases z : tw w c < 8
          · exact z
          · rw [if_neg z] at e; omega
        have hF : fitW w c = min (min (lk w c) (ms w c)) (rm w (tw w c) - ms w (tw w c)) := if_pos hd
        have hp : smN (fun y => ly w (tw w c) y + shF (ly w c) (min i (fitW w c)) y) 30 < rm w (tw w c) := by
          rw [smN_add, shF_sum (by omega)]
          have : smN (ly w (tw w c)) 30 = ms w (tw w c) := rfl
          omega
        rw [if_pos ⟨hd, hp⟩]
        refine fin _ ?_ (fun r hr => ?_)
        · rw [up2_row, up2_row, hg, show min i (fitW w c) = i from by omega, show min (i + 1) (fitW w c) = i + 1 from by omega]
          exact mv_in (by omega) hd W9
        · rw [up_row hr, up_row hr]
      · have hp : ¬ (tw w c < 8 ∧ smN (fun y => ly w (tw w c) y + shF (ly w c) (min i (fitW w c)) y) 30 < rm w (tw w c)) := by
          rintro ⟨hd, z⟩
          have hF : fitW w c = min (min (lk w c) (ms w c)) (rm w (tw w c) - ms w (tw w c)) := if_pos hd
          rw [smN_add, shF_sum (by omega)] at z
          have : smN (ly w (tw w c)) 30 = ms w (tw w c) := rfl
          omega
        rw [if_neg hp]
        refine fin _ ?_ (fun r hr => ?_)
        · rw [up2_row, up2_row, hg, show min i (fitW w c) = fitW w c from by omega, show min (i + 1) (fitW w c) = fitW w c from by omega]
          exact mv_out (by omega) (by omega) hc (fun _ => W9)
        · rw [up_row hr, up_row hr]
    · have D := Wd hd
      have D1 := D.ms_lt
      refine ⟨W9, fun y hy => ?_, ?_, by have := D.2.1.2.1; omega, ?_⟩
      · rw [hg, mv_d W9 hd hy, (D.1 y hy).1, nI_add]
      · rw [hg, mv_h1, D.2.1.1]
      · rw [smN_add, shF_sum (by omega)]
        have : smN (ly w (tw w c)) 30 = ms w (tw w c) := rfl
        omega
theorem mv_00 (O : OKL w c) (hd : d < 8 → d ≠ c) : mvW w c d 0 0 = w := by
  funext k
  by_cases k1 : 70 + 35 * c ≤ k ∧ k < 100 + 35 * c
  · obtain ⟨y, rfl⟩ : ∃ y, k = 70 + 35 * c + y := ⟨k - (70 + 35 * c), by omega⟩
    rw [mv_c (by omega)]
    exact (O y (by omega)).1.symm
  · by_cases k2 : d < 8 ∧ 70 + 35 * d ≤ k ∧ k < 100 + 35 * d
    · obtain ⟨y, rfl⟩ : ∃ y, k = 70 + 35 * d + y := ⟨k - (70 + 35 * d), by omega⟩
      rw [mv_d (hd k2.1) k2.1 (by omega), show shF (ly w c) 0 y = 0 from Nat.sub_self _, i_0]
    · by_cases k3 : k = 6
      · subst k3
        rw [mv_6, i_0]
      · exact mv_o k1 k2 k3
theorem ms_eq (h : ∀ y, y < 30 → w' (70 + 35 * c + y) = w (70 + 35 * c + y)) : ms w' c = ms w c := smN_congr fun y hy => congrArg ix (h y hy)
theorem rm_eq (h : w' (65 + 35 * c) = w (65 + 35 * c)) : rm w' c = rm w c := congrArg ix h
/-- a cistern with other layers is as it should be -/
theorem WFC.of {b : Nat → Nat} (W : WFC w n c) (hb : ∀ y, y < 30 → w' (70 + 35 * c + y) = nI (b y)) (hs : smN b 30 ≤ rm w c) (h0 : ∀ j, j < 5 → w' (65 + 35 * c + j) = w (65 + 35 * c + j)) : WFC w' n c := by
  obtain ⟨O, ⟨R1, R2, R3⟩, K, S, ⟨L1, L2⟩, T1, T2, T3⟩ := W
  have e0 : w' (65 + 35 * c) = w (65 + 35 * c) := h0 0 (by decide)
  have e1 : w' (66 + 35 * c) = w (66 + 35 * c) := by have := h0 1 (by decide); rw [show 65 + 35 * c + 1 = 66 + 35 * c from by omega] at this; exact this
  have e2 : w' (67 + 35 * c) = w (67 + 35 * c) := by have := h0 2 (by decide); rw [show 65 + 35 * c + 2 = 67 + 35 * c from by omega] at this; exact this
  have e3 : w' (68 + 35 * c) = w (68 + 35 * c) := by have := h0 3 (by decide); rw [show 65 + 35 * c + 3 = 68 + 35 * c from by omega] at this; exact this
  have e4 : w' (69 + 35 * c) = w (69 + 35 * c) := by have := h0 4 (by decide); rw [show 65 + 35 * c + 4 = 69 + 35 * c from by omega] at this; exact this
  have b9 : ∀ y, y < 30 → b y ≤ 999 := fun y hy => by have := smN_ge (f := b) hy; omega
  have ll : ∀ y, y < 30 → ly w' c y = b y := fun y hy => by
    unfold ly
    rw [hb y hy, ix_n (by have := b9 y hy; omega)]
  have m1 : ms w' c = smN b 30 := smN_congr ll
  have r1 : rm w' c = rm w c := rm_eq e0
  have l1 : lk w' c = lk w c := congrArg ix e3
  have t1 : tw w' c = tw w c := by unfold tw; rw [e4]
  refine ⟨fun y hy => ?_, ⟨?_, ?_, ?_⟩, ?_, ?_, ⟨?_, ?_⟩, ?_, ?_, ?_⟩
  · rw [ll y hy]; exact ⟨hb y hy, b9 y hy⟩
  · rw [r1, e0]; exact R1
  · rw [r1]; exact R2
  · rw [m1, r1]; exact hs
  · rw [e1]; exact K
  · rw [e2]; exact S
  · rw [l1, e3]; exact L1
  · rw [l1]; exact L2
  · rw [t1, e4]; exact T1
  · rw [t1]; exact T2
  · rw [t1]; exact T3
/-- moves keep a cistern as it should be -/
theorem WFC.mv (W : WFC w n c) (hd : d < 8 → d ≠ c ∧ WFC w n d) {u c' : Nat} (hc : c' < 8) (hu : u ≤ ms w c) (hs : s ≤ u) (hr : d < 8 → s ≤ rm w d - ms w d) (W' : WFC w n c') : WFC (mvW w c d u s) n c' := by
  have hm : ms w c = smN (ly w c) 30 := rfl
  by_cases e1 : c' = c
  · subst e1
    have sm := drN_sum (f := ly w c') (n := u) (by omega)
    exact W'.of (fun y hy => mv_c hy) (by have := W'.2.1.2.2; omega) (fun j hj => mv_h hj)
  · by_cases e2 : c' = d
    · subst e2
      have h8 := hr hc
      refine W'.of (b := fun y => ly w c' y + shF (ly w c) s y) (fun y hy => ?_) ?_ (fun j hj => mv_h hj)
      · rw [mv_d e1 hc hy, (W'.1 y hy).1, nI_add]
      · rw [smN_add, shF_sum (by omega)]
        have h2 : smN (ly w c') 30 = ms w c' := rfl
        have := W'.2.1.2.2
        omega
    · exact W'.of (b := ly w c') (fun y hy => by rw [mv_l e1 e2 hy]; exact (W'.1 y hy).1) W'.2.1.2.2 (fun j hj => mv_h hj)
theorem WFC.crack (W : WFC w n c) {c' : Nat} (hc : c' < 8) (W' : WFC w n c') : WFC (crackW w c) n c' := by
  unfold crackW
  by_cases e : w (66 + 35 * c) = 3 ∧ 0 < ms w c
  · rw [if_pos e]
    exact W.mv (fun z => absurd z (Nat.lt_irrefl _)) hc e.2 (Nat.zero_le _) (fun z => absurd z (Nat.lt_irrefl _)) W'
  · rw [if_neg e]
    exact W'
theorem WFC.drip (W : WFC w n c) (hn : n ≤ 8) (al : ∀ c, c < n → WFC w n c) {c' : Nat} (hc : c' < 8) (W' : WFC w n c') : WFC (dripW w c) n c' := by
  have T := W.2.2.2.2.2
  refine W.mv (fun z => ⟨T.2.2, al _ ?_⟩) hc (Nat.min_le_right _ _) fit_le (fun z => ?_) W'
  · rcases T.2.1 with q | q
    · omega
    · exact q
  · unfold fitW
    rw [if_pos z]
    exact Nat.min_le_right _ _
theorem WF_leak (hn : n ≤ 8) (hc : c < n) (al : ∀ c, c < n → WFC w n c) : ∀ c', c' < n → WFC (leakW w c) n c' := by
  intro c' hc'
  have al2 : ∀ c', c' < n → WFC (crackW w c) n c' := fun c' hc' => (al c hc).crack (by omega) (al c' hc')
  exact (al2 c hc).drip hn al2 (by omega) (al2 c' hc')
theorem WF_leaks (hn : n ≤ 8) (al : ∀ c, c < n → WFC w n c) : ∀ k, k ≤ n → ∀ c', c' < n → WFC (leaksW w k) n c' := by
  intro k
  induction k with
  | zero => intro _; exact al
  | succ k ih => intro hk; exact WF_leak hn (by omega) (ih (by omega))
theorem leak_lo (hk : k < 65) (h6 : k ≠ 6) : leakW w c k = w k := by
  have h1 : ∀ w : Nat → Int32, crackW w c k = w k := fun w => by
    unfold crackW
    split
    · exact mv_o (by omega) (by omega) h6
    · rfl
  unfold leakW dripW
  rw [mv_o (by omega) (by omega) h6, h1]
theorem leak_hi (hc : c < 8) (hk : 345 ≤ k) : leakW w c k = w k := by
  have h1 : ∀ w : Nat → Int32, crackW w c k = w k := fun w => by
    unfold crackW
    split
    · exact mv_o (by omega) (by omega) (by omega)
    · rfl
  unfold leakW dripW
  rw [mv_o (by omega) (by omega) (by omega), h1]
theorem leaks_lo (hk : k < 65) (h6 : k ≠ 6) : ∀ i, leaksW w i k = w k := by
  intro i
  induction i with
  | zero => rfl
  | succ i ih => exact (leak_lo hk h6).trans ih
theorem leaks_hi (hk : 345 ≤ k) : ∀ i, i ≤ 8 → leaksW w i k = w k := by
  intro i
  induction i with
  | zero => intro _; rfl
  | succ i ih => intro hi; exact (leak_hi (by omega) hk).trans (ih (by omega))
theorem leak_h {c' : Nat} (hj : j < 5) : leakW w c (65 + 35 * c' + j) = w (65 + 35 * c' + j) := by
  unfold leakW dripW
  rw [mv_h hj]
  unfold crackW
  split
  · exact mv_h hj
  · rfl
theorem leaks_h {c' : Nat} (hj : j < 5) : ∀ i, leaksW w i (65 + 35 * c' + j) = w (65 + 35 * c' + j) := by
  intro i
  induction i with
  | zero => rfl
  | succ i ih => exact (leak_h hj).trans ih
theorem FU_mm {k : Nat} (h : k < 1000000) : FU = (999999 - k) + k + 1 := by
  unfold FU
  omega
theorem N_leak_34 (t : TSr h) (hc : c < n) (hn : n ≤ 8) (al : ∀ c, c < n → WFC (g 756) n c) {k2 : Hp → Nat → Int32 → Option Hp} :
    ∃ g', f_Model_leaks_b34 k2 (uI h g) 755 (nI c) = k2 (uI h g') 755 (nI (c + 1)) ∧ g' 756 = dripW (g 756) c ∧ ∀ r, r ≠ 756 → g' r = g r := by
  have W := al c hc
  have T := W.2.2.2.2.2
  have q : min (lk (g 756) c) (ms (g 756) c) < 1000000 := by have := W.2.2.2.2.1.2; omega
  unfold f_Model_leaks_b34
  rw [FU_mm q]
  refine N_drip_L t (by omega) W hn (fun z => al _ ?_) _ 0 g (by omega) ?_ _
  · rcases T.2.1 with q | q
    · omega
    · exact q
  · rw [Nat.zero_min]
    exact (mv_00 W.1 (fun _ => T.2.2)).symm
theorem N_leak (t : TSr h) (hc : c < n) (hn : n ≤ 8) (h0 : g 756 0 = nI n) (al : ∀ c, c < n → WFC (g 756) n c) {k2 : Hp → Nat → Int32 → Option Hp} :
    ∃ g', f_Model_leaks_b2 k2 (uI h g) 755 (nI c) = k2 (uI h g') 755 (nI (c + 1)) ∧ g' 756 = leakW (g 756) c ∧ ∀ r, r ≠ 756 → g' r = g r := by
  have s : ∀ g, hS (uI h g) 755 = 11 := fun g => (t.iu (g := g)).1
  have W := al c hc
  have W1 := W.1
  obtain ⟨k, hk, hk3⟩ := W.2.2.1
  have m9 := W.ms_lt
  unfold f_Model_leaks_b2
  rw [if_pos (s _), N_cis t, bI_s, h0, if_neg (nI_ge hc (by omega)), if_pos (s _), n1, N_of t (by omega) (by decide), bI_s, show 65 + 35 * c + 1 = 66 + 35 * c from by omega]
  by_cases e : g 756 (66 + 35 * c) = 3
  · rw [if_pos e, if_pos (s _), N_meas t (by omega) (fun y hy => (W1 y hy).1), bI_s]
    have hm : smN (ly (g 756) c) 30 = ms (g 756) c := rfl
    rw [hm]
    by_cases e2 : 0 < ms (g 756) c
    · have cw : crackW (g 756) c = mvW (g 756) c 8 1 0 := if_pos ⟨e, e2⟩
      rw [if_neg (nI_nle e2 (by omega)), if_pos (s _), show (-nI 1 : Int32) = tI 8 from rfl, N_drop t (by omega) (fun y hy => (W1 y hy).1) (fun y hy => (W1 y hy).2) (d := 8) (p := fun _ => 0) (q := 0) (fun z => absurd z (Nat.lt_irrefl _)), bV_s, if_neg (fun z => absurd z.1 (Nat.lt_irrefl _))]
      have g1 : ∀ g1, g1 = up2 (up2 g 756 (70 + 35 * c + fulL (ly (g 756) c) 29) (nI (ly (g 756) c (fulL (ly (g 756) c) 29)) + -1)) 756 6 (g 756 6 + 1) → g1 756 = crackW (g 756) c := by
        rintro _ rfl
        have o := mv_out (w := g 756) (c := c) (d := 8) (i := 0) (s := 0) e2 (Nat.zero_le _) (by omega) (fun z => absurd z (Nat.lt_irrefl _))
        rw [mv_00 W1 (fun z => absurd z (Nat.lt_irrefl _))] at o
        rw [up2_row, up2_row, cw]
        exact o
      obtain ⟨g2, q1, q2, q3⟩ := N_leak_34 t (g := up2 (up2 g 756 (70 + 35 * c + fulL (ly (g 756) c) 29) (nI (ly (g 756) c (fulL (ly (g 756) c) 29)) + -1)) 756 6 (g 756 6 + 1)) hc hn (by rw [g1 _ rfl]; exact fun c' hc' => W.crack (by omega) (al c' hc')) (k2 := k2)
      refine ⟨g2, q1, ?_, fun r hr => ?_⟩
      · rw [q2, g1 _ rfl]; rfl
      · rw [q3 r hr, up_row hr, up_row hr]
    · have cw : crackW (g 756) c = g 756 := if_neg fun z => e2 z.2
      rw [show ms (g 756) c = 0 from by omega, if_pos (show nI 0 ≤ 0 from by decide)]
      obtain ⟨g2, q1, q2, q3⟩ := N_leak_34 t (g := g) hc hn al (k2 := k2)
      refine ⟨g2, q1, ?_, q3⟩
      unfold leakW
      rw [q2, cw]
  · have cw : crackW (g 756) c = g 756 := if_neg fun z => e z.1
    rw [if_neg e]
    obtain ⟨g2, q1, q2, q3⟩ := N_leak_34 t (g := g) hc hn al (k2 := k2)
    refine ⟨g2, q1, ?_, q3⟩
    unfold leakW
    rw [q2, cw]
theorem N_leaks_L (t : TSr h) (hn : n ≤ 8) : ∀ (j i : Nat) (g : Nat → Nat → Int32), i + j = n → g 756 0 = nI n → (∀ c, c < n → WFC (g 756) n c) → ∀ m,
    ∃ g', f_Model_leaks_L2 (m + j + 1) (uI h g) 755 (nI i) = some (uI h g') ∧ (∀ w, g 756 = leaksW w i → g' 756 = leaksW w n) ∧ ∀ r, r ≠ 756 → g' r = g r := by
  have s : ∀ g, hS (uI h g) 755 = 11 := fun g => (t.iu (g := g)).1
  intro j
  induction j with
  | zero =>
    intro i g hi h0 al m
    obtain rfl : i = n := by omega
    have E : f_Model_leaks_L2 (m + 0 + 1) (uI h g) 755 (nI i) = f_Model_leaks_b2 (f_Model_leaks_L2 m) (uI h g) 755 (nI i) := rfl
    rw [E]
    unfold f_Model_leaks_b2
    rw [if_pos (s _), N_cis t, bI_s, h0, if_pos (Int32.le_refl _)]
    exact ⟨g, rfl, fun _ e => e, fun _ _ => rfl⟩
  | succ j ih =>
    intro i g hi h0 al m
    have E : f_Model_leaks_L2 (m + (j + 1) + 1) (uI h g) 755 (nI i) = f_Model_leaks_b2 (f_Model_leaks_L2 (m + j + 1)) (uI h g) 755 (nI i) := rfl
    rw [E]
    obtain ⟨g1, q1, q2, q3⟩ := N_leak t (c := i) (by omega) hn h0 al (k2 := f_Model_leaks_L2 (m + j + 1))
    rw [q1]
    obtain ⟨g2, p1, p2, p3⟩ := ih (i + 1) g1 (by omega) (by rw [q2, leak_lo (by decide) (by decide)]; exact h0) (by rw [q2]; exact WF_leak hn (by omega) al) m
    exact ⟨g2, p1, fun w e => p2 w (by rw [q2, e]; rfl), fun r hr => (p3 r hr).trans (q3 r hr)⟩
theorem N_leaks (t : TSr h) (hn : n ≤ 8) (h0 : g 756 0 = nI n) (al : ∀ c, c < n → WFC (g 756) n c) :
    ∃ g', f_Model_leaks (uI h g) 755 = some (uI h g') ∧ g' 756 = leaksW (g 756) n ∧ ∀ r, r ≠ 756 → g' r = g r := by
  unfold f_Model_leaks f_Model_leaks_b0
  rw [FU_mm (k := n) (by omega)]
  obtain ⟨g', q1, q2, q3⟩ := N_leaks_L t hn n 0 g (by omega) h0 al (999999 - n)
  exact ⟨g', q1, q2 _ rfl, q3⟩
end U5
