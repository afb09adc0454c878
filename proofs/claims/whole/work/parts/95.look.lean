/-! ===== look ===== -/
section U45
variable {h h1 h0 : Hp} {g g' g1 g2 g0 : Nat → Nat → Int32} {w w' w0 u : Nat → Int32} {A B L S c k n l y j m q i r z E N M M' o T R V : Nat} {v x a b s p1 p2 p3 p4 p5 : Int32} {Q : Nat → Nat → Int32} {d : Nat → Int32}
/-- one down, one up, alike -/
def plF (d : Nat → Int32) : Int32 → Int32 → Int32 → Nat → Nat → Int32
  | a, b, s, _, 0 => if a = -1 then -1 else if b = -1 then -1 else if s = 0 then (8 : Int32) * a + b else -1
  | a, b, s, c, j + 1 => if 0 ≤ d c then (if d c ≤ 0 then plF d a b (s + d c) (c + 1) j else if b = -1 then plF d a (nI c) (s + d c) (c + 1) j else -1) else if a = -1 then plF d (nI c) b (s + d c) (c + 1) j else -1
/-- what the tape says above what is there -/
def lvD (w t : Nat → Int32) (c : Nat) : Int32 := ((t c) &&& (255 : Int32)) - (nI (ms w c) - (if w (66 + 35 * c) = 3 ∧ 0 < ms w c then 1 else 0))
theorem sub_sub3 : x - (a - b) = x - a + b := by
  rw [Int32.sub_eq_add_neg, Int32.neg_sub, Int32.sub_eq_add_neg, Int32.sub_eq_add_neg, Int32.add_assoc, Int32.add_comm b]
theorem C_byte (t : TSt h) (e : g 2 1 = nI T) (hT : T ≤ 400) (hc : c < T) : f_Tape_byteAt (uI h g) 2 (nI c) = some ((g 3 c) &&& (255 : Int32), uI h g) := by
  have s2 : hS (uI h g) 2 = 9 := t.1
  have r2 : hR (uI h g) 2 0 = 3 := t.2.1.1
  have s3 : hS (uI h g) 3 = 21 := t.2.2.1.1
  have l3 : hL (uI h g) 3 = 400 := t.2.2.1.2
  unfold f_Tape_byteAt f_Tape_byteAt_b0
  rw [if_neg (nI_pos (by omega)), if_pos s2, hI_u, e, if_neg (nI_ge hc (by omega)), r2, if_pos s3, l3, show Int32.ofNat 400 = nI 400 from rfl, if_neg (nI_ge (by omega) (by decide)), if_pos (ib_n (by omega) (by decide)), ix_n (by omega)]
theorem C_look_L (t : TS h) (R : RLa g 569 w) (W : WF M w) (e : g 2 1 = nI T) (hT : T ≤ 400) (hn : nc w ≤ T) : ∀ (j c : Nat) (a b s : Int32), c + j = nc w → ∀ q, f_Water_pairOfLevels_L9 (q + j + 1) (uI h g) 1 a b s (nI c) = some (plF (lvD w (g 3)) a b s c j, uI h g) := by
  obtain ⟨⟨w1, w2, -, -, -, w5, -⟩, w6, -⟩ := WTR (g := g) t
  have s2 : hS (uI h g) 2 = 9 := t.td.2.2.1
  have h8 := W.2.1.1
  have e0 : g 569 0 = nI (nc w) := R.1.1.trans W.1.1
  intro j
  induction j with
  | zero =>
    intro c a b s hc q
    have hc' : c = nc w := hc
    subst hc'
    show f_Water_pairOfLevels_b9 (f_Water_pairOfLevels_L9 q) (uI h g) 1 a b s (nI (nc w)) = _
    unfold f_Water_pairOfLevels_b9 f_Water_pairOfLevels_b148 plF
    rw [if_pos w1, w5, if_pos w6, hI_u, e0, if_pos (Int32.le_refl _)]
    by_cases c1 : a = -1
    · rw [if_pos c1, if_pos c1]
    · rw [if_neg c1, if_neg c1]
      by_cases c2 : b = -1
      · rw [if_pos c2, if_pos c2]
      · rw [if_neg c2, if_neg c2]
        by_cases c3 : s = 0
        · rw [if_pos c3, if_pos c3]
        · rw [if_neg c3, if_neg c3]
  | succ j ih =>
    intro c a b s hc q
    obtain ⟨a1, a2, a3, a4, a5⟩ := (t.l9.iu (g := g)).cr (c := c) (by omega)
    obtain ⟨r1, -, r3⟩ := R.2.1 c (by omega)
    have r1' : g (569 + 6 + 2 * c) 1 = w (66 + 35 * c) := by
      have := r1 1 (by decide)
      rw [show 65 + 35 * c + 1 = 66 + 35 * c from by omega] at this
      exact this
    have m9 := (W.2.2.2.2.2.1 c (by omega)).ms_lt
    have E : f_Water_pairOfLevels_L9 (q + (j + 1) + 1) (uI h g) 1 a b s (nI c) = f_Water_pairOfLevels_b9 (f_Water_pairOfLevels_L9 (q + j + 1)) (uI h g) 1 a b s (nI c) := rfl
    have F : plF (lvD w (g 3)) a b s c (j + 1) = (if 0 ≤ lvD w (g 3) c then (if lvD w (g 3) c ≤ 0 then plF (lvD w (g 3)) a b (s + lvD w (g 3) c) (c + 1) j else if b = -1 then plF (lvD w (g 3)) a (nI c) (s + lvD w (g 3) c) (c + 1) j else -1) else if a = -1 then plF (lvD w (g 3)) (nI c) b (s + lvD w (g 3) c) (c + 1) j else -1) := rfl
    have key : ∀ x : Int32, ((g 3 c) &&& (255 : Int32)) - (nI (ms w c) - x) = lvD w (g 3) c → f_Water_pairOfLevels_b55 (f_Water_pairOfLevels_L9 (q + j + 1)) (uI h g) 1 a b s (nI c) (569 + 6 + 2 * c) x = some (plF (lvD w (g 3)) a b s c (j + 1), uI h g) := by
      intro x hx
      unfold f_Water_pairOfLevels_b55
      rw [if_pos w1, w2, if_pos s2, C_byte t.td.2.2 e hT (by omega), bI_s, if_pos a2, hI_u, r3, hx, F]
      unfold f_Water_pairOfLevels_b87 f_Water_pairOfLevels_b99 f_Water_pairOfLevels_b110 f_Water_pairOfLevels_b122
      rw [nI_1]
      have nx := fun a b => ih (c + 1) a b (s + lvD w (g 3) c) (by omega) q
      by_cases c1 : 0 ≤ lvD w (g 3) c
      · rw [if_pos c1, if_pos c1]
        by_cases c2 : lvD w (g 3) c ≤ 0
        · rw [if_pos c2, if_pos c1, if_pos c2, if_pos c2]; exact nx _ _
        · rw [if_neg c2, if_neg c2]
          by_cases c3 : b = -1
          · rw [if_pos c3, if_pos c1, if_neg c2, if_pos c3]; exact nx _ _
          · rw [if_neg c3, if_neg c3, if_pos c1, if_neg c2]
      · have c2 : lvD w (g 3) c ≤ 0 := Int32.le_of_lt (Int32.not_le.mp c1)
        rw [if_neg c1, if_neg c1]
        by_cases c3 : a = -1
        · rw [if_pos c3, if_pos c2, if_neg c1, if_pos c2, if_pos c3]; exact nx _ _
        · rw [if_neg c3, if_neg c3, if_neg c1]
    rw [E]
    unfold f_Water_pairOfLevels_b9 f_Water_pairOfLevels_b54
    rw [if_pos w1, w5, if_pos w6, hI_u, e0, if_neg (nI_ge (by omega) (by omega)), a3, if_pos a4, a5, if_pos (ib_n (by omega) (by decide)), ix_n (by omega), a1, if_pos a2, r1', r3]
    by_cases k3 : w (66 + 35 * c) = 3
    · rw [if_pos k3]
      by_cases k4 : ms w c = 0
      · rw [if_pos (show nI (ms w c) ≤ 0 by rw [k4]; decide)]
        exact key 0 (by unfold lvD; rw [if_neg (by omega)])
      · rw [if_neg (nI_nle (by omega) (by omega))]
        exact key 1 (by unfold lvD; rw [if_pos ⟨k3, by omega⟩])
    · rw [if_neg k3]
      exact key 0 (by unfold lvD; rw [if_neg (fun z => k3 z.1)])
theorem N_look_n (t : TSr h) (e6 : g 756 = w) (W : WF M w) {f : Hp → Nat → Int32 → Int32 → Int32 → Int32 → Int32 → Int32 → Option (Int32 × Hp)} (hc : c < nc w) : f_Model_look_b45 f (uI h g) 755 a b p3 p4 p5 (nI c) = f_Model_look_b97 f (uI h g) 755 a b p3 p4 p5 (nI c) (((g 761 c) &&& (255 : Int32)) - nI (ms w c)) (if w (66 + 35 * c) = 3 ∧ 0 < ms w c then 1 else 0) := by
  have s7 : hS (uI h g) 755 = 11 := t.1
  have r8 : hR (uI h g) 755 8 = 761 := t.2.1.2.2.2.2.2.1
  obtain ⟨sa, la'⟩ : hS (uI h g) 761 = 21 ∧ hL (uI h g) 761 = 400 := ⟨t.2.2.2.2.2.2.2.1.1, t.2.2.2.2.2.2.2.1.2⟩
  have h8 := W.2.1.1
  have w0 : w 0 = nI (nc w) := W.1.1
  have Wc := W.2.2.2.2.2.1 c hc
  have m9 := Wc.ms_lt
  have ME : f_Model_measures (uI h g) 755 (nI c) = some (nI (ms w c), uI h g) := N_meas (f := ly w c) t (by omega) fun y hy => by rw [e6]; exact (Wc.1 y hy).1
  have OF : f_Model_ofCistern (uI h g) 755 (nI c) (1 : Int32) = some (w (66 + 35 * c), uI h g) := by
    have := N_of t (g := g) (c := c) (j := 1) (by omega) (by decide)
    rw [e6, show 65 + 35 * c + 1 = 66 + 35 * c from by omega] at this
    exact this
  unfold f_Model_look_b45 f_Model_look_b96
  rw [if_pos s7, N_cis t, bI_s, e6, w0, if_neg (nI_ge (by omega) (by omega)), if_pos s7, r8, if_pos sa, la', if_pos (ib_n (by omega) (by decide)), ME, bI_s, if_pos s7, OF, bI_s, if_pos s7, ME, bI_s, ix_n (by omega), hI_u]
  by_cases k3 : w (66 + 35 * c) = 3
  · rw [if_pos k3]
    by_cases k4 : ms w c = 0
    · rw [if_pos (show nI (ms w c) ≤ 0 by rw [k4]; decide), if_neg (by omega)]
    · rw [if_neg (nI_nle (by omega) (by omega)), if_pos ⟨k3, by omega⟩]
  · rw [if_neg k3, if_neg (fun z => k3 z.1)]
theorem N_look_0 (t : TSr h) (e6 : g 756 = w) (W : WF M w) : ∀ (j c : Nat) (a b p3 p4 : Int32), c + j = nc w → ∀ q, f_Model_look_L45 (q + j + 1) (uI h g) 755 a b p3 p4 0 (nI c) = some (-1, uI h g) := by
  have s7 : hS (uI h g) 755 = 11 := t.1
  have h8 := W.2.1.1
  have w0 : w 0 = nI (nc w) := W.1.1
  intro j
  induction j with
  | zero =>
    intro c a b p3 p4 hc q
    have hc' : c = nc w := hc
    subst hc'
    show f_Model_look_b45 (f_Model_look_L45 q) (uI h g) 755 a b p3 p4 0 (nI (nc w)) = _
    unfold f_Model_look_b45
    rw [if_pos s7, N_cis t, bI_s, e6, w0, if_pos (Int32.le_refl _), if_pos rfl]
  | succ j ih =>
    intro c a b p3 p4 hc q
    have nx := fun a b p3 p4 => ih (c + 1) a b p3 p4 (by omega) q
    have E : f_Model_look_L45 (q + (j + 1) + 1) (uI h g) 755 a b p3 p4 0 (nI c) = f_Model_look_b45 (f_Model_look_L45 (q + j + 1)) (uI h g) 755 a b p3 p4 0 (nI c) := rfl
    rw [E, N_look_n t e6 W (by omega)]
    unfold f_Model_look_b97 f_Model_look_b149 f_Model_look_b150 f_Model_look_b118 f_Model_look_b119 f_Model_look_b159
    rw [nI_1, if_pos rfl, if_pos rfl, nx, nx, nx, ite_self, ite_self]
theorem N_look_L (t : TSr h) (e6 : g 756 = w) (W : WF M w) : ∀ (j c : Nat) (a b s p3 p4 : Int32), c + j = nc w → (a = -1 ∧ p3 = 0 ∨ ¬ a < 0) → (b = -1 ∧ p4 = 0 ∨ ¬ b < 0) → s = p4 - p3 → ∀ q, f_Model_look_L45 (q + j + 1) (uI h g) 755 a b p3 p4 1 (nI c) = some (plF (lvD w (g 761)) a b s c j, uI h g) := by
  have s7 : hS (uI h g) 755 = 11 := t.1
  have h8 := W.2.1.1
  have w0 : w 0 = nI (nc w) := W.1.1
  have sg : ∀ x : Int32, ¬ x < 0 → ¬ x = -1 := fun x hx z => hx (by rw [z]; decide)
  intro j
  induction j with
  | zero =>
    intro c a b s p3 p4 hc ha hb hs q
    have hc' : c = nc w := hc
    subst hc'
    show f_Model_look_b45 (f_Model_look_L45 q) (uI h g) 755 a b p3 p4 1 (nI (nc w)) = _
    unfold f_Model_look_b45 plF
    rw [if_pos s7, N_cis t, bI_s, e6, w0, if_pos (Int32.le_refl _), if_neg (by decide)]
    rcases ha with ⟨ha, -⟩ | ha
    · rw [if_pos (show a < 0 by rw [ha]; decide), if_pos ha]
    · rw [if_neg ha, if_neg (sg a ha)]
      rcases hb with ⟨hb, -⟩ | hb
      · rw [if_pos (show b < 0 by rw [hb]; decide), if_pos hb]
      · rw [if_neg hb, if_neg (sg b hb)]
        by_cases e : p3 = p4
        · rw [if_pos e, if_pos (by rw [hs, e]; exact Int32.sub_self p4)]
        · rw [if_neg e, if_neg (fun z => e (by
            have z' : p4 - p3 = 0 := hs.symm.trans z
            exact ((Int32.sub_eq_iff_eq_add.mp z').trans (Int32.zero_add _)).symm))]
  | succ j ih =>
    intro c a b s p3 p4 hc ha hb hs q
    have E : f_Model_look_L45 (q + (j + 1) + 1) (uI h g) 755 a b p3 p4 1 (nI c) = f_Model_look_b45 (f_Model_look_L45 (q + j + 1)) (uI h g) 755 a b p3 p4 1 (nI c) := rfl
    have F : plF (lvD w (g 761)) a b s c (j + 1) = (if 0 ≤ lvD w (g 761) c then (if lvD w (g 761) c ≤ 0 then plF (lvD w (g 761)) a b (s + lvD w (g 761) c) (c + 1) j else if b = -1 then plF (lvD w (g 761)) a (nI c) (s + lvD w (g 761) c) (c + 1) j else -1) else if a = -1 then plF (lvD w (g 761)) (nI c) b (s + lvD w (g 761) c) (c + 1) j else -1) := rfl
    have D : ((g 761 c) &&& (255 : Int32)) - nI (ms w c) + (if w (66 + 35 * c) = 3 ∧ 0 < ms w c then 1 else 0) = lvD w (g 761) c := sub_sub3.symm
    have pc : ¬ nI c < 0 := nI_pos (by omega)
    rw [E, N_look_n t e6 W (by omega), F]
    unfold f_Model_look_b97 f_Model_look_b149 f_Model_look_b150 f_Model_look_b118 f_Model_look_b119 f_Model_look_b159
    rw [D, nI_1, if_neg (show ¬ (1 : Int32) = 0 by decide), if_neg (show ¬ (1 : Int32) = 0 by decide)]
    by_cases c1 : 0 ≤ lvD w (g 761) c
    · rw [if_pos c1, if_pos c1]
      by_cases c2 : lvD w (g 761) c ≤ 0
      · have d0 : lvD w (g 761) c = 0 := Int32.le_antisymm c2 c1
        rw [if_pos c2, if_pos c2, d0, Int32.add_zero]
        exact ih (c + 1) a b s p3 p4 (by omega) ha hb hs q
      · rw [if_neg c2, if_neg c2]
        rcases hb with ⟨hb, z4⟩ | hb
        · rw [if_neg (show ¬ 0 ≤ b by rw [hb]; decide), if_pos hb]
          exact ih (c + 1) a (nI c) _ p3 (lvD w (g 761) c) (by omega) ha (Or.inr pc) (by rw [hs, z4, Int32.zero_sub, Int32.sub_eq_add_neg, Int32.add_comm]) q
        · rw [if_pos (Int32.not_lt.mp hb), if_neg (sg b hb)]
          exact N_look_0 t e6 W j (c + 1) _ _ _ _ (by omega) q
    · rw [if_neg c1, if_neg c1]
      rcases ha with ⟨ha, z3⟩ | ha
      · rw [if_neg (show ¬ 0 ≤ a by rw [ha]; decide), if_pos ha]
        exact ih (c + 1) (nI c) b _ (-lvD w (g 761) c) p4 (by omega) (Or.inr pc) hb (by rw [hs, z3, Int32.sub_zero, Int32.sub_eq_add_neg, Int32.neg_neg]) q
      · rw [if_pos (Int32.not_lt.mp ha), if_neg (sg a ha)]
        exact N_look_0 t e6 W j (c + 1) _ _ _ _ (by omega) q
theorem pl_c {d d' : Nat → Int32} : ∀ (j c : Nat) (a b s : Int32), (∀ i, c ≤ i → i < c + j → d i = d' i) → plF d a b s c j = plF d' a b s c j := by
  intro j
  induction j with
  | zero => intro c a b s _; rfl
  | succ j ih =>
    intro c a b s h
    have h1 : ∀ i, c + 1 ≤ i → i < c + 1 + j → d i = d' i := fun i q1 q2 => h i (by omega) (by omega)
    unfold plF
    rw [h c (Nat.le_refl _) (by omega), ih _ _ _ _ h1, ih _ _ _ _ h1, ih _ _ _ _ h1]
/-- the reference takes the tape -/
def usg (g : Nat → Nat → Int32) : Nat → Nat → Int32 := up2 (up2 (up2 (up2 g 755 0 0) 755 11 (g 755 9)) 755 9 0) 755 10 0
theorem M_uses (t : TSr h) : f_Model_uses (uI h g) 755 = some (uI h (usg g)) := by
  have s7 : ∀ g, hS (uI h g) 755 = 11 := fun g => t.1
  unfold f_Model_uses f_Model_uses_b0
  rw [if_pos (s7 _), wr_s, sI_u, wr_s, sI_u, wr_s, sI_u, wr_s, sI_u, hI_u, up_k (by decide)]
  rfl
theorem us_r (hr : r ≠ 755) : usg g r = g r := by unfold usg; rw [up_row hr, up_row hr, up_row hr, up_row hr]
theorem us_j (h1 : j ≠ 0) (h2 : j ≠ 9) (h3 : j ≠ 10) (h4 : j ≠ 11) : usg g 755 j = g 755 j := by unfold usg; rw [up_k h3, up_k h2, up_k h4, up_k h1]
theorem us_11 : usg g 755 11 = g 755 9 := by unfold usg; rw [up_k (by decide), up_k (by decide), up_eq]
theorem us_9 : usg g 755 9 = 0 := by unfold usg; rw [up_k (by decide), up_eq]
theorem us_10 : usg g 755 10 = 0 := by unfold usg; rw [up_eq]
theorem us_0 : usg g 755 0 = 0 := by unfold usg; rw [up_k (by decide), up_k (by decide), up_k (by decide), up_eq]
/-- a throw behind a tape that was emptied -/
theorem cl_t {fl fm : Hp → Option (Int32 × Hp)} {c : Int32} (I : INV M h g) (x1 : ∀ r, r ≠ 2 → r ≠ 3 → r ≠ 755 → r ≠ 761 → r ≠ 762 → g1 r = g r) (x2 : ∀ j, j = 6 ∨ j = 7 ∨ j = 14 → g1 755 j = g 755 j) (el : fl (uI h g) = some (c, hA (uI h g1) 0 0 6)) (hc : ¬ c = 0) (em : ∀ h' g', TS h' → (∀ r, r ≤ 765 → g' r = g1 r) → ∃ b g2, fm (uI h' g') = some (b, uI h' g2) ∧ g2 755 0 = c ∧ (∀ r, r ≠ 2 → r ≠ 3 → r ≠ 755 → r ≠ 761 → r ≠ 762 → g2 r = g' r) ∧ (∀ j, j = 6 ∨ j = 7 ∨ j = 14 → g2 755 j = g' 755 j) ∧ TAP g2) :
    ∃ k H1 b H2, fl (uI h g) = some (k, H1) ∧ TS H1 ∧ fm H1 = some (b, H2) ∧ hI H2 755 0 = k ∧ (k = 0 → hJ H2 765 0 = Int32.toInt64 b) ∧ INV (M + 60) H2 (hI H2) ∧ hN H2 ≤ hN (uI h g) + 1170 ∧ hZ H2 ≤ hZ (uI h g) + 14000 := by
  have I1 := I.grow (z1 := 0) (z2 := 0) (z3 := 6)
  have n := I.1.1
  have ro : ∀ r, r ≤ 765 → rs2 g1 (hN h + 1) (fun _ => 0) r = g1 r := fun r hr => rs_ne (by omega)
  obtain ⟨b, g2, e1, e2, e3, e4, e5⟩ := em (hA h 0 0 6) (rs2 g1 (hN h + 1) fun _ => 0) I1.1 ro
  refine ⟨c, _, b, _, el, I1.1, e1, e2, fun q => absurd q hc, I1.tap (g' := g2) (fun r h1 h2 h3 h4 h5 => ?_) (fun j hj => ?_) e5, ?_, ?_⟩
  · rw [e3 r h1 h2 h3 h4 h5]
    by_cases q : r = hN h + 1
    · subst q; rw [rs_eq, rs_eq]
    · rw [rs_ne q, rs_ne q]; exact x1 r h1 h2 h3 h4 h5
  · rw [e4 j hj, ro 755 (by decide), rs_ne (by omega)]
    exact x2 j hj
  · show hN h + 1 ≤ hN h + 1170; omega
  · show hZ h + 6 ≤ hZ h + 14000; omega
theorem tap_0 (e1 : g 2 1 = 0) (e2 : g 755 9 = 0) : TAP g := ⟨0, e1, e2, by decide, fun k hk => absurd hk (Nat.not_lt_zero _)⟩
theorem sp_look : LSp M (fun H => f_Lw_look H 1 765) (fun H => f_Model_look H 755) := by
  intro H I
  obtain ⟨h, g, rfl⟩ : ∃ h g, H = uI h g := ⟨H, hI H, rfl⟩
  have I : INV M h g := I
  obtain ⟨t, W, R, Lr, e0, e1, e2, n8, nh8, nd8⟩ := I.us
  obtain ⟨T, t1, t2, hT, t3⟩ := I.2.2.2.2.1
  obtain ⟨⟨w1', wr0', wr1, wr2, wr3, w5, wr5, wr6, wr7, wr8, wr9⟩, w6, w7⟩ := WTR (g := g) t
  have w1 : ∀ g, hS (uI h g) 1 = 10 := fun g => w1'
  have wr0 : ∀ g, hR (uI h g) 1 0 = 2 := fun g => wr0'
  have s2 : ∀ g, hS (uI h g) 2 = 9 := fun g => t.td.2.2.1
  have s7 : ∀ (h : Hp) (g : Nat → Nat → Int32), TS h → hS (uI h g) 755 = 11 := fun h g t => t.td.1.1
  have r2 : ∀ r, r ≠ 2 → r ≠ 3 → r ≠ 755 → r ≠ 761 → r ≠ 762 → up2 g 2 1 0 r = g r := fun r h1 _ _ _ _ => up_row h1
  by_cases q : T = nc (g 756)
  · subst q
    have C := C_look_L t R W t1 hT (Nat.le_refl _) (nc (g 756)) 0 (-1) (-1) 0 (by omega) (999999 - nc (g 756))
    rw [← FU_mm (by omega)] at C
    refine cl_l (h := h) (g := g) (fl := fun H => f_Lw_look H 1 765) (fm := fun H => f_Model_look H 755) (h1 := h) (g1 := up2 g 2 1 0) (v := plF (lvD (g 756) (g 3)) (-1) (-1) 0 0 (nc (g 756))) (lw_look (H := uI h g) (H1 := uI h (up2 g 2 1 0)) t t ?_) t (fun h' t' => ⟨usg (up2 g 2 1 0), ?_, us_0, ?_⟩) (by omega) (by omega)
    · unfold f_Water_look f_Water_look_b0 f_Water_look_b22 f_Water_look_b35 f_Water_pairOfLevels f_Water_pairOfLevels_b0
      rw [if_pos (w1 _), wr0, if_pos (s2 _), w5, if_pos w6, hI_u, t1, e0, if_pos rfl, if_neg (by decide)]
      show (if hS (uI h g) 1 = 10 then bI (f_Water_pairOfLevels_L9 FU (uI h g) 1 (-1) (-1) 0 (nI 0)) _ else none) = _
      rw [if_pos (w1 _), C, bI_s, if_pos (w1 _), wr0, if_pos (s2 _), wr_s, sI_u, if_neg (by decide)]
    · show f_Model_look_b0 (uI h' (up2 g 2 1 0)) 755 = _
      have u6 : usg (up2 g 2 1 0) 756 = g 756 := (us_r (by decide)).trans (up_row (by decide))
      have u61 : usg (up2 g 2 1 0) 761 = g 761 := (us_r (by decide)).trans (up_row (by decide))
      have N := N_look_L (h := h') t'.td.1 u6 W (nc (g 756)) 0 (-1) (-1) 0 0 0 (by omega) (Or.inl ⟨rfl, rfl⟩) (Or.inl ⟨rfl, rfl⟩) rfl (999999 - nc (g 756))
      rw [← FU_mm (by omega), u61] at N
      unfold f_Model_look_b0 f_Model_look_b21
      rw [if_pos (s7 _ _ t'), M_uses t'.td.1, bV_s, if_pos (s7 _ _ t'), N_cis t'.td.1, bI_s, hI_u, us_11, u6, up_row (by decide), t2, W.1.1, if_pos rfl, if_pos (s7 _ _ t'), N_thr0 t'.td.1, bI_s, if_pos rfl]
      refine N.trans ?_
      rw [pl_c (nc (g 756)) 0 _ _ _ fun i _ hi => (show lvD (g 756) (g 761) i = lvD (g 756) (g 3) i by unfold lvD; rw [(t3 i (by omega)).1])]
    · exact I.tap (fun r h1 h2 h3 h4 h5 => (us_r h3).trans (up_row h1)) (fun j hj => (us_j (by omega) (by omega) (by omega) (by omega)).trans (by rw [up_row (by decide)])) (tap_0 (by rw [us_r (by decide), up_eq]) us_9)
  · have ne : ¬ nI T = nI (nc (g 756)) := fun z => q ((nI_eq (by omega) (by omega)).mp z)
    refine cl_t (h := h) (g := g) (g1 := up2 g 2 1 0) (fl := fun H => f_Lw_look H 1 765) (fm := fun H => f_Model_look H 755) I r2 (fun j _ => by rw [up_row (by decide)]) (lw_look_2 (H := uI h g) t ?_) (by decide) (fun h' g' t' x' => ⟨0, up2 (usg g') 755 0 1, ?_, up_eq, fun r _ _ h3 _ _ => (up_row h3).trans (us_r h3), fun j hj => (up_k (by omega)).trans (us_j (by omega) (by omega) (by omega) (by omega)), tap_0 ?_ ?_⟩)
    · unfold f_Water_look f_Water_look_b0 f_Water_look_b22 f_Water_look_b35
      rw [if_pos (w1 _), wr0, if_pos (s2 _), w5, if_pos w6, hI_u, t1, e0, if_neg ne, if_pos rfl, if_pos (w1 _), if_pos (s2 _), wr_s, sI_u, if_pos rfl]
    · show f_Model_look_b0 (uI h' g') 755 = _
      have u6 : usg g' 756 = g 756 := (us_r (by decide)).trans ((x' 756 (by decide)).trans (up_row (by decide)))
      have u7 : g' 755 9 = nI T := by rw [x' 755 (by decide), up_row (by decide)]; exact t2
      unfold f_Model_look_b0 f_Model_look_b21
      rw [if_pos (s7 _ _ t'), M_uses t'.td.1, bV_s, if_pos (s7 _ _ t'), N_cis t'.td.1, bI_s, hI_u, us_11, u6, u7, W.1.1, if_neg ne, if_pos (s7 _ _ t'), N_thr1 t'.td.1, bI_s, if_neg (by decide)]
    · rw [up_row (by decide), us_r (by decide), x' 2 (by decide), up_eq]
    · rw [up_k (by decide)]; exact us_9
end U45
