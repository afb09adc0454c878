/-! ===== the tape: feed and end ===== -/
section U32
variable {h h1 : Hp} {g g' g1 g2 : Nat → Nat → Int32} {w w' : Nat → Int32} {A B L S c d k n l y j m q s i r z E N M M' o T : Nat} {v x a b p1 p2 p3 p4 p5 : Int32} {F : Nat → Int32}
theorem INV.tap (I : INV M h g) (x : ∀ r, r ≠ 2 → r ≠ 3 → r ≠ 755 → r ≠ 761 → r ≠ 762 → g' r = g r) (x5 : ∀ j, j = 6 ∨ j = 7 ∨ j = 14 → g' 755 j = g 755 j) (T : TAP g') : INV (M + 60) h g' := by
  obtain ⟨t, H, I1, ⟨N, R, m1, m2, m3, m4, m5, m6⟩, -, W, lb, mo⟩ := I
  have X : ∀ r, r ≠ 2 ∧ r ≠ 3 ∧ r ≠ 755 ∧ r ≠ 761 ∧ r ≠ 762 → g' r = g r := fun r e => x r e.1 e.2.1 e.2.2.1 e.2.2.2.1 e.2.2.2.2
  have z : FZ h g g' := fun r hr _ => X r (by omega)
  refine INV.mono (M := M) ⟨t, ?_, ?_, ⟨N, R, ?_, m2, ?_, ?_, m5, fun i hi => ?_⟩, T, ?_, lb, mo.cg (X 6 (by omega)) (X 11 (by omega))⟩ (by omega)
  · rw [X 756 (by omega)]; exact H.fz z fun r h1 h2 _ => X r (by omega)
  · rcases I1 with ⟨i1, i2⟩ | ⟨i1, i2, i3⟩
    · exact Or.inl ⟨by rw [X 1 (by omega)]; exact i1, by rw [x5 6 (by omega)]; exact i2⟩
    · exact Or.inr ⟨by rw [X 1 (by omega)]; exact i1, by rw [x5 6 (by omega)]; exact i2, by rw [X 757 (by omega)]; exact i3.fz z fun r h1 h2 _ => X r (by omega)⟩
  · rw [X 15 (by omega)]; exact m1
  · rw [X 15 (by omega)]; exact m3
  · rw [x5 7 (by omega)]; exact m4
  · have e : wmo g' (R - 1 - i) = wmo g (R - 1 - i) := funext fun k => by unfold wmo; rw [X 760 (by omega)]
    have := Nat.mod_lt (N + 12 - i) (show 0 < 12 by decide)
    rw [e]
    exact (m6 i hi).fz z fun r h1 h2 _ => X r (by unfold la at *; omega)
  · rw [X 1 (by omega), x5 14 (by omega)]; exact W
/-- a byte of a number -/
def bt (x s : Int32) : Int32 := Int8.toInt32 (Int32.toInt8 (Int8.toInt32 (Int32.toInt8 (jshr x s))))
theorem bt_in : -128 ≤ (bt x a).toInt ∧ (bt x a).toInt ≤ 127 := by
  unfold bt
  rw [Int8.toInt_toInt32]
  generalize Int32.toInt8 (Int8.toInt32 (Int32.toInt8 (jshr x a))) = u
  have h1 := Int8.le_toInt u
  have h2 := Int8.toInt_lt u
  omega
theorem C_add_s {f : Hp → Nat → Int32 → Int32 → Option Hp} (t : TSt h) (e : g 2 1 = nI T) (hT : T < 400) (hx : ¬ b < 0) : f_Tape_add_b2 f (uI h g) 2 x b = f (uI h (up2 (up2 g 3 T (bt x (8 * b))) 2 1 (nI (T + 1)))) 2 x (b + (-1)) := by
  have s2 : ∀ g, hS (uI h g) 2 = 9 := fun g => t.1
  have r2 : ∀ g, hR (uI h g) 2 0 = 3 := fun g => t.2.1.1
  have s3 : ∀ g, hS (uI h g) 3 = 21 := fun g => t.2.2.1.1
  have l3 : ∀ g, hL (uI h g) 3 = 400 := fun g => t.2.2.1.2
  unfold f_Tape_add_b2
  rw [if_neg hx, if_pos (s2 _), r2, if_pos (s3 _), l3, hI_u, e, show Int32.ofNat 400 = nI 400 from rfl, if_neg (nI_ge hT (by decide)), if_pos (ib_n hT (by decide)), ix_n (by omega), wr_s, sI_u, wr_s, sI_u, hI_u, up_r (by decide), e, nI_1]
  rfl
theorem C_add (t : TSt h) (e : g 2 1 = nI T) (hT : T + 4 ≤ 400) : ∃ g', f_Tape_add (uI h g) 2 x = some (uI h g') ∧ g' 2 1 = nI (T + 4) ∧ (∀ j, j < 4 → g' 3 (T + j) = bt x (nI (24 - 8 * j))) ∧ (∀ k, k < T → g' 3 k = g 3 k) ∧ ∀ r, r ≠ 2 → r ≠ 3 → g' r = g r := by
  refine ⟨up2 (up2 (up2 (up2 (up2 (up2 (up2 (up2 g 3 T (bt x (8 * 3))) 2 1 (nI (T + 1))) 3 (T + 1) (bt x (8 * (3 + (-1))))) 2 1 (nI (T + 2))) 3 (T + 2) (bt x (8 * (3 + (-1) + (-1))))) 2 1 (nI (T + 3))) 3 (T + 3) (bt x (8 * (3 + (-1) + (-1) + (-1))))) 2 1 (nI (T + 4)), ?_, up_eq, fun j hj => ?_, fun k hk => ?_, fun r h1 h2 => ?_⟩
  · have E : ∀ n G y, f_Tape_add_L2 (n + 1) (uI h G) 2 x y = f_Tape_add_b2 (f_Tape_add_L2 n) (uI h G) 2 x y := fun _ _ _ => rfl
    show f_Tape_add_L2 (999995 + 4 + 1) (uI h g) 2 x 3 = _
    rw [E, C_add_s t e (by omega) (by decide), E, C_add_s t up_eq (by omega) (by decide), E, C_add_s t up_eq (by omega) (by decide), E, C_add_s t up_eq (by omega) (by decide), E]
    unfold f_Tape_add_b2
    rw [if_pos (by decide)]
  · have : j = 0 ∨ j = 1 ∨ j = 2 ∨ j = 3 := by omega
    rcases this with rfl | rfl | rfl | rfl
    · rw [up_r (by decide), up_k (by omega), up_r (by decide), up_k (by omega), up_r (by decide), up_k (by omega), up_r (by decide), Nat.add_zero, up_eq]; rfl
    · rw [up_r (by decide), up_k (by omega), up_r (by decide), up_k (by omega), up_r (by decide), up_eq]; rfl
    · rw [up_r (by decide), up_k (by omega), up_r (by decide), up_eq]; rfl
    · rw [up_r (by decide), up_eq]; rfl
  · rw [up_r (by decide), up_k (by omega), up_r (by decide), up_k (by omega), up_r (by decide), up_k (by omega), up_r (by decide), up_k (by omega)]
  · rw [up_row h1, up_row h2, up_row h1, up_row h2, up_row h1, up_row h2, up_row h1, up_row h2]
theorem N_feed_L (t : TSr h) (hT : T + 20 ≤ 400) : ∀ (j i : Nat) (g : Nat → Nat → Int32), i + j = 20 → g 755 9 = nI T → (∀ a, a < 5 → g 762 a = F a) → ∀ q, ∃ g', f_Model_feed_L60 (q + j + 1) (uI h g) 755 (nI i) = some (nI (T + 20), uI h g') ∧ g' 755 9 = nI (T + 20) ∧ (∀ k, i ≤ k → k < 20 → g' 761 (T + k) = bt (F (k / 4)) (nI (24 - 8 * (k % 4)))) ∧ (∀ k, k < T + i → g' 761 k = g 761 k) ∧ (∀ r, r ≠ 755 → r ≠ 761 → g' r = g r) ∧ ∀ j, j ≠ 9 → g' 755 j = g 755 j := by
  have s7 : ∀ g, hS (uI h g) 755 = 11 := fun g => t.1
  have r8 : ∀ g, hR (uI h g) 755 8 = 761 := fun g => t.2.1.2.2.2.2.2.1
  have r15 : ∀ g, hR (uI h g) 755 15 = 762 := fun g => t.2.1.2.2.2.2.2.2.1
  obtain ⟨-, -, -, -, -, -, -, a6, a7, -⟩ := t
  have sa : ∀ g, hS (uI h g) 761 = 21 := fun g => a6.1
  have la' : ∀ g, hL (uI h g) 761 = 400 := fun g => a6.2
  have sb : ∀ g, hS (uI h g) 762 = 20 := fun g => a7.1
  have lb' : ∀ g, hL (uI h g) 762 = 5 := fun g => a7.2
  have sh : ∀ r, r < 4 → (24 : Int32) - (8 : Int32) * nI r = nI (24 - 8 * r) := by decide
  intro j
  induction j with
  | zero =>
    intro i g hi e9 hF q
    have hi' : i = 20 := hi
    subst hi'
    refine ⟨up2 g 755 9 (nI (T + 20)), ?_, up_eq, fun k h1 h2 => absurd h1 (by omega), fun k hk => by rw [up_r (by decide)], fun r h1 h2 => up_row h1, fun j hj => up_k hj⟩
    show f_Model_feed_b60 (f_Model_feed_L60 q) (uI h g) 755 (nI 20) = _
    unfold f_Model_feed_b60
    rw [if_pos (show (20 : Int32) ≤ nI 20 by decide), if_pos (s7 _), wr_s, sI_u, hI_u, hI_u, up_eq, e9, show (20 : Int32) = nI 20 from rfl, nI_add]
  | succ j ih =>
    intro i g hi e9 hF q
    have E : f_Model_feed_L60 (q + (j + 1) + 1) (uI h g) 755 (nI i) = f_Model_feed_b60 (f_Model_feed_L60 (q + j + 1)) (uI h g) 755 (nI i) := rfl
    obtain ⟨g', z1, z2, z3, z4, z5, z6⟩ := ih (i + 1) (up2 g 761 (T + i) (bt (F (i / 4)) (nI (24 - 8 * (i % 4))))) (by omega) (by rw [up_r (by decide)]; exact e9) (fun a ha => by rw [up_r (by decide)]; exact hF a ha) q
    refine ⟨g', ?_, z2, fun k h1 h2 => ?_, fun k hk => ?_, fun r h1 h2 => (z5 r h1 h2).trans (up_row h2), fun j hj => (z6 j hj).trans (by rw [up_r (by decide)])⟩
    · rw [E]
      unfold f_Model_feed_b60
      rw [if_neg (show ¬ (20 : Int32) ≤ nI i from nI_ge (b := 20) (by omega) (by decide)), if_pos (s7 _), r15, if_pos (sb _), lb', show nI i / (4 : Int32) = nI (i / 4) from pk_div (by omega) (by decide) (by decide), if_pos (ib_n (by omega) (by decide)), r8, if_pos (sa _), la', hI_u, e9, nI_add, if_pos (ib_n (by omega) (by decide)), ix_n (by omega), ix_n (by omega), hF _ (by omega), show (4 : Int32) = nI 4 from rfl, jrem_n (by omega) (by decide) (by decide), sh _ (Nat.mod_lt _ (by decide)), wr_s, sI_u, nI_1]
      exact z1
    · by_cases q : k = i
      · subst q
        rw [z4 _ (by omega), up_eq]
      · exact z3 k (by omega) h2
    · rw [z4 k (by omega), up_k (by omega)]
def fv (p1 p2 p3 p4 p5 : Int32) (a : Nat) : Int32 := if a = 0 then p1 else if a = 1 then p2 else if a = 2 then p3 else if a = 3 then p4 else p5
theorem sp_feed : VSp M (fun H => f_Water_feed H 1 p1 p2 p3 p4 p5) (fun H => f_Model_feed H 755 p1 p2 p3 p4 p5) := by
  intro H I
  obtain ⟨h, g, rfl⟩ : ∃ h g, H = uI h g := ⟨H, hI H, rfl⟩
  have I : INV M h g := I
  obtain ⟨t, -⟩ := I.us
  obtain ⟨T, e1, e2, hT, e3⟩ := I.2.2.2.2.1
  obtain ⟨⟨w1', w2', -⟩, -, -⟩ := WTR (g := g) t
  have w1 : ∀ g, hS (uI h g) 1 = 10 := fun g => w1'
  have w2 : ∀ g, hR (uI h g) 1 0 = 2 := fun g => w2'
  have s2 : ∀ g, hS (uI h g) 2 = 9 := fun g => t.td.2.2.1
  have s7 : ∀ (g : Nat → Nat → Int32), hS (uI h g) 755 = 11 := fun g => t.td.1.1
  have r15 : ∀ g, hR (uI h g) 755 15 = 762 := fun g => t.td.1.2.1.2.2.2.2.2.2.1
  have sb : ∀ g, hS (uI h g) 762 = 20 := fun g => t.td.1.2.2.2.2.2.2.2.2.1.1
  have lb' : ∀ g, hL (uI h g) 762 = 5 := fun g => t.td.1.2.2.2.2.2.2.2.2.1.2
  by_cases q : T ≤ 380
  · obtain ⟨g1, a1, a2, a3, a4, a5⟩ := C_add (x := p1) t.td.2.2 e1 (by omega)
    obtain ⟨g2, b1, b2, b3, b4, b5⟩ := C_add (x := p2) t.td.2.2 a2 (by omega)
    obtain ⟨g3, c1, c2, c3, c4, c5⟩ := C_add (x := p3) t.td.2.2 b2 (by omega)
    obtain ⟨g4, d1, d2, d3, d4, d5⟩ := C_add (x := p4) t.td.2.2 c2 (by omega)
    obtain ⟨g5, f1, f2, f3, f4, f5⟩ := C_add (x := p5) t.td.2.2 d2 (by omega)
    have fr : ∀ r, r ≠ 2 → r ≠ 3 → g5 r = g r := fun r h1 h2 => (f5 r h1 h2).trans ((d5 r h1 h2).trans ((c5 r h1 h2).trans ((b5 r h1 h2).trans (a5 r h1 h2))))
    have lo : ∀ k, k < T → g5 3 k = g 3 k := fun k hk => (f4 k (by omega)).trans ((d4 k (by omega)).trans ((c4 k (by omega)).trans ((b4 k (by omega)).trans (a4 k hk))))
    obtain ⟨G, z1, z2, z3, z4, z5, z6⟩ := N_feed_L (F := fv p1 p2 p3 p4 p5) (T := T) t.td.1 (by omega) 20 0 (up2 (up2 (up2 (up2 (up2 (up2 g5 755 0 0) 762 0 p1) 762 1 p2) 762 2 p3) 762 3 p4) 762 4 p5) rfl (by
      rw [up_r (by decide), up_r (by decide), up_r (by decide), up_r (by decide), up_r (by decide), up_k (by decide), fr 755 (by decide) (by decide)]; exact e2) (fun a ha => by
      have : a = 0 ∨ a = 1 ∨ a = 2 ∨ a = 3 ∨ a = 4 := by omega
      rcases this with rfl | rfl | rfl | rfl | rfl
      · rw [up_k (by decide), up_k (by decide), up_k (by decide), up_k (by decide), up_eq]; rfl
      · rw [up_k (by decide), up_k (by decide), up_k (by decide), up_eq]; rfl
      · rw [up_k (by decide), up_k (by decide), up_eq]; rfl
      · rw [up_k (by decide), up_eq]; rfl
      · rw [up_eq]; rfl) 999979
    have zr : ∀ r, r ≠ 755 → r ≠ 761 → r ≠ 762 → G r = g5 r := fun r h1 h2 h3 => by
      rw [z5 r h1 h2, up_row h3, up_row h3, up_row h3, up_row h3, up_row h3, up_row h1]
    have zz : ∀ j, j ≠ 0 → j ≠ 9 → G 755 j = g 755 j := fun j h1 h2 => by
      rw [z6 j h2, up_r (by decide), up_r (by decide), up_r (by decide), up_r (by decide), up_r (by decide), up_k h1, fr 755 (by decide) (by decide)]
    refine cl_v (h := h) (g := g) (fw := fun H => f_Water_feed H 1 p1 p2 p3 p4 p5) (fm := fun H => f_Model_feed H 755 p1 p2 p3 p4 p5) (h1 := h) (g1 := g5) (g2 := G) (v := nI (T + 20)) ?_ t ?_ ?_ (by omega) (by omega)
    · show f_Water_feed_b0 (uI h g) 1 p1 p2 p3 p4 p5 = _
      unfold f_Water_feed_b0
      rw [if_pos (w1 _), w2, if_pos (s2 _), hI_u, e1, if_pos (show nI T ≤ (380 : Int32) from nI_le (b := 380) q (by decide)), a1, bV_s, if_pos (w1 _), w2, if_pos (s2 _), b1, bV_s, if_pos (w1 _), w2, if_pos (s2 _), c1, bV_s, if_pos (w1 _), w2, if_pos (s2 _), d1, bV_s, if_pos (w1 _), w2, if_pos (s2 _), f1, bV_s, if_pos (w1 _), w2, if_pos (s2 _), hI_u, f2]
    · show f_Model_feed_b0 (uI h g5) 755 p1 p2 p3 p4 p5 = _
      have i0 : ix (0 : Int32) = 0 := rfl
      have i1 : ix (1 : Int32) = 1 := rfl
      have i2 : ix (2 : Int32) = 2 := rfl
      have i3 : ix (3 : Int32) = 3 := rfl
      have i4 : ix (4 : Int32) = 4 := rfl
      unfold f_Model_feed_b0
      rw [if_pos (s7 _), wr_s, sI_u, hI_u, up_k (by decide), fr 755 (by decide) (by decide), e2, show (20 : Int32) = nI 20 from rfl, nI_add, if_pos (show nI (T + 20) ≤ (400 : Int32) from nI_le (b := 400) (by omega) (by decide)), r15, if_pos (sb _), lb', if_pos (by decide), i0, wr_s, sI_u, r15, if_pos (sb _), lb', if_pos (by decide), i1, wr_s, sI_u, r15, if_pos (sb _), lb', if_pos (by decide), i2, wr_s, sI_u, r15, if_pos (sb _), lb', if_pos (by decide), i3, wr_s, sI_u, r15, if_pos (sb _), lb', if_pos (by decide), i4, wr_s, sI_u]
      exact z1
    · refine I.tap (fun r h1 h2 h3 h4 h5 => (zr r h3 h4 h5).trans (fr r h1 h2)) (fun j hj => zz j (by omega) (by omega)) ⟨T + 20, ?_, z2, by omega, fun k hk => ?_⟩
      · rw [zr 2 (by decide) (by decide) (by decide)]; exact f2
      · rw [zr 3 (by decide) (by decide) (by decide)]
        by_cases kT : k < T
        · have m1 : G 761 k = g 761 k := by
            rw [z4 k (by omega), up_r (by decide), up_r (by decide), up_r (by decide), up_r (by decide), up_r (by decide), up_r (by decide), fr 761 (by decide) (by decide)]
          rw [lo k kT, m1]
          exact e3 k kT
        · obtain ⟨u, rfl⟩ : ∃ u, k = T + u := ⟨k - T, by omega⟩
          have zu := z3 u (by omega) (by omega)
          rw [zu]
          refine ⟨?_, bt_in⟩
          have hu : u / 4 = 0 ∨ u / 4 = 1 ∨ u / 4 = 2 ∨ u / 4 = 3 ∨ u / 4 = 4 := by omega
          rcases hu with hu | hu | hu | hu | hu
          · rw [hu, f4 _ (by omega), d4 _ (by omega), c4 _ (by omega), b4 _ (by omega), show T + u = T + u % 4 from by omega, a3 _ (by omega)]; rfl
          · rw [hu, f4 _ (by omega), d4 _ (by omega), c4 _ (by omega), show T + u = T + 4 + u % 4 from by omega, b3 _ (by omega)]; rfl
          · rw [hu, f4 _ (by omega), d4 _ (by omega), show T + u = T + 4 + 4 + u % 4 from by omega, c3 _ (by omega)]; rfl
          · rw [hu, f4 _ (by omega), show T + u = T + 4 + 4 + 4 + u % 4 from by omega, d3 _ (by omega)]; rfl
          · rw [hu, show T + u = T + 4 + 4 + 4 + 4 + u % 4 from by omega, f3 _ (by omega)]; rfl
  · refine cl_v (h := h) (g := g) (fw := fun H => f_Water_feed H 1 p1 p2 p3 p4 p5) (fm := fun H => f_Model_feed H 755 p1 p2 p3 p4 p5) (h1 := h) (g1 := g) (g2 := up2 g 755 0 0) (v := -1) ?_ t ?_ I.th (by omega) (by omega)
    · show f_Water_feed_b0 (uI h g) 1 p1 p2 p3 p4 p5 = _
      unfold f_Water_feed_b0
      rw [if_pos (w1 _), w2, if_pos (s2 _), hI_u, e1, if_neg (show ¬ nI T ≤ (380 : Int32) from nI_ge (a := 380) (by omega) (by omega))]
    · show f_Model_feed_b0 (uI h g) 755 p1 p2 p3 p4 p5 = _
      unfold f_Model_feed_b0
      rw [if_pos (s7 _), wr_s, sI_u, hI_u, up_k (by decide), e2, show (20 : Int32) = nI 20 from rfl, nI_add, if_neg (show ¬ nI (T + 20) ≤ (400 : Int32) from nI_ge (a := 400) (by omega) (by omega))]
theorem sp_end : VSp M (fun H => f_Water_end H 1 p1) (fun H => f_Model_end H 755 p1) := by
  intro H I
  obtain ⟨h, g, rfl⟩ : ∃ h g, H = uI h g := ⟨H, hI H, rfl⟩
  have I : INV M h g := I
  obtain ⟨t, -⟩ := I.us
  obtain ⟨T, e1, e2, hT, e3⟩ := I.2.2.2.2.1
  obtain ⟨⟨w1, w2, -⟩, -, -⟩ := WTR (g := g) t
  have s2 : ∀ g, hS (uI h g) 2 = 9 := fun g => t.td.2.2.1
  have s7 : ∀ (g : Nat → Nat → Int32), hS (uI h g) 755 = 11 := fun g => t.td.1.1
  by_cases neg : p1 < 0
  · refine cl_v (h := h) (g := g) (fw := fun H => f_Water_end H 1 p1) (fm := fun H => f_Model_end H 755 p1) (h1 := h) (g1 := g) (g2 := up2 g 755 0 0) (v := 0) ?_ t ?_ I.th (by omega) (by omega)
    · show f_Water_end_b0 (uI h g) 1 p1 = _
      unfold f_Water_end_b0
      rw [if_pos neg]
    · show f_Model_end_b0 (uI h g) 755 p1 = _
      unfold f_Model_end_b0
      rw [if_pos (s7 _), wr_s, sI_u, if_pos neg]
  · by_cases le : p1 ≤ nI T
    · obtain ⟨n, hn, rfl⟩ := nI_of neg
      have hnT : n ≤ T := by
        by_cases z : n ≤ T
        · exact z
        · exact absurd le (nI_ge (by omega) hn)
      refine cl_v (h := h) (g := g) (fw := fun H => f_Water_end H 1 (nI n)) (fm := fun H => f_Model_end H 755 (nI n)) (h1 := h) (g1 := up2 g 2 1 (nI n)) (g2 := up2 (up2 (up2 g 2 1 (nI n)) 755 0 0) 755 9 (nI n)) (v := 1) ?_ t ?_ ?_ (by omega) (by omega)
      · show f_Water_end_b0 (uI h g) 1 (nI n) = _
        unfold f_Water_end_b0
        rw [if_neg neg, if_pos w1, w2, if_pos (s2 _), hI_u, e1, if_pos le, wr_s, sI_u]
      · show f_Model_end_b0 (uI h (up2 g 2 1 (nI n))) 755 (nI n) = _
        unfold f_Model_end_b0
        rw [if_pos (s7 _), wr_s, sI_u, if_neg neg, hI_u, up_k (by decide), up_r (by decide), e2, if_pos le, wr_s, sI_u]
      · refine I.tap (fun r h1 h2 h3 h4 h5 => by rw [up_row h3, up_row h3, up_row h1]) (fun j hj => by rw [up_k (by omega), up_k (by omega), up_r (by decide)]) ⟨n, ?_, up_eq, by omega, fun k hk => ?_⟩
        · rw [up_r (by decide), up_r (by decide), up_eq]
        · rw [up_r (by decide), up_r (by decide), up_r (by decide), up_r (by decide), up_r (by decide), up_r (by decide)]
          exact e3 k (by omega)
    · refine cl_v (h := h) (g := g) (fw := fun H => f_Water_end H 1 p1) (fm := fun H => f_Model_end H 755 p1) (h1 := h) (g1 := g) (g2 := up2 g 755 0 0) (v := 0) ?_ t ?_ I.th (by omega) (by omega)
      · show f_Water_end_b0 (uI h g) 1 p1 = _
        unfold f_Water_end_b0
        rw [if_neg neg, if_pos w1, w2, if_pos (s2 _), hI_u, e1, if_neg le]
      · show f_Model_end_b0 (uI h g) 755 p1 = _
        unfold f_Model_end_b0
        rw [if_pos (s7 _), wr_s, sI_u, if_neg neg, hI_u, up_k (by decide), e2, if_neg le]
end U32
