/-! ===== months ===== -/
section U35
variable {h h1 h0 : Hp} {g g' g1 g2 g0 : Nat → Nat → Int32} {w w' w0 : Nat → Int32} {A B L S c d k n l y j m q s i r z E N M M' o T R : Nat} {v x a b p1 p2 p3 p4 p5 : Int32} {Q : Nat → Nat → Int32}
theorem N_rem1 (t : TSr h) (hR2 : R < 12) : ∀ (j y : Nat) (g : Nat → Nat → Int32), y + j = 1454 → g 755 7 = nI (R + 1) → (∀ k, k < y → g 760 (1454 * R + k) = g 756 k) → ∀ q, ∃ g', f_Model_remembers_L55 (q + j + 1) (uI h g) 755 (nI y) = some (uI h g') ∧ (∀ k, k < 1454 → g' 760 (1454 * R + k) = g 756 k) ∧ (∀ k, k < 1454 * R → g' 760 k = g 760 k) ∧ ∀ r, r ≠ 760 → g' r = g r := by
  have s7 : ∀ g, hS (uI h g) 755 = 11 := fun g => t.1
  have r1 : ∀ g, hR (uI h g) 755 1 = 756 := fun g => t.2.1.1
  have r5 : ∀ g, hR (uI h g) 755 5 = 760 := fun g => t.2.1.2.2.2.2.1
  obtain ⟨-, -, ⟨a1, a2⟩, -, -, -, ⟨b1, b2⟩, -⟩ := t
  have s6 : ∀ g, hS (uI h g) 756 = 20 := fun g => a1
  have l6 : ∀ g, hL (uI h g) 756 = 2291 := fun g => a2
  have s0 : ∀ g, hS (uI h g) 760 = 20 := fun g => b1
  have l0 : ∀ g, hL (uI h g) 760 = 17448 := fun g => b2
  have j2 : nI (R + 1) - (1 : Int32) = nI R := pk_sub (a := R + 1) (b := 1) (by omega)
  intro j
  induction j with
  | zero =>
    intro y g hy e7 hg q
    have hy' : y = 1454 := hy
    subst hy'
    refine ⟨g, ?_, hg, fun _ _ => rfl, fun _ _ => rfl⟩
    show f_Model_remembers_b55 (f_Model_remembers_L55 q) (uI h g) 755 (nI 1454) = _
    unfold f_Model_remembers_b55
    rw [if_pos (show (1454 : Int32) ≤ nI 1454 by decide)]
  | succ j ih =>
    intro y g hy e7 hg q
    have E : f_Model_remembers_L55 (q + (j + 1) + 1) (uI h g) 755 (nI y) = f_Model_remembers_b55 (f_Model_remembers_L55 (q + j + 1)) (uI h g) 755 (nI y) := rfl
    obtain ⟨g', z1, z2, z3, z4⟩ := ih (y + 1) (up2 g 760 (1454 * R + y) (g 756 y)) (by omega) (by rw [up_r (by decide)]; exact e7) (fun k hk => by
      rw [up_r (b := 756) (by decide)]
      by_cases e : k = y
      · subst e; rw [up_eq]
      · rw [up_k (by omega)]; exact hg k (by omega)) q
    refine ⟨g', ?_, fun k hk => by rw [z2 k hk, up_r (by decide)], fun k hk => by rw [z3 k hk, up_k (by omega)], fun r hr => (z4 r hr).trans (up_row hr)⟩
    rw [E]
    unfold f_Model_remembers_b55
    rw [if_neg (show ¬ (1454 : Int32) ≤ nI y from nI_ge (b := 1454) (by omega) (by decide)), if_pos (s7 _), r1, if_pos (s6 _), l6, if_pos (ib_n (by omega) (by decide)), r5, if_pos (s0 _), hI_u, e7, j2, show (1454 : Int32) * nI R + nI y = nI (1454 * R + y) from by rw [show (1454 : Int32) = nI 1454 from rfl, nI_mul, nI_add], l0, if_pos (ib_n (by omega) (by decide)), ix_n (by omega), ix_n (by omega), wr_s, sI_u, nI_1]
    exact z1
theorem N_rem2 (t : TSr h) (G0 : Nat → Int32) : ∀ (j y : Nat) (g : Nat → Nat → Int32), y + j = 15994 → (∀ k, k < y → g 760 k = G0 (k + 1454)) → (∀ k, y ≤ k → g 760 k = G0 k) → ∀ q, ∃ g', f_Model_remembers_L11 (q + j + 1) (uI h g) 755 (nI y) = f_Model_remembers_b53 (uI h g') 755 ∧ (∀ k, k < 15994 → g' 760 k = G0 (k + 1454)) ∧ ∀ r, r ≠ 760 → g' r = g r := by
  have s7 : ∀ g, hS (uI h g) 755 = 11 := fun g => t.1
  have r5 : ∀ g, hR (uI h g) 755 5 = 760 := fun g => t.2.1.2.2.2.2.1
  obtain ⟨-, -, -, -, -, -, ⟨b1, b2⟩, -⟩ := t
  have s0 : ∀ g, hS (uI h g) 760 = 20 := fun g => b1
  have l0 : ∀ g, hL (uI h g) 760 = 17448 := fun g => b2
  intro j
  induction j with
  | zero =>
    intro y g hy h1 h2 q
    have hy' : y = 15994 := hy
    subst hy'
    refine ⟨g, ?_, h1, fun _ _ => rfl⟩
    show f_Model_remembers_b11 (f_Model_remembers_L11 q) (uI h g) 755 (nI 15994) = _
    unfold f_Model_remembers_b11
    rw [if_pos (show (15994 : Int32) ≤ nI 15994 by decide)]
  | succ j ih =>
    intro y g hy h1 h2 q
    have E : f_Model_remembers_L11 (q + (j + 1) + 1) (uI h g) 755 (nI y) = f_Model_remembers_b11 (f_Model_remembers_L11 (q + j + 1)) (uI h g) 755 (nI y) := rfl
    obtain ⟨g', z1, z2, z3⟩ := ih (y + 1) (up2 g 760 y (g 760 (y + 1454))) (by omega) (fun k hk => by
      by_cases e : k = y
      · subst e; rw [up_eq, h2 _ (by omega)]
      · rw [up_k e]; exact h1 k (by omega)) (fun k hk => by rw [up_k (by omega)]; exact h2 k (by omega)) q
    refine ⟨g', ?_, z2, fun r hr => (z3 r hr).trans (up_row hr)⟩
    rw [E]
    unfold f_Model_remembers_b11
    rw [if_neg (show ¬ (15994 : Int32) ≤ nI y from nI_ge (b := 15994) (by omega) (by decide)), if_pos (s7 _), r5, if_pos (s0 _), l0, show nI y + (1454 : Int32) = nI (y + 1454) from nI_add y 1454, if_pos (ib_n (by omega) (by decide)), if_pos (ib_n (by omega) (by decide)), ix_n (by omega), ix_n (by omega), hI_u, wr_s, sI_u, nI_1]
    exact z1
/-- the months remembered, the newest first, with one more -/
def pushQ (u : Nat → Int32) (Q : Nat → Nat → Int32) : Nat → Nat → Int32 := fun j => if j = 0 then u else Q (j - 1)
theorem N_remembers (t : TSr h) (e7 : g 755 7 = nI R) (hR : R ≤ 12) (hq : ∀ j, j < R → ∀ k, k < 1454 → g 760 (1454 * (R - 1 - j) + k) = Q j k) :
    ∃ g', f_Model_remembers (uI h g) 755 = some (uI h g') ∧ g' 755 7 = nI (min 12 (R + 1)) ∧ (∀ j, j < min 12 (R + 1) → ∀ k, k < 1454 → g' 760 (1454 * (min 12 (R + 1) - 1 - j) + k) = pushQ (g 756) Q j k) ∧ (∀ r, r ≠ 755 → r ≠ 760 → g' r = g r) ∧ ∀ j, j ≠ 7 → g' 755 j = g 755 j := by
  have s7 : ∀ g, hS (uI h g) 755 = 11 := fun g => t.1
  unfold f_Model_remembers f_Model_remembers_b0
  rw [if_pos (s7 _), hI_u, e7]
  by_cases e : R = 12
  · subst e
    rw [if_pos (show nI 12 = (12 : Int32) from rfl)]
    obtain ⟨g1, p1, p2, p3⟩ := N_rem2 t (g 760) 15994 0 g rfl (fun k hk => absurd hk (Nat.not_lt_zero _)) (fun _ _ => rfl) 984005
    obtain ⟨g', q1, q2, q3, q4⟩ := N_rem1 t (R := 11) (by decide) 1454 0 g1 rfl (by rw [p3 755 (by decide)]; exact e7) (fun k hk => absurd hk (Nat.not_lt_zero _)) 998545
    refine ⟨g', ?_, ?_, fun j hj k hk => ?_, fun r h1 h2 => (q4 r h2).trans (p3 r h2), fun j hj => by rw [q4 755 (by decide), p3 755 (by decide)]⟩
    · show f_Model_remembers_L11 (984005 + 15994 + 1) (uI h g) 755 (nI 0) = _
      rw [p1]
      exact q1
    · rw [q4 755 (by decide), p3 755 (by decide)]; exact e7
    · unfold pushQ
      by_cases e : j = 0
      · subst e
        rw [if_pos rfl, show 1454 * (min 12 (12 + 1) - 1 - 0) + k = 1454 * 11 + k from rfl, q2 k hk, p3 756 (by decide)]
      · rw [if_neg e, q3 _ (by omega), p2 _ (by omega), ← hq (j - 1) (by omega) k hk]
        exact congrArg (g 760) (by omega)
  · rw [if_neg (show ¬ nI R = (12 : Int32) from fun z => e ((nI_eq (b := 12) (by omega) (by decide)).mp z)), wr_s, sI_u, nI_1]
    obtain ⟨g', q1, q2, q3, q4⟩ := N_rem1 t (R := R) (by omega) 1454 0 (up2 g 755 7 (nI (R + 1))) rfl up_eq (fun k hk => absurd hk (Nat.not_lt_zero _)) 998545
    have m : min 12 (R + 1) = R + 1 := by omega
    rw [m]
    refine ⟨g', q1, by rw [q4 755 (by decide), up_eq], fun j hj k hk => ?_, fun r h1 h2 => (q4 r h2).trans (up_row h1), fun j hj => by rw [q4 755 (by decide), up_k hj]⟩
    unfold pushQ
    by_cases e : j = 0
    · subst e
      rw [if_pos rfl, show 1454 * (R + 1 - 1 - 0) + k = 1454 * R + k from rfl, q2 k hk, up_r (by decide)]
    · rw [if_neg e]
      have x : 1454 * (R + 1 - 1 - j) + k < 1454 * R := by
        have : (R + 1 - 1 - j) + 1 ≤ R := by omega
        have := Nat.mul_le_mul_left 1454 this
        omega
      rw [q3 _ x, up_r (by decide), ← hq (j - 1) (by omega) k hk]
      exact congrArg (g 760) (by rw [show R + 1 - 1 - j = R - 1 - (j - 1) from by omega])
/-- the world after i months -/
def wk (w : Nat → Int32) : Nat → Nat → Int32
  | 0 => w
  | i + 1 => monthW (wk w i)
def thS (w : Nat → Int32) : Nat → Nat
  | 0 => 0
  | i + 1 => thS w i + thirstW (wk w i)
/-- the months remembered after i more -/
def Qf (w : Nat → Int32) (Q : Nat → Nat → Int32) : Nat → Nat → Nat → Int32
  | 0 => Q
  | i + 1 => pushQ (wk w i) (Qf w Q i)
theorem wk_wf (W : WF M w) (hM : M + 60 < 2 ^ 30) : ∀ i, i ≤ 60 → WF (M + i) (wk w i) := by
  intro i
  induction i with
  | zero => exact fun _ => W
  | succ i ih => exact fun hi => (ih (by omega)).month (by omega)
theorem N_months_L (t : TSr h) (W : WF M w) (hM : M + 60 < 2 ^ 30) (hn : n ≤ 60) : ∀ (j i : Nat) (g : Nat → Nat → Int32) (R : Nat), i + j = n → g 756 = wk w i → g 755 7 = nI R → R ≤ 12 → (∀ j, j < R → ∀ k, k < 1454 → g 760 (1454 * (R - 1 - j) + k) = Qf w Q i j k) → ∀ q, ∃ g', f_Model_months_L34 (q + j + 1) (uI h g) 755 (nI n) (nI (thS w i)) (nI i) = some (nI (thS w n), uI h g') ∧ g' 756 = wk w n ∧ g' 755 7 = nI (min 12 (R + j)) ∧ (∀ a, a < min 12 (R + j) → ∀ k, k < 1454 → g' 760 (1454 * (min 12 (R + j) - 1 - a) + k) = Qf w Q n a k) ∧ (∀ r, r ≠ 755 → r ≠ 756 → r ≠ 760 → r ≠ 763 → g' r = g r) ∧ ∀ j, j ≠ 7 → j ≠ 18 → g' 755 j = g 755 j := by
  have s7 : ∀ g, hS (uI h g) 755 = 11 := fun g => (t.iu (g := g)).1
  intro j
  induction j with
  | zero =>
    intro i g R hi e6 e7 hR hq q
    have hi' : i = n := hi
    subst hi'
    have m : min 12 (R + 0) = R := by omega
    rw [m]
    refine ⟨g, ?_, e6, e7, hq, fun _ _ _ _ _ => rfl, fun _ _ _ => rfl⟩
    show f_Model_months_b34 (f_Model_months_L34 q) (uI h g) 755 (nI i) (nI (thS w i)) (nI i) = _
    unfold f_Model_months_b34
    rw [if_pos (Int32.le_refl _)]
  | succ j ih =>
    intro i g R hi e6 e7 hR hq q
    have E : f_Model_months_L34 (q + (j + 1) + 1) (uI h g) 755 (nI n) (nI (thS w i)) (nI i) = f_Model_months_b34 (f_Model_months_L34 (q + j + 1)) (uI h g) 755 (nI n) (nI (thS w i)) (nI i) := rfl
    obtain ⟨g1, a1, a2, a3, a4, a5⟩ := N_remembers (Q := Qf w Q i) t e7 hR hq
    have a6 : g1 756 = wk w i := (a4 756 (by decide) (by decide)).trans e6
    have Wi := wk_wf W hM i (by omega)
    obtain ⟨g2, b1, b2, -, b4, b5⟩ := N_month (h := h) (g := g1) (M := M + i) t (by rw [a6]; exact Wi) (by omega)
    rw [a6] at b1 b2
    rw [e6] at a3
    obtain ⟨g', z1, z2, z3, z4, z5, z6⟩ := ih (i + 1) g2 (min 12 (R + 1)) (by omega) b2 (by rw [b5 7 (by decide)]; exact a2) (by omega) (fun a ha k hk => by rw [b4 760 (by decide) (by decide) (by decide)]; exact a3 a ha k hk) q
    have m : min 12 (min 12 (R + 1) + j) = min 12 (R + (j + 1)) := by omega
    rw [m] at z3 z4
    refine ⟨g', ?_, z2, z3, z4, fun r h1 h2 h3 h4 => (z5 r h1 h2 h3 h4).trans ((b4 r h1 h2 h4).trans (a4 r h1 h3)), fun j h1 h2 => (z6 j h1 h2).trans ((b5 j h2).trans (a5 j h1))⟩
    rw [E]
    unfold f_Model_months_b34
    rw [if_neg (nI_ge (by omega) (by omega)), if_pos (s7 _), a1, bV_s, if_pos (s7 _), b1, bI_s, nI_add, nI_1]
    exact z1
end U35
