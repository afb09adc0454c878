/-! ===== giveMost and moveMost of the class ===== -/
section U2
variable {h : Hp} {g g' g1 : Nat → Nat → Int32} {a b c T k n l r y j m q : Nat} {v x : Int32} {f p : Nat → Nat}
/-- where it goes: nowhere, or another cistern -/
def isT (h : Hp) (a T : Nat) : Prop := T = 0 ∨ (CS h T ∧ T ≠ a ∧ T ≠ a + 1 ∧ T + 1 ≠ a)
/-- of the first j years p each went from a to T -/
def GV (g g' : Nat → Nat → Int32) (a T j : Nat) (p : Nat → Nat) : Prop :=
  (∀ k, k < j → g' (a + 1) k + nI (p k) = g (a + 1) k) ∧ g' a 5 + nI (smN p j) = g a 5 ∧ (T ≠ 0 → (∀ k, k < j → g' (T + 1) k = g (T + 1) k + nI (p k)) ∧ g' T 5 = g T 5 + nI (smN p j)) ∧
  ∀ r k, ¬ (r = a + 1 ∧ k < j) → ¬ (r = a ∧ k = 5) → (T ≠ 0 → ¬ (r = T + 1 ∧ k < j) ∧ ¬ (r = T ∧ k = 5)) → g' r k = g r k
theorem i_ac {a b c : Int32} : a + b + c = a + c + b := by rw [Int32.add_assoc, Int32.add_comm b c, ← Int32.add_assoc]
theorem i_sa {a b : Int32} : a + -b + b = a := by rw [← Int32.sub_eq_add_neg, Int32.sub_add_cancel]
/-- one year's part -/
def pp (g : Nat → Nat → Int32) (a T y : Nat) (v : Int32) : Nat → Nat → Int32 := if T = 0 then pt g a y (-v) else pt (pt g a y (-v)) T y v
theorem pt_l : pt g a y v (a + 1) y = g (a + 1) y + v := by
  unfold pt
  rw [up_r (by omega), up_eq]
theorem pt_m : pt g a y v a 5 = g a 5 + v := up_eq
theorem pt_o (h1 : ¬ (r = a + 1 ∧ k = y)) (h2 : ¬ (r = a ∧ k = 5)) : pt g a y v r k = g r k := by
  unfold pt up2
  rw [if_neg h2, if_neg h1]
theorem GV.step (e : T = 0 ∨ (T ≠ a ∧ T ≠ a + 1 ∧ T + 1 ≠ a)) (x : GV (pp g a T y (nI (p y))) g' a T y p) : GV g g' a T (y + 1) p := by
  obtain ⟨x1, x2, x3, x4⟩ := x
  by_cases z : T = 0
  · have P : pp g a T y (nI (p y)) = pt g a y (-nI (p y)) := if_pos z
    rw [P] at x1 x2 x3 x4
    refine ⟨fun k hk => ?_, ?_, fun h => absurd z h, fun r k h1 h2 h3 => ?_⟩
    · by_cases e1 : k = y
      · subst e1
        rw [x4 (a + 1) k (fun w => absurd w.2 (Nat.lt_irrefl _)) (fun w => by have := w.1; omega) (fun w => absurd z w), pt_l, i_sa]
      · rw [x1 k (by omega), pt_o (fun w => e1 w.2) (fun w => by have := w.1; omega)]
    · show g' a 5 + nI (smN p y + p y) = _
      rw [← nI_add, ← Int32.add_assoc, x2, pt_m, i_sa]
    · rw [x4 r k (fun w => h1 ⟨w.1, by omega⟩) h2 (fun w => absurd z w), pt_o (fun w => h1 ⟨w.1, by omega⟩) h2]
  · have P : pp g a T y (nI (p y)) = pt (pt g a y (-nI (p y))) T y (nI (p y)) := if_neg z
    rw [P] at x1 x2 x3 x4
    have e' : T ≠ a ∧ T ≠ a + 1 ∧ T + 1 ≠ a := e.resolve_left z
    obtain ⟨e1, e2, e3⟩ := e'
    obtain ⟨y1, y2⟩ := x3 z
    refine ⟨fun k hk => ?_, ?_, fun _ => ⟨fun k hk => ?_, ?_⟩, fun r k h1 h2 h3 => ?_⟩
    · by_cases e1 : k = y
      · subst e1
        rw [x4 (a + 1) k (fun w => absurd w.2 (Nat.lt_irrefl _)) (fun w => by have := w.1; omega) (fun _ => ⟨fun w => by have := w.1; omega, fun w => by have := w.1; omega⟩), pt_o (fun w => by have := w.1; omega) (fun w => by have := w.1; omega), pt_l, i_sa]
      · rw [x1 k (by omega), pt_o (fun w => e1 w.2) (fun w => by have := w.1; omega), pt_o (fun w => e1 w.2) (fun w => by have := w.1; omega)]
    · show g' a 5 + nI (smN p y + p y) = _
      rw [← nI_add, ← Int32.add_assoc, x2, pt_o (fun w => by have := w.1; omega) (fun w => by have := w.1; omega), pt_m, i_sa]
    · by_cases e1 : k = y
      · subst e1
        rw [x4 (T + 1) k (fun w => absurd w.2 (Nat.lt_irrefl _)) (fun w => by have := w.1; omega) (fun _ => ⟨fun w => absurd w.2 (Nat.lt_irrefl _), fun w => by have := w.1; omega⟩), pt_l, pt_o (fun w => by have := w.1; omega) (fun w => by have := w.1; omega)]
      · rw [y1 k (by omega), pt_o (fun w => e1 w.2) (fun w => by have := w.1; omega), pt_o (fun w => e1 w.2) (fun w => by have := w.1; omega)]
    · show g' T 5 = _ + nI (smN p y + p y)
      rw [y2, pt_m, pt_o (fun w => by have := w.1; omega) (fun w => by have := w.1; omega), ← nI_add, Int32.add_assoc, Int32.add_comm (nI (smN p y))]
    · obtain ⟨h4, h5⟩ := h3 z
      rw [x4 r k (fun w => h1 ⟨w.1, by omega⟩) h2 (fun _ => ⟨fun w => h4 ⟨w.1, by omega⟩, h5⟩), pt_o (fun w => h4 ⟨w.1, by omega⟩) h5, pt_o (fun w => h1 ⟨w.1, by omega⟩) h2]
theorem C_give_61 (t : CS h a) (T1 : isT h a T) {k19 : Hp → Nat → Nat → Int32 → Int32 → Int32 → Option Hp} {x3 x4 : Int32} (hy : y < 30) : f_Cistern_giveMost_b61 k19 (uI h g) a T x3 x4 (nI y) v = k19 (uI h (pp g a T y v)) a T x3 x4 (nI y + (-1)) := by
  obtain ⟨s, -⟩ := t.un (g := g)
  unfold f_Cistern_giveMost_b61
  rw [if_pos s, C_take t hy, bV_s]
  by_cases z : T = 0
  · have P : pp g a T y v = pt g a y (-v) := if_pos z
    rw [if_pos z, P]
    rfl
  · have P : pp g a T y v = pt (pt g a y (-v)) T y v := if_neg z
    obtain ⟨c, -⟩ := T1.resolve_left z
    obtain ⟨s2, -⟩ := c.un (g := pt g a y (-v))
    rw [if_neg z, if_pos s2, C_put c hy, bV_s, P]
    rfl
theorem C_give_L (t : CS h a) (T1 : isT h a T) (hf : ∀ y, y < 30 → f y ≤ 999) (hl : l ≤ 999) (hr : r < 2 ^ 20) (hz : 1 ≤ l ∨ r = 0) : ∀ (j : Nat) (g : Nat → Nat → Int32), j ≤ 30 → (∀ y, y < j → g (a + 1) y = nI (f y)) → ∀ n,
    ∃ g', f_Cistern_giveMost_L19 (n + j + 1) (uI h g) a T (nI l) (nI (r - cg f l (30 - j))) (nI j + (-1)) = some (uI h g') ∧ GV g g' a T j (fun y => f y - cut f l r y) := by
  intro j
  induction j with
  | zero =>
    intro g _ _ n
    refine ⟨g, ?_, fun k hk => absurd hk (Nat.not_lt_zero _), ?_, fun _ => ⟨fun k hk => absurd hk (Nat.not_lt_zero _), ?_⟩, fun _ _ _ _ _ => rfl⟩
    · show f_Cistern_giveMost_b19 (f_Cistern_giveMost_L19 n) (uI h g) a T (nI l) _ (nI 0 + (-1)) = _
      unfold f_Cistern_giveMost_b19
      rw [if_pos (by decide)]
    · show g a 5 + nI 0 = _
      rw [nI_0, Int32.add_zero]
    · show g T 5 = g T 5 + nI 0
      rw [nI_0, Int32.add_zero]
  | succ j ih =>
    intro g hj hg n
    have hy : j < 30 := by omega
    have E : ∀ w, f_Cistern_giveMost_L19 (n + (j + 1) + 1) (uI h g) a T (nI l) w (nI (j + 1) + (-1)) = f_Cistern_giveMost_b19 (f_Cistern_giveMost_L19 (n + j + 1)) (uI h g) a T (nI l) w (nI (j + 1) + (-1)) := fun _ => rfl
    rw [E, pk_m1]
    obtain ⟨s, r6, b1, b2⟩ := t.un (g := g)
    have F := hf j hy
    have eT : T = 0 ∨ (T ≠ a ∧ T ≠ a + 1 ∧ T + 1 ≠ a) := T1.imp id (fun w => w.2)
    have gn : ∀ v k, k < j → pp g a T j v (a + 1) k = nI (f k) := by
      intro v k hk
      rw [← hg k (by omega)]
      unfold pp
      by_cases z : T = 0
      · rw [if_pos z, pt_o (fun w => by have := w.2; omega) (fun w => by have := w.1; omega)]
      · obtain ⟨e1, e2, e3⟩ := eT.resolve_left z
        rw [if_neg z, pt_o (fun w => by have := w.1; omega) (fun w => by have := w.1; omega), pt_o (fun w => by have := w.2; omega) (fun w => by have := w.1; omega)]
    have hc : cg f l (30 - j) = cg f l (29 - j) + (if l ≤ f j then 1 else 0) := by
      have e : 30 - j = (29 - j) + 1 := by omega
      have e2 : 29 - (29 - j) = j := by omega
      rw [e]
      show cg f l (29 - j) + (if l ≤ f (29 - (29 - j)) then 1 else 0) = _
      rw [e2]
    have e30 : 30 - (j + 1) = 29 - j := by omega
    unfold f_Cistern_giveMost_b19
    rw [if_neg (nI_pos (by omega)), if_pos s, r6, if_pos b1, b2, if_pos (ib_n hy (by decide)), ix_n (by omega), hI_u, hg j (by omega), mx_s (by omega) (by omega), bI_s, e30]
    have fin : ∀ (w : Nat) (v : Nat), w = r - cg f l (30 - j) → v = f j - cut f l r j → ∃ g', f_Cistern_giveMost_L19 (n + j + 1) (uI h (pp g a T j (nI v))) a T (nI l) (nI w) (nI j + (-1)) = some (uI h g') ∧ GV g g' a T (j + 1) (fun y => f y - cut f l r y) := by
      intro w v hw hv
      subst hw
      obtain ⟨g', q1, q2⟩ := ih (pp g a T j (nI v)) (by omega) (fun k hk => gn _ k hk) n
      refine ⟨g', q1, ?_⟩
      rw [hv] at q2
      exact GV.step (p := fun y => f y - cut f l r y) eT q2
    by_cases e : r ≤ cg f l (29 - j)
    · rw [show r - cg f l (29 - j) = 0 from by omega, if_pos (show nI 0 ≤ 0 from by decide), C_give_61 t T1 hy]
      refine fin _ _ ?_ ?_
      · rw [hc]; omega
      · unfold cut
        rw [if_neg (fun z => by have := z.2; omega)]
        omega
    · rw [if_neg (nI_nle (by omega) (by omega)), if_pos s, r6, if_pos b1, b2, if_pos (ib_n hy (by decide)), hI_u, hg j (by omega)]
      by_cases e2 : f j < l
      · rw [if_pos (nI_lt e2 (by omega)), C_give_61 t T1 hy]
        refine fin _ _ ?_ ?_
        · rw [hc, if_neg (by omega)]
          rfl
        · unfold cut
          rw [if_neg (fun z => by have := z.1; omega)]
          omega
      · rw [if_neg (nI_nlt (by omega) (by omega)), C_give_61 t T1 hy]
        obtain ⟨u, hu⟩ : ∃ u, r - cg f l (29 - j) = u + 1 := ⟨r - cg f l (29 - j) - 1, by omega⟩
        rw [hu, pk_m1, nI_1]
        refine fin _ _ ?_ ?_
        · rw [hc, if_pos (by omega)]
          omega
        · unfold cut
          rw [if_pos ⟨by omega, by omega⟩]
          omega
theorem lv_r (h1 : ab f l ≤ n) (h2 : l = 0 ∨ n < ab f (l - 1)) (h3 : n ≤ smN f 30) : 1 ≤ l ∨ n - ab f l = 0 := by
  by_cases e : l = 0
  · subst e
    have : ab f 0 = smN f 30 := smN_congr fun y _ => rfl
    right; omega
  · left; omega
/-- what n drops take of a year -/
def shF (f : Nat → Nat) (n : Nat) : Nat → Nat := fun y => f y - drN f n y
theorem shF_sum (h : n ≤ smN f 30) : smN (shF f n) 30 = n := by
  have h1 := drN_sum h
  have e : smN f 30 = smN (fun y => drN f n y + shF f n y) 30 := smN_congr fun y hy => by
    have := drN_le (f := f) (n := n) (y := y)
    unfold shF
    omega
  rw [smN_add] at e
  omega
theorem GV.congr {p q : Nat → Nat} (x : GV g g' a T j p) (e : ∀ y, y < j → p y = q y) : GV g g' a T j q := by
  obtain ⟨x1, x2, x3, x4⟩ := x
  rw [smN_congr e] at x2 x3
  exact ⟨fun k hk => by rw [← e k hk]; exact x1 k hk, x2, fun h => ⟨fun k hk => by rw [← e k hk]; exact (x3 h).1 k hk, (x3 h).2⟩, x4⟩
theorem C_give (t : CS h a) (T1 : isT h a T) (hg : ∀ y, y < 30 → g (a + 1) y = nI (f y)) (hf : ∀ y, y < 30 → f y ≤ 999) (hn : n ≤ smN f 30) :
    ∃ g', f_Cistern_giveMost (uI h g) a T (nI n) = some (uI h g') ∧ GV g g' a T 30 (shF f n) := by
  have hs : smN f 30 ≤ 29970 := ab_le (l := 0) hf
  obtain ⟨l, e1, ⟨v1, v2⟩, hl⟩ := C_level t hg hf (n := n) (by omega)
  obtain ⟨s, -⟩ := t.un (g := g)
  unfold f_Cistern_giveMost f_Cistern_giveMost_b0
  rw [if_pos s, e1, bI_s, if_pos s, C_above t hg hf (by omega), bI_s, pk_sub v1, FU_30]
  obtain ⟨g', q1, q2⟩ := C_give_L t T1 hf hl (r := n - ab f l) (by omega) (lv_r v1 v2 hn) 30 g (Nat.le_refl _) hg 999969
  refine ⟨g', q1, q2.congr fun y hy => ?_⟩
  unfold shF
  rw [drN_level v1 v2 hn y hy]
end U2
