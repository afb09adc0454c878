/-! ===== the arena with other ints; cisterns of the class ===== -/
section U1
variable {h : Hp} {g g' : Nat → Nat → Int32} {a b c T k n l r y j : Nat} {v x : Int32} {f : Nat → Nat}
/-- the arena with other ints -/
def uI (h : Hp) (g : Nat → Nat → Int32) : Hp := (g, h.2)
theorem uI_self : uI h (hI h) = h := rfl
theorem hI_u : hI (uI h g) = g := rfl
theorem hS_u : hS (uI h g) = hS h := rfl
theorem hR_u : hR (uI h g) = hR h := rfl
theorem hL_u : hL (uI h g) = hL h := rfl
theorem sI_u : sI (uI h g) a k v = uI h (up2 g a k v) := rfl
theorem cI_u {q : Nat → Int32} : cI (uI h g) a q = uI h (rs2 g a q) := rfl
theorem up_eq : up2 g a k v a k = v := if_pos ⟨rfl, rfl⟩
theorem up_r (e : b ≠ a) : up2 g a k v b j = g b j := if_neg fun z => e z.1
theorem up_k (e : j ≠ k) : up2 g a k v b j = g b j := if_neg fun z => e z.2
theorem up_row (e : b ≠ a) : up2 g a k v b = g b := funext fun _ => up_r e
theorem rs_eq {q : Nat → Int32} : rs2 g a q a = q := funext fun _ => if_pos rfl
theorem rs_ne {q : Nat → Int32} (e : b ≠ a) : rs2 g a q b = g b := funext fun _ => if_neg e
theorem nI_z : (0 : Int32) = nI 0 := rfl
/-- a cistern at a, its layers behind it: structure -/
def CS (h : Hp) (a : Nat) : Prop := hS h a = 1 ∧ hR h a 6 = a + 1 ∧ hS h (a + 1) = 20 ∧ hL h (a + 1) = 30
theorem CS.un (t : CS h a) : CS (uI h g) a := t
theorem LDs.cs (t : LDs h a) (hc : c < 8) : CS h (a + 6 + 2 * c) := by
  obtain ⟨-, -, -, -, -, -, -, xc, -⟩ := t
  obtain ⟨-, x2, x3, x4⟩ := xc c hc
  exact ⟨x2, x3, x4.1, x4.2⟩
def pt (g : Nat → Nat → Int32) (a y : Nat) (v : Int32) : Nat → Nat → Int32 := up2 (up2 g (a + 1) y (g (a + 1) y + v)) a 5 (g a 5 + v)
theorem C_put (t : CS h a) (hy : y < 30) : f_Cistern_put (uI h g) a (nI y) v = some (uI h (pt g a y v)) := by
  obtain ⟨s, r, b1, b2⟩ := t.un (g := g)
  unfold f_Cistern_put f_Cistern_put_b0
  rw [if_neg (nI_pos (by omega)), n30, if_neg (nI_ge hy (by decide)), if_pos s, r, if_pos b1, b2, if_pos (ib_n hy (by decide)), if_pos (ib_n hy (by decide)), ix_n (by omega)]
  show some (uI h (up2 (up2 g (a + 1) y (g (a + 1) y + v)) a 5 (up2 g (a + 1) y (g (a + 1) y + v) a 5 + v))) = _
  rw [up_r (by omega)]
  rfl
theorem C_take (t : CS h a) (hy : y < 30) : f_Cistern_take (uI h g) a (nI y) v = some (uI h (pt g a y (-v))) := by
  obtain ⟨s, -⟩ := t.un (g := g)
  unfold f_Cistern_take f_Cistern_take_b0
  rw [if_pos s, C_put t hy]
  rfl
theorem mx_u {a b : Int32} : f_Math_max h a b = some (if a < b then b else a, h) := by
  unfold f_Math_max f_Math_max_b0
  by_cases e : a < b
  · rw [if_pos e, if_pos e]
  · rw [if_neg e, if_neg e]
theorem mn_u {a b : Int32} : f_Math_min h a b = some (if b < a then b else a, h) := by
  unfold f_Math_min f_Math_min_b0
  by_cases e : b < a
  · rw [if_pos e, if_pos e]
  · rw [if_neg e, if_neg e]
theorem mx_n {a b : Nat} (ha : a < 2 ^ 31) (hb : b < 2 ^ 31) : f_Math_max h (nI a) (nI b) = some (nI (max a b), h) := by
  rw [mx_u]
  by_cases e : a < b
  · rw [if_pos (nI_lt e hb), Nat.max_eq_right (by omega)]
  · rw [if_neg (nI_nlt (by omega) ha), Nat.max_eq_left (by omega)]
theorem mn_n {a b : Nat} (ha : a < 2 ^ 31) (hb : b < 2 ^ 31) : f_Math_min h (nI a) (nI b) = some (nI (min a b), h) := by
  rw [mn_u]
  by_cases e : b < a
  · rw [if_pos (nI_lt e ha), Nat.min_eq_right (by omega)]
  · rw [if_neg (nI_nlt (by omega) hb), Nat.min_eq_left (by omega)]
/-- the greater of 0 and a difference -/
theorem mx_s {a b : Nat} (ha : a < 2 ^ 30) (hb : b < 2 ^ 30) : f_Math_max h 0 (nI a - nI b) = some (nI (a - b), h) := by
  by_cases e : b ≤ a
  · rw [pk_sub e, nI_z, mx_n (by decide) (by omega), Nat.max_eq_right (by omega)]
  · have hs : nI a - nI b < 0 := pk_sneg hb (by omega)
    rw [mx_u, if_neg (fun z => Int32.lt_irrefl (Int32.lt_trans z hs)), show a - b = 0 from by omega]
    rfl
theorem C_free {m q : Nat} (t : CS h a) (h0 : g a 0 = nI q) (h5 : g a 5 = nI m) (hq : q < 2 ^ 30) (hm : m < 2 ^ 30) : f_Cistern_free (uI h g) a = some (nI (q - m), uI h g) := by
  obtain ⟨s, -⟩ := t.un (g := g)
  unfold f_Cistern_free f_Cistern_free_b0
  rw [if_pos s, hI_u, h0, h5, mx_s hq hm]
  rfl
theorem C_above_L (t : CS h a) (hg : ∀ y, y < 30 → g (a + 1) y = nI (f y)) (hf : ∀ y, y < 30 → f y ≤ 999) (hl : l < 2 ^ 20) : ∀ (j y : Nat), y + j = 30 → ∀ n, f_Cistern_measuresAbove_L4 (n + j + 1) (uI h g) a (nI l) (nI (smN (fun y => f y - l) y)) (nI y) = some (nI (ab f l), uI h g) := by
  intro j
  induction j with
  | zero =>
    intro y hy n
    obtain rfl : y = 30 := by omega
    show f_Cistern_measuresAbove_b4 (f_Cistern_measuresAbove_L4 n) (uI h g) a (nI l) _ (nI 30) = _
    unfold f_Cistern_measuresAbove_b4
    rw [n30, if_pos (Int32.le_refl _)]
    rfl
  | succ j ih =>
    intro y hy n
    have hy' : y < 30 := by omega
    show f_Cistern_measuresAbove_b4 (f_Cistern_measuresAbove_L4 (n + j + 1)) (uI h g) a (nI l) _ (nI y) = _
    obtain ⟨s, r, b1, b2⟩ := t.un (g := g)
    have F := hf y hy'
    unfold f_Cistern_measuresAbove_b4
    rw [n30, if_neg (nI_ge hy' (by decide)), if_pos s, r, if_pos b1, b2, if_pos (ib_n hy' (by decide)), ix_n (by omega), hI_u, hg y hy']
    by_cases e : f y ≤ l
    · rw [if_pos (nI_le e (by omega))]
      unfold f_Cistern_measuresAbove_b31
      rw [nI_1]
      have := ih (y + 1) (by omega) n
      have q : smN (fun y => f y - l) (y + 1) = smN (fun y => f y - l) y := by
        show _ + (f y - l) = _
        omega
      rw [q] at this
      exact this
    · rw [if_neg (nI_ge (by omega) (by omega)), if_pos (ib_n hy' (by decide))]
      unfold f_Cistern_measuresAbove_b31
      rw [pk_sub (by omega), nI_add, nI_1]
      exact ih (y + 1) (by omega) n
theorem C_above (t : CS h a) (hg : ∀ y, y < 30 → g (a + 1) y = nI (f y)) (hf : ∀ y, y < 30 → f y ≤ 999) (hl : l < 2 ^ 20) : f_Cistern_measuresAbove (uI h g) a (nI l) = some (nI (ab f l), uI h g) := by
  unfold f_Cistern_measuresAbove f_Cistern_measuresAbove_b0
  rw [FU_30]
  exact C_above_L t hg hf hl 30 0 rfl 999969
theorem ab_le (hf : ∀ y, y < 30 → f y ≤ 999) : ab f l ≤ 29970 := by
  have : ∀ n, n ≤ 30 → smN (fun y => f y - l) n ≤ 999 * n := by
    intro n
    induction n with
    | zero => intro _; exact Nat.le_refl _
    | succ n ih =>
      intro hn
      have h1 := ih (by omega)
      have h2 := hf n (by omega)
      show smN (fun y => f y - l) n + (f n - l) ≤ _
      omega
  exact this 30 (Nat.le_refl _)
theorem ab_0 (h : ∀ y, y < 30 → f y ≤ l) : ab f l = 0 := by
  by_cases e : 0 < ab f l
  · obtain ⟨y, hy, h1⟩ := smN_pos e
    have h1' : 0 < f y - l := h1
    have := h y hy
    omega
  · omega
theorem ab_ge (h : y < 30) : f y - l ≤ ab f l := smN_ge (f := fun y => f y - l) h
/-- what levelFor is: the least level above which there are n at most -/
def isLv (f : Nat → Nat) (n l : Nat) : Prop := ab f l ≤ n ∧ (l = 0 ∨ n < ab f (l - 1))
theorem C_level_L2 (t : CS h a) (hg : ∀ y, y < 30 → g (a + 1) y = nI (f y)) (hf : ∀ y, y < 30 → f y ≤ 999) (hn : n < 2 ^ 20) : ∀ (j i lo hi : Nat), i + j = 999 → hi ≤ lo + j → lo ≤ hi → hi ≤ 999 → ab f hi ≤ n → (lo = 0 ∨ n < ab f (lo - 1)) → ∀ m,
    ∃ l, f_Cistern_levelFor_L38 (m + j + 1) (uI h g) a (nI n) (nI hi) (nI lo) (nI i) = some (nI l, uI h g) ∧ isLv f n l ∧ l ≤ 999 := by
  intro j
  induction j with
  | zero =>
    intro i lo hi h1 h2 h3 h4 h5 h6 m
    obtain rfl : i = 999 := by omega
    obtain rfl : hi = lo := by omega
    refine ⟨hi, ?_, ⟨h5, h6⟩, h4⟩
    show f_Cistern_levelFor_b38 (f_Cistern_levelFor_L38 m) (uI h g) a (nI n) (nI hi) (nI hi) (nI 999) = _
    unfold f_Cistern_levelFor_b38
    rw [show (999 : Int32) = nI 999 from rfl, if_pos (Int32.le_refl _)]
  | succ j ih =>
    intro i lo hi h1 h2 h3 h4 h5 h6 m
    have E : f_Cistern_levelFor_L38 (m + (j + 1) + 1) (uI h g) a (nI n) (nI hi) (nI lo) (nI i) = f_Cistern_levelFor_b38 (f_Cistern_levelFor_L38 (m + j + 1)) (uI h g) a (nI n) (nI hi) (nI lo) (nI i) := rfl
    rw [E]
    obtain ⟨s, -⟩ := t.un (g := g)
    unfold f_Cistern_levelFor_b38
    rw [show (999 : Int32) = nI 999 from rfl, if_neg (nI_ge (by omega) (by decide))]
    by_cases e : lo < hi
    · rw [if_neg (nI_ge e (by omega)), if_pos s, nI_add, show (2 : Int32) = nI 2 from rfl, pk_div (by omega) (by decide) (by decide), C_above t hg hf (by omega), bI_s]
      have hb := ab_le (l := (lo + hi) / 2) hf
      by_cases e2 : n < ab f ((lo + hi) / 2)
      · rw [if_pos (nI_lt e2 (by omega))]
        unfold f_Cistern_levelFor_b79
        rw [nI_1, nI_1]
        exact ih (i + 1) ((lo + hi) / 2 + 1) hi (by omega) (by omega) (by omega) h4 h5 (Or.inr e2) m
      · rw [if_neg (nI_nlt (by omega) (by omega))]
        unfold f_Cistern_levelFor_b79
        rw [nI_1]
        exact ih (i + 1) lo ((lo + hi) / 2) (by omega) (by omega) (by omega) (by omega) (by omega) h6 m
    · obtain rfl : hi = lo := by omega
      rw [if_pos (Int32.le_refl _)]
      exact ⟨hi, rfl, ⟨h5, h6⟩, h4⟩
/-- the greatest of n numbers -/
def mxN (f : Nat → Nat) : Nat → Nat
  | 0 => 0
  | n + 1 => max (mxN f n) (f n)
theorem mxN_ge (h : y < n) : f y ≤ mxN f n := by
  induction n with
  | zero => omega
  | succ n ih =>
    show f y ≤ max (mxN f n) (f n)
    by_cases e : y = n
    · subst e; omega
    · have := ih (by omega)
      omega
theorem mxN_ex : mxN f n = 0 ∨ ∃ y, y < n ∧ f y = mxN f n := by
  induction n with
  | zero => exact Or.inl rfl
  | succ n ih =>
    by_cases e : mxN f n ≤ f n
    · exact Or.inr ⟨n, by omega, by show f n = max _ _; omega⟩
    · rcases ih with z | ⟨y, hy, z⟩
      · omega
      · exact Or.inr ⟨y, by omega, by show f y = max _ _; omega⟩
theorem mxN_le (hf : ∀ y, y < n → f y ≤ l) : mxN f n ≤ l := by
  induction n with
  | zero => exact Nat.zero_le _
  | succ n ih =>
    have h1 := ih (fun y hy => hf y (by omega))
    have h2 := hf n (by omega)
    show max _ _ ≤ _
    omega
theorem FU_999 : FU = 999000 + 999 + 1 := rfl
theorem C_level_L1 (t : CS h a) (hg : ∀ y, y < 30 → g (a + 1) y = nI (f y)) (hf : ∀ y, y < 30 → f y ≤ 999) (hn : n < 2 ^ 20) : ∀ (j y : Nat), y + j = 30 → ∀ m,
    ∃ l, f_Cistern_levelFor_L4 (m + j + 1) (uI h g) a (nI n) (nI (mxN f y)) (nI y) = some (nI l, uI h g) ∧ isLv f n l ∧ l ≤ 999 := by
  intro j
  induction j with
  | zero =>
    intro y hy m
    obtain rfl : y = 30 := by omega
    have E : f_Cistern_levelFor_L4 (m + 0 + 1) (uI h g) a (nI n) (nI (mxN f 30)) (nI 30) = f_Cistern_levelFor_b4 (f_Cistern_levelFor_L4 m) (uI h g) a (nI n) (nI (mxN f 30)) (nI 30) := rfl
    rw [E]
    have hm : mxN f 30 ≤ 999 := mxN_le hf
    unfold f_Cistern_levelFor_b4
    rw [n30, if_pos (Int32.le_refl _), mx_s (by omega) (by omega), bI_s, FU_999]
    refine C_level_L2 t hg hf hn 999 0 (mxN f 30 - n) (mxN f 30) rfl (by omega) (by omega) hm ?_ ?_ 999000
    · rw [ab_0 (fun y hy => mxN_ge hy)]; omega
    · by_cases e : mxN f 30 ≤ n
      · left; omega
      · right
        rcases mxN_ex (f := f) (n := 30) with z | ⟨y, hy, z⟩
        · omega
        · have := ab_ge (f := f) (l := mxN f 30 - n - 1) hy
          omega
  | succ j ih =>
    intro y hy m
    have hy' : y < 30 := by omega
    have E : f_Cistern_levelFor_L4 (m + (j + 1) + 1) (uI h g) a (nI n) (nI (mxN f y)) (nI y) = f_Cistern_levelFor_b4 (f_Cistern_levelFor_L4 (m + j + 1)) (uI h g) a (nI n) (nI (mxN f y)) (nI y) := rfl
    rw [E]
    obtain ⟨s, r, b1, b2⟩ := t.un (g := g)
    have hm : mxN f y ≤ 999 := mxN_le fun z hz => hf z (by omega)
    have F := hf y hy'
    unfold f_Cistern_levelFor_b4
    rw [n30, if_neg (nI_ge hy' (by decide)), if_pos s, r, if_pos b1, b2, if_pos (ib_n hy' (by decide)), ix_n (by omega), hI_u, hg y hy', mx_n (by omega) (by omega), bI_s, nI_1]
    exact ih (y + 1) (by omega) m
theorem C_level (t : CS h a) (hg : ∀ y, y < 30 → g (a + 1) y = nI (f y)) (hf : ∀ y, y < 30 → f y ≤ 999) (hn : n < 2 ^ 20) :
    ∃ l, f_Cistern_levelFor (uI h g) a (nI n) = some (nI l, uI h g) ∧ isLv f n l ∧ l ≤ 999 := by
  unfold f_Cistern_levelFor f_Cistern_levelFor_b0
  rw [FU_30]
  exact C_level_L1 t hg hf hn 30 0 rfl 999969
end U1
