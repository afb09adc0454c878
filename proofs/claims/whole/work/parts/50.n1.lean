/-! ===== numbers: the fullest year, so many drops of it, the level to which all years are cut ===== -/
section N1
variable {f g : Nat → Nat} {n l r b y : Nat}
/-- a sum of n numbers -/
def smN (f : Nat → Nat) : Nat → Nat
  | 0 => 0
  | n + 1 => smN f n + f n
theorem smN_congr (h : ∀ y, y < n → f y = g y) : smN f n = smN g n := by
  induction n with
  | zero => rfl
  | succ n ih =>
    show smN f n + f n = smN g n + g n
    rw [ih (fun y hy => h y (by omega)), h n (by omega)]
theorem smN_le (h : ∀ y, y < n → f y ≤ g y) : smN f n ≤ smN g n := by
  induction n with
  | zero => exact Nat.le_refl _
  | succ n ih =>
    have h1 := ih (fun y hy => h y (by omega))
    have h2 := h n (by omega)
    show smN f n + f n ≤ smN g n + g n
    omega
theorem smN_ge (h : y < n) : f y ≤ smN f n := by
  induction n with
  | zero => omega
  | succ n ih =>
    show f y ≤ smN f n + f n
    by_cases e : y = n
    · subst e; omega
    · have := ih (by omega)
      omega
theorem smN_pos (h : 0 < smN f n) : ∃ y, y < n ∧ 0 < f y := by
  induction n with
  | zero => exact absurd h (Nat.lt_irrefl 0)
  | succ n ih =>
    have h' : 0 < smN f n + f n := h
    by_cases e : 0 < f n
    · exact ⟨n, by omega, e⟩
    · obtain ⟨y, hy, h1⟩ := ih (by omega)
      exact ⟨y, by omega, h1⟩
theorem smN_add : smN (fun y => f y + g y) n = smN f n + smN g n := by
  induction n with
  | zero => rfl
  | succ n ih =>
    show smN (fun y => f y + g y) n + (f n + g n) = smN f n + f n + (smN g n + g n)
    omega
theorem smN_at (h : b < n) : smN (fun y => if y = b then r else 0) n = r := by
  induction n with
  | zero => omega
  | succ n ih =>
    show smN (fun y => if y = b then r else 0) n + (if n = b then r else 0) = r
    by_cases e : n = b
    · subst e
      have : smN (fun y => if y = n then r else 0) n = smN (fun _ => 0) n := smN_congr (fun y hy => if_neg (by omega))
      have z : ∀ m, smN (fun _ => 0) m = 0 := fun m => by
        induction m with
        | zero => rfl
        | succ m ih => exact ih
      rw [this, z, if_pos rfl]; omega
    · rw [ih (by omega), if_neg e]; omega
/-- the latest of the years up to n of which there are the most -/
def fulL (f : Nat → Nat) : Nat → Nat
  | 0 => 0
  | n + 1 => if f (n + 1) < f (fulL f n) then fulL f n else n + 1
theorem fulL_spec : fulL f n ≤ n ∧ (∀ y, y ≤ n → f y ≤ f (fulL f n)) ∧ (∀ y, y ≤ n → fulL f n < y → f y < f (fulL f n)) := by
  induction n with
  | zero => exact ⟨Nat.le_refl _, fun y hy => by obtain rfl : y = 0 := by omega
                                                 exact Nat.le_refl _, fun y hy h => by have : fulL f 0 = 0 := rfl
                                                                                       omega⟩
  | succ n ih =>
    obtain ⟨h1, h2, h3⟩ := ih
    by_cases e : f (n + 1) < f (fulL f n)
    · have q : fulL f (n + 1) = fulL f n := if_pos e
      rw [q]
      refine ⟨by omega, fun y hy => ?_, fun y hy h => ?_⟩
      · by_cases z : y = n + 1
        · subst z; omega
        · exact h2 y (by omega)
      · by_cases z : y = n + 1
        · subst z; omega
        · exact h3 y (by omega) h
    · have q : fulL f (n + 1) = n + 1 := if_neg e
      rw [q]
      refine ⟨Nat.le_refl _, fun y hy => ?_, fun y hy h => by omega⟩
      by_cases z : y = n + 1
      · subst z; exact Nat.le_refl _
      · have := h2 y (by omega)
        omega
theorem fulL_eq (hb : b ≤ n) (h1 : ∀ y, y ≤ n → f y ≤ f b) (h2 : ∀ y, y ≤ n → b < y → f y < f b) : fulL f n = b := by
  obtain ⟨k1, k2, k3⟩ := fulL_spec (f := f) (n := n)
  by_cases e : fulL f n < b
  · have := k3 b hb e
    have := h1 _ k1
    omega
  · by_cases e2 : b < fulL f n
    · have := h2 _ k1 e2
      have := k2 b hb
      omega
    · omega
theorem fulL_congr (h : ∀ y, y ≤ n → f y = g y) : fulL f n = fulL g n := by
  obtain ⟨k1, k2, k3⟩ := fulL_spec (f := g) (n := n)
  refine fulL_eq k1 (fun y hy => ?_) (fun y hy hl => ?_)
  · rw [h y hy, h _ k1]; exact k2 y hy
  · rw [h y hy, h _ k1]; exact k3 y hy hl
/-- one measure of the fullest year less -/
def drF (f : Nat → Nat) : Nat → Nat := fun y => if y = fulL f 29 then f y - 1 else f y
def drN (f : Nat → Nat) : Nat → Nat → Nat
  | 0 => f
  | n + 1 => drF (drN f n)
theorem drF_congr (h : ∀ y, y < 30 → f y = g y) : ∀ y, y < 30 → drF f y = drF g y := by
  intro y hy
  unfold drF
  rw [fulL_congr (f := f) (g := g) (fun y hy => h y (by omega)), h y hy]
theorem fulL_pos (h : 0 < smN f 30) : 0 < f (fulL f 29) := by
  obtain ⟨y, hy, h1⟩ := smN_pos h
  have := (fulL_spec (f := f) (n := 29)).2.1 y (by omega)
  omega
theorem drF_sum (h : 0 < smN f 30) : smN (drF f) 30 + 1 = smN f 30 := by
  have hp := fulL_pos h
  have hb : fulL f 29 ≤ 29 := fulL_spec.1
  have e : smN f 30 = smN (fun y => drF f y + (if y = fulL f 29 then 1 else 0)) 30 := smN_congr fun y hy => by
    unfold drF
    by_cases e : y = fulL f 29
    · rw [if_pos e, if_pos e, e]; omega
    · rw [if_neg e, if_neg e]; omega
  rw [e, smN_add, smN_at (by omega)]
theorem drF_le : drF f y ≤ f y := by unfold drF; split <;> omega
theorem drN_le : drN f n y ≤ f y := by
  induction n with
  | zero => exact Nat.le_refl _
  | succ n ih => exact Nat.le_trans drF_le ih
theorem drN_sum (h : n ≤ smN f 30) : smN (drN f n) 30 + n = smN f 30 := by
  induction n with
  | zero => rfl
  | succ n ih =>
    have h1 := ih (by omega)
    have h2 := drF_sum (f := drN f n) (by omega)
    show smN (drF (drN f n)) 30 + (n + 1) = _
    omega
/-- of the j latest years how many have l at least -/
def cg (f : Nat → Nat) (l : Nat) : Nat → Nat
  | 0 => 0
  | j + 1 => cg f l j + (if l ≤ f (29 - j) then 1 else 0)
theorem cg_mono {i j : Nat} (h : i ≤ j) : cg f l i ≤ cg f l j := by
  induction j with
  | zero => obtain rfl : i = 0 := by omega
            exact Nat.le_refl _
  | succ j ih =>
    by_cases e : i = j + 1
    · subst e; exact Nat.le_refl _
    · have := ih (by omega)
      show _ ≤ cg f l j + _
      omega
theorem cg_ex {j : Nat} (h : r < cg f l j) : ∃ i, i < j ∧ l ≤ f (29 - i) ∧ cg f l i = r := by
  induction j with
  | zero => exact absurd h (Nat.not_lt_zero _)
  | succ j ih =>
    have h' : r < cg f l j + (if l ≤ f (29 - j) then 1 else 0) := h
    by_cases e : r < cg f l j
    · obtain ⟨i, h1, h2⟩ := ih e
      exact ⟨i, by omega, h2⟩
    · by_cases e2 : l ≤ f (29 - j)
      · rw [if_pos e2] at h'
        exact ⟨j, by omega, e2, by omega⟩
      · rw [if_neg e2] at h'
        omega
theorem cg_lt {i j : Nat} (h : i < j) (h1 : l ≤ f (29 - i)) : cg f l i < cg f l j := by
  have h2 : cg f l (i + 1) = cg f l i + (if l ≤ f (29 - i) then 1 else 0) := rfl
  rw [if_pos h1] at h2
  have := cg_mono (f := f) (l := l) (i := i + 1) (j := j) (by omega)
  omega
def ab (f : Nat → Nat) (l : Nat) : Nat := smN (fun y => f y - l) 30
theorem cg_sum {j : Nat} (h : j ≤ 30) : cg f l j + smN (fun y => if l ≤ f y then 1 else 0) (30 - j) = smN (fun y => if l ≤ f y then 1 else 0) 30 := by
  induction j with
  | zero => show 0 + _ = _; rw [Nat.zero_add]
  | succ j ih =>
    have h1 := ih (by omega)
    have e : 30 - j = (29 - j) + 1 := by omega
    rw [e] at h1
    have h2 : smN (fun y => if l ≤ f y then 1 else 0) (29 - j + 1) = smN (fun y => if l ≤ f y then 1 else 0) (29 - j) + (if l ≤ f (29 - j) then 1 else 0) := rfl
    rw [h2] at h1
    have e2 : 30 - (j + 1) = 29 - j := by omega
    rw [e2]
    show cg f l j + (if l ≤ f (29 - j) then 1 else 0) + _ = _
    omega
theorem ab_s : ab f l = ab f (l + 1) + cg f (l + 1) 30 := by
  have h := cg_sum (f := f) (l := l + 1) (j := 30) (Nat.le_refl _)
  have z : smN (fun y => if l + 1 ≤ f y then 1 else 0) (30 - 30) = 0 := rfl
  rw [z] at h
  have e : ab f l = smN (fun y => (f y - (l + 1)) + (if l + 1 ≤ f y then 1 else 0)) 30 := smN_congr fun y hy => by
    show f y - l = _
    split <;> omega
  rw [e, smN_add]
  show _ = smN _ 30 + _
  omega
/-- all years cut to l, and one less of the r latest that reach it -/
def cut (f : Nat → Nat) (l r : Nat) : Nat → Nat := fun y => if l ≤ f y ∧ cg f l (29 - y) < r then l - 1 else min (f y) l
theorem cut_drop (hl : 1 ≤ l) (hr : r < cg f l 30) : ∀ y, y < 30 → drF (cut f l r) y = cut f l (r + 1) y := by
  obtain ⟨i, i1, i2, i3⟩ := cg_ex hr
  have eb : 29 - (29 - i) = i := by omega
  have hb : cut f l r (29 - i) = l := by
    unfold cut
    rw [eb, i3, if_neg (fun z => absurd z.2 (Nat.lt_irrefl _))]
    omega
  have hf : fulL (cut f l r) 29 = 29 - i := by
    refine fulL_eq (by omega) (fun y hy => ?_) (fun y hy h => ?_)
    · rw [hb]; unfold cut; split <;> omega
    · rw [hb]
      unfold cut
      by_cases e : l ≤ f y
      · have e2 : 29 - (29 - y) = y := by omega
        have := cg_lt (f := f) (l := l) (i := 29 - y) (j := i) (by omega) (by rw [e2]; exact e)
        rw [if_pos ⟨e, by omega⟩]
        omega
      · rw [if_neg (fun z => e z.1)]
        omega
  intro y hy
  unfold drF
  rw [hf]
  by_cases e : y = 29 - i
  · rw [if_pos e, e, hb]
    unfold cut
    rw [eb, i3, if_pos ⟨i2, by omega⟩]
  · rw [if_neg e]
    unfold cut
    by_cases e1 : l ≤ f y
    · have e2 : 29 - (29 - y) = y := by omega
      have ne : cg f l (29 - y) ≠ r := by
        intro z
        by_cases c : 29 - y < i
        · have := cg_lt (f := f) (l := l) (i := 29 - y) (j := i) c (by rw [e2]; exact e1)
          omega
        · have := cg_lt (f := f) (l := l) (i := i) (j := 29 - y) (by omega) i2
          omega
      by_cases c : cg f l (29 - y) < r
      · rw [if_pos ⟨e1, c⟩, if_pos ⟨e1, by omega⟩]
      · rw [if_neg (fun z => c z.2), if_neg (fun z => by have := z.2; omega)]
    · rw [if_neg (fun z => e1 z.1), if_neg (fun z => e1 z.1)]
theorem cut_down : ∀ y, y < 30 → cut f (l + 1) (cg f (l + 1) 30) y = cut f l 0 y := by
  intro y hy
  unfold cut
  rw [if_neg (fun z => absurd z.2 (Nat.not_lt_zero _) : ¬ (l ≤ f y ∧ cg f l (29 - y) < 0))]
  by_cases e : l + 1 ≤ f y
  · have e2 : 29 - (29 - y) = y := by omega
    have := cg_lt (f := f) (l := l + 1) (i := 29 - y) (j := 30) (by omega) (by rw [e2]; exact e)
    rw [if_pos ⟨e, this⟩]
    omega
  · rw [if_neg (fun z => e z.1)]
    omega
/-- so many drops, one by one, are one cut -/
theorem drN_cut : ∀ (n l r : Nat), ab f l + r = n → r ≤ cg f l 30 → (1 ≤ l ∨ r = 0) → ∀ y, y < 30 → drN f n y = cut f l r y := by
  intro n
  induction n with
  | zero =>
    intro l r h1 h2 h3 y hy
    have hr : r = 0 := by omega
    subst hr
    have := smN_ge (f := fun y => f y - l) (n := 30) (y := y) hy
    have h0 : smN (fun y => f y - l) 30 = 0 := by show ab f l = 0; omega
    show f y = cut f l 0 y
    unfold cut
    rw [if_neg (fun z => absurd z.2 (Nat.not_lt_zero _))]
    have : f y - l = 0 := by
      have q : (fun y => f y - l) y ≤ 0 := by rw [← h0]; exact this
      exact Nat.le_zero.mp q
    omega
  | succ n ih =>
    have st : ∀ l r, ab f l + (r + 1) = n + 1 → r + 1 ≤ cg f l 30 → 1 ≤ l → ∀ y, y < 30 → drN f (n + 1) y = cut f l (r + 1) y := by
      intro l r h1 h2 h3 y hy
      have hi := ih l r (by omega) (by omega) (Or.inl h3)
      show drF (drN f n) y = _
      rw [drF_congr hi y hy]
      exact cut_drop h3 (by omega) y hy
    intro l r h1 h2 h3 y hy
    cases r with
    | succ r => exact st l r h1 h2 (by omega) y hy
    | zero =>
      have hs := ab_s (f := f) (l := l)
      obtain ⟨c, hc⟩ : ∃ c, cg f (l + 1) 30 = c + 1 := by
        cases q : cg f (l + 1) 30 with
        | succ c => exact ⟨c, rfl⟩
        | zero =>
          have : ab f (l + 1) = 0 := by
            by_cases z : 0 < ab f (l + 1)
            · obtain ⟨y, hy, h⟩ := smN_pos z
              have e2 : 29 - (29 - y) = y := by omega
              have := cg_lt (f := f) (l := l + 1) (i := 29 - y) (j := 30) (by omega) (by rw [e2]; have h' : 0 < f y - (l + 1) := h; omega)
              omega
            · omega
          omega
      have := st (l + 1) c (by omega) (by omega) (by omega) y hy
      rw [this, ← hc]
      exact cut_down y hy
/-- the least level above which there are n at most -/
theorem drN_level (h1 : ab f l ≤ n) (h2 : l = 0 ∨ n < ab f (l - 1)) (h3 : n ≤ smN f 30) : ∀ y, y < 30 → drN f n y = cut f l (n - ab f l) y := by
  refine drN_cut n l (n - ab f l) (by omega) ?_ ?_
  · rcases h2 with rfl | h2
    · have : ab f 0 = smN f 30 := smN_congr fun y _ => rfl
      omega
    · cases l with
      | zero => have : ab f (0 - 1) = ab f 0 := rfl
                omega
      | succ l =>
        have := ab_s (f := f) (l := l)
        have e : l + 1 - 1 = l := by omega
        rw [e] at h2
        omega
  · rcases h2 with rfl | h2
    · have : ab f 0 = smN f 30 := smN_congr fun y _ => rfl
      right; omega
    · cases l with
      | zero => have : ab f (0 - 1) = ab f 0 := rfl
                omega
      | succ l => left; omega
end N1
