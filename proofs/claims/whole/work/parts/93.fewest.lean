/-! ===== fewest ===== -/
section U43
variable {h h1 h0 : Hp} {g g' g1 g2 g0 : Nat → Nat → Int32} {w w' w0 u : Nat → Int32} {A B L S c d k n l y j m q s i r z E N M M' o T R : Nat} {v x a b e f p1 p2 p3 p4 p5 : Int32} {Q : Nat → Nat → Int32}
def gb (x : Int32) (i : Nat) : Bool := x.toBitVec.getLsbD i
theorem gb_ext (h : ∀ i, i < 32 → gb x i = gb a i) : x = a := Int32.toBitVec_inj.mp (BitVec.eq_of_getLsbD_eq h)
theorem gb_and : gb (x &&& a) i = (gb x i && gb a i) := by
  unfold gb; rw [Int32.toBitVec_and, BitVec.getLsbD_and]
theorem gb_or : gb (x ||| a) i = (gb x i || gb a i) := by
  unfold gb; rw [Int32.toBitVec_or, BitVec.getLsbD_or]
theorem gb_xm (hi : i < 32) : gb (x ^^^ (-1 : Int32)) i = !gb x i := by
  have e : (-1 : Int32).toBitVec = BitVec.allOnes 32 := by decide
  unfold gb
  rw [Int32.toBitVec_xor, BitVec.getLsbD_xor, e, BitVec.getLsbD_allOnes, decide_eq_true hi]
  cases x.toBitVec.getLsbD i <;> rfl
theorem gb_0 : gb (0 : Int32) i = false := by
  unfold gb
  exact BitVec.getLsbD_zero
def SB (m x : Int32) : Prop := ∀ i, i < 32 → gb m i = true → gb x i = true
theorem sb_iff : (a &&& (x ^^^ (-1 : Int32))) = 0 ↔ SB a x := by
  constructor
  · intro h i hi ha
    have := congrArg (fun z => gb z i) h
    simp only [gb_and, gb_xm hi, gb_0, ha] at this
    cases q : gb x i
    · rw [q] at this; exact absurd this (by decide)
    · rfl
  · intro h
    refine gb_ext fun i hi => ?_
    rw [gb_and, gb_xm hi, gb_0]
    cases q : gb a i
    · rfl
    · rw [h i hi q]; rfl
theorem sb_rf : SB a a := fun _ _ h => h
theorem sb_0 : SB 0 a := fun i _ h => by rw [gb_0] at h; exact absurd h (by decide)
theorem sb_anti (h1 : SB a x) (h2 : SB x a) : x = a := gb_ext fun i hi => by
  cases q : gb a i
  · cases p : gb x i
    · rfl
    · rw [h2 i hi p] at q; exact absurd q (by decide)
  · exact h1 i hi q
theorem sb_or : SB (x ||| b) a ↔ SB x a ∧ SB b a := by
  constructor
  · intro h
    exact ⟨fun i hi hx => h i hi (by rw [gb_or, hx]; rfl), fun i hi hb => h i hi (by rw [gb_or, hb]; cases gb x i <;> rfl)⟩
  · rintro ⟨h1, h2⟩ i hi ho
    rw [gb_or] at ho
    cases q : gb x i
    · rw [q] at ho; exact h2 i hi ho
    · exact h1 i hi q
theorem and_xm : (a &&& (x ^^^ (-1 : Int32))) &&& (b ^^^ (-1 : Int32)) = a &&& ((x ||| b) ^^^ (-1 : Int32)) := gb_ext fun i hi => by
  rw [gb_and, gb_and, gb_xm hi, gb_xm hi, gb_and, gb_xm hi, gb_or]
  cases gb a i <;> cases gb x i <;> cases gb b i <;> rfl
theorem or_comm' : x ||| b = b ||| x := gb_ext fun i hi => by rw [gb_or, gb_or]; cases gb x i <;> cases gb b i <;> rfl
theorem or_assoc' : (x ||| b) ||| a = x ||| (b ||| a) := gb_ext fun i hi => by rw [gb_or, gb_or, gb_or, gb_or]; cases gb x i <;> cases gb b i <;> rfl
theorem z_or : (0 : Int32) ||| x = x := by rw [or_comm', or_z]
/-- what counts of the drinkers of a year: nothing if some of them are none of a -/
def DD (a x : Int32) : Int32 := if (x &&& (a ^^^ (-1 : Int32))) = 0 then x else 0
theorem dd_y (h : SB x a) : DD a x = x := if_pos (sb_iff.mpr h)
theorem dd_n (h : ¬ SB x a) : DD a x = 0 := if_neg fun z => h (sb_iff.mp z)
theorem dd_sb : SB (DD a x) a := by
  by_cases h : SB x a
  · rw [dd_y h]; exact h
  · rw [dd_n h]; exact sb_0
theorem dd_1 (h0 : a ≠ 0) : DD a x = a ↔ x = a := by
  by_cases h : SB x a
  · rw [dd_y h]
  · rw [dd_n h]
    exact ⟨fun z => absurd z.symm h0, fun z => absurd (by rw [z]; exact sb_rf) h⟩
theorem dd_2 (h0 : a ≠ 0) (hx : x ≠ a) (hb : b ≠ a) : DD a x ||| DD a b = a ↔ x ||| b = a := by
  by_cases h : SB x a
  · by_cases h2 : SB b a
    · rw [dd_y h, dd_y h2]
    · rw [dd_y h, dd_n h2, or_z]
      exact ⟨fun z => absurd z hx, fun z => absurd (sb_or.mp (by rw [z]; exact sb_rf)).2 h2⟩
  · rw [dd_n h, z_or, dd_1 h0]
    exact ⟨fun z => absurd z hb, fun z => absurd (sb_or.mp (by rw [z]; exact sb_rf)).1 h⟩
theorem dd_3 (h0 : a ≠ 0) (hx : x ≠ a) (hb : b ≠ a) (he : e ≠ a) (h1 : x ||| b ≠ a) (h2 : x ||| e ≠ a) (h3 : b ||| e ≠ a) : (DD a x ||| DD a b) ||| DD a e = a ↔ (x ||| b) ||| e = a := by
  by_cases q : SB x a
  · by_cases q2 : SB b a
    · by_cases q3 : SB e a
      · rw [dd_y q, dd_y q2, dd_y q3]
      · rw [dd_y q, dd_y q2, dd_n q3, or_z]
        exact ⟨fun z => absurd z h1, fun z => absurd (sb_or.mp (by rw [z]; exact sb_rf)).2 q3⟩
    · rw [dd_n q2, or_z, dd_2 h0 hx he]
      exact ⟨fun z => absurd z h2, fun z => absurd (sb_or.mp (sb_or.mp (by rw [z]; exact sb_rf)).1).2 q2⟩
  · rw [dd_n q, z_or, dd_2 h0 hb he]
    exact ⟨fun z => absurd z h3, fun z => absurd (sb_or.mp (sb_or.mp (by rw [z]; exact sb_rf)).1).1 q⟩
theorem sb_eq (h : SB x a) : SB a x ↔ x = a := ⟨fun z => sb_anti z h, fun z => by rw [z]; exact sb_rf⟩
/-! the search -/
def fsO (P : Nat → Option Int32) : Nat → Nat → Option Int32
  | _, 0 => none
  | y, j + 1 => (P y).or (fsO P (y + 1) j)
theorem fs_c {P P' : Nat → Option Int32} : ∀ (j y : Nat), (∀ i, y ≤ i → i < y + j → P i = P' i) → fsO P y j = fsO P' y j := by
  intro j
  induction j with
  | zero => intro y _; rfl
  | succ j ih =>
    intro y h
    show (P y).or (fsO P (y + 1) j) = (P' y).or (fsO P' (y + 1) j)
    rw [h y (Nat.le_refl _) (by omega), ih (y + 1) fun i h1 h2 => h i (by omega) (by omega)]
theorem fs_m {P : Nat → Option Int32} {F : Int32 → Int32} : ∀ (j y : Nat), (fsO P y j).map F = fsO (fun i => (P i).map F) y j := by
  intro j
  induction j with
  | zero => intro y; rfl
  | succ j ih =>
    intro y
    show ((P y).or (fsO P (y + 1) j)).map F = ((P y).map F).or (fsO (fun i => (P i).map F) (y + 1) j)
    rw [← ih]
    cases P y <;> rfl
theorem fs_n {P : Nat → Option Int32} : ∀ (j y : Nat), fsO P y j = none → ∀ i, y ≤ i → i < y + j → P i = none := by
  intro j
  induction j with
  | zero => intro y _ i h1 h2; omega
  | succ j ih =>
    intro y h i h1 h2
    have h' : (P y).or (fsO P (y + 1) j) = none := h
    cases q : P y with
    | some v => rw [q] at h'; exact absurd h' (by intro z; cases z)
    | none =>
      rw [q] at h'
      by_cases e : i = y
      · rw [e]; exact q
      · exact ih (y + 1) h' i (by omega) (by omega)
theorem fs_s {P : Nat → Option Int32} {K : Int32 → Prop} : ∀ (j y : Nat), (∀ i v, y ≤ i → i < y + j → P i = some v → K v) → ∀ v, fsO P y j = some v → K v := by
  intro j
  induction j with
  | zero => intro y _ v h; cases h
  | succ j ih =>
    intro y hp v h
    have h' : (P y).or (fsO P (y + 1) j) = some v := h
    cases q : P y with
    | some u =>
      rw [q] at h'
      have : u = v := by injection h'
      rw [← this]
      exact hp y u (Nat.le_refl _) (by omega) q
    | none =>
      rw [q] at h'
      exact ih (y + 1) (fun i v h1 h2 => hp i v (by omega) (by omega)) v h'
def oI (o : Option Int32) : Int32 := o.getD (-1)
/-- one year of size + 1 that make it -/
def lyP (D : Nat → Int32) : Nat → Int32 → Nat → Option Int32
  | 0, a, y => if (a &&& (D y ^^^ (-1 : Int32))) = 0 then some (jshl (1 : Int32) (nI y)) else none
  | s + 1, a, y => (fsO (lyP D s (a &&& (D y ^^^ (-1 : Int32)))) 0 y).map (fun v => v ||| jshl (1 : Int32) (nI y))
theorem sh_31 : ∀ y, y < 30 → gb (jshl (1 : Int32) (nI y)) 31 = false := by decide
theorem ne_m1 (h : gb v 31 = false) : v ≠ -1 := fun z => by rw [z] at h; exact absurd h (by decide)
theorem ly_31 {D : Nat → Int32} : ∀ s a y v, y < 30 → lyP D s a y = some v → gb v 31 = false := by
  intro s
  induction s with
  | zero =>
    intro a y v hy h
    have h' : (if (a &&& (D y ^^^ (-1 : Int32))) = 0 then some (jshl (1 : Int32) (nI y)) else none) = some v := h
    by_cases q : (a &&& (D y ^^^ (-1 : Int32))) = 0
    · rw [if_pos q] at h'
      injection h' with h'
      rw [← h']; exact sh_31 y hy
    · rw [if_neg q] at h'; cases h'
  | succ s ih =>
    intro a y v hy h
    have h' : (fsO (lyP D s (a &&& (D y ^^^ (-1 : Int32)))) 0 y).map (fun v => v ||| jshl (1 : Int32) (nI y)) = some v := h
    cases q : fsO (lyP D s (a &&& (D y ^^^ (-1 : Int32)))) 0 y with
    | none => rw [q] at h'; cases h'
    | some u =>
      rw [q] at h'
      have e : u ||| jshl (1 : Int32) (nI y) = v := by injection h'
      have := fs_s (K := fun v => gb v 31 = false) y 0 (fun i v _ h2 h3 => ih _ i v (by omega) h3) u q
      rw [← e, gb_or, this, sh_31 y hy]; rfl
theorem C_ly_L {G : Hp → Nat → Int32 → Int32 → Int32 → Option (Int32 × Hp)} {D : Nat → Int32} (s2 : hS h 754 = 20) (l2 : hL h 754 = 30) (hD : ∀ y, y < 30 → g 754 y = D y) (hs : s < 30) (hb : B ≤ 30) (hq : ∀ t, s = t + 1 → ∀ e y, y < 30 → G (uI h g) 754 e (nI s) (nI y) = some (oI (fsO (lyP D t e) 0 y), uI h g)) : ∀ (j y : Nat), y + j = B → ∀ q, f_Water_leastYears_L16 G (q + j + 1) (uI h g) 754 a (nI (s + 1)) (nI B) (nI y) = some (oI (fsO (lyP D s a) y j), uI h g) := by
  have s2' : hS (uI h g) 754 = 20 := s2
  have l2' : hL (uI h g) 754 = 30 := l2
  intro j
  induction j with
  | zero =>
    intro y hy q
    have hy' : y = B := hy
    subst hy'
    show f_Water_leastYears_b16 G (f_Water_leastYears_L16 G q) (uI h g) 754 a (nI (s + 1)) (nI y) (nI y) = _
    unfold f_Water_leastYears_b16
    rw [if_pos (Int32.le_refl _)]
    rfl
  | succ j ih =>
    intro y hy q
    have E : f_Water_leastYears_L16 G (q + (j + 1) + 1) (uI h g) 754 a (nI (s + 1)) (nI B) (nI y) = f_Water_leastYears_b16 G (f_Water_leastYears_L16 G (q + j + 1)) (uI h g) 754 a (nI (s + 1)) (nI B) (nI y) := rfl
    have F : fsO (lyP D s a) y (j + 1) = (lyP D s a y).or (fsO (lyP D s a) (y + 1) j) := rfl
    have I := ih (y + 1) (by omega) q
    rw [E, F]
    unfold f_Water_leastYears_b16
    rw [if_neg (nI_ge (by omega) (by omega)), if_pos s2', l2', if_pos (ib_n (by omega) (by decide)), ix_n (by omega), hI_u, hD y (by omega)]
    cases s with
    | zero =>
      rw [if_pos (show nI (0 + 1) = (1 : Int32) from rfl)]
      show (if (a &&& (D y ^^^ (-1 : Int32))) = 0 then _ else _) = some (oI ((if (a &&& (D y ^^^ (-1 : Int32))) = 0 then some (jshl (1 : Int32) (nI y)) else none).or _), uI h g)
      by_cases e : (a &&& (D y ^^^ (-1 : Int32))) = 0
      · rw [if_pos e, if_pos e]; rfl
      · rw [if_neg e, if_neg e]
        unfold f_Water_leastYears_b47 f_Water_leastYears_b67
        rw [if_pos (show nI (0 + 1) = (1 : Int32) from rfl), if_pos rfl, nI_1, I]
        rfl
    | succ t =>
      have ne : ¬ nI (t + 1 + 1) = (1 : Int32) := fun z => by have := (nI_eq (a := t + 1 + 1) (b := 1) (by omega) (by omega)).mp z; omega
      rw [if_neg ne]
      unfold f_Water_leastYears_b47 f_Water_leastYears_b67
      rw [if_neg ne, show nI (t + 1 + 1) - (1 : Int32) = nI (t + 1) from nI_pred .., hq t rfl _ y (by omega), bI_s]
      show (if oI (fsO (lyP D t (a &&& (D y ^^^ (-1 : Int32)))) 0 y) = -1 then _ else _) = some (oI (((fsO (lyP D t (a &&& (D y ^^^ (-1 : Int32)))) 0 y).map (fun v => v ||| jshl (1 : Int32) (nI y))).or _), uI h g)
      cases e : fsO (lyP D t (a &&& (D y ^^^ (-1 : Int32)))) 0 y with
      | none =>
        rw [if_pos (show oI none = -1 from rfl), nI_1, I]
        rfl
      | some v =>
        have := fs_s (K := fun v => gb v 31 = false) y 0 (fun i v _ h2 h3 => ly_31 _ _ i v (by omega) h3) v e
        rw [if_neg (show ¬ oI (some v) = -1 from ne_m1 this)]
        rfl
theorem C_ly {D : Nat → Int32} (s2 : hS h 754 = 20) (l2 : hL h 754 = 30) (hD : ∀ y, y < 30 → g 754 y = D y) : ∀ s, s < 30 → ∀ a B n, B ≤ 30 → f_Least_G (n + s + 1) (uI h g) 754 a (nI (s + 1)) (nI B) = some (oI (fsO (lyP D s a) 0 B), uI h g) := by
  have s2' : hS (uI h g) 754 = 20 := s2
  have l2' : hL (uI h g) 754 = 30 := l2
  intro s
  induction s with
  | zero =>
    intro hs a B n hB
    show f_Water_leastYears_b0 (f_Least_G n) (uI h g) 754 a (nI (0 + 1)) (nI B) = _
    unfold f_Water_leastYears_b0
    rw [if_neg (show ¬ nI (0 + 1) < (1 : Int32) by decide), if_pos s2', l2', if_pos (show nI B ≤ Int32.ofNat 30 from nI_le hB (by decide)), FU_mm (k := B) (by omega)]
    exact C_ly_L s2 l2 hD (by decide) hB (fun t e => by omega) B 0 (by omega) _
  | succ s ih =>
    intro hs a B n hB
    show f_Water_leastYears_b0 (f_Least_G (n + s + 1)) (uI h g) 754 a (nI (s + 1 + 1)) (nI B) = _
    unfold f_Water_leastYears_b0
    rw [if_neg (show ¬ nI (s + 1 + 1) < (1 : Int32) from nI_nlt (b := 1) (by omega) (by omega)), if_pos s2', l2', if_pos (show nI B ≤ Int32.ofNat 30 from nI_le hB (by decide)), FU_mm (k := B) (by omega)]
    exact C_ly_L s2 l2 hD hs hB (fun t e e' y hy => by have : t = s := by omega
                                                       subst this
                                                       exact ih (by omega) e' y n (by omega)) B 0 (by omega) _
end U43
