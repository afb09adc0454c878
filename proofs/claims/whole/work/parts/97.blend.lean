/-! ===== blend ===== -/
section U47
variable {h h1 h0 : Hp} {g g' g1 g2 g0 : Nat → Nat → Int32} {w w' w0 u : Nat → Int32} {A B L S c d k n l y j m q i r N M M' o T R V m1 m2 : Nat} {v x a b p1 p2 p3 p4 p5 : Int32} {f p : Nat → Nat} {P Q D s z z' σ S1 S2 : Int}
def li (z : Int) : Int64 := Int64.ofInt z
theorem li_add (a b : Int) : li a + li b = li (a + b) := (Int64.ofInt_add a b).symm
theorem li_sub (a b : Int) : li a - li b = li (a - b) := (Int64.ofInt_sub a b).symm
theorem li_mul (a b : Int) : li a * li b = li (a * b) := (Int64.ofInt_mul a b).symm
theorem li_T (h1 : -2 ^ 62 ≤ z) (h2 : z < 2 ^ 62) : (li z).toInt = z := by
  unfold li
  rw [Int64.toInt_ofInt, show Int64.size = 18446744073709551616 from rfl]
  exact Int.bmod_eq_of_le (by omega) (by omega)
theorem li_n (hn : n < 2 ^ 31) : (nI n).toInt64 = li n := Int64.toInt_inj.mp (by rw [Int32.toInt_toInt64, nI_toInt hn, li_T (by omega) (by omega)])
theorem li_neg (hn : n < 2 ^ 31) : (-nI n).toInt64 = li (-(n : Int)) := Int64.toInt_inj.mp (by
  rw [Int32.toInt_toInt64, Int32.toInt_neg, nI_toInt hn, li_T (by omega) (by omega)]
  exact Int.bmod_eq_of_le (by omega) (by omega))
def BD (z : Int) : Prop := -2 ^ 62 ≤ z ∧ z < 2 ^ 62
theorem li_le (h1 : BD z) (h2 : BD z') : li z ≤ li z' ↔ z ≤ z' := by rw [Int64.le_iff_toInt_le, li_T h1.1 h1.2, li_T h2.1 h2.2]
theorem li_lt (h1 : BD z) (h2 : BD z') : li z < li z' ↔ z < z' := by rw [Int64.lt_iff_toInt_lt, li_T h1.1 h1.2, li_T h2.1 h2.2]
theorem li_eq (h1 : BD z) (h2 : BD z') : li z = li z' ↔ z = z' := by rw [← Int64.toInt_inj, li_T h1.1 h1.2, li_T h2.1 h2.2]
theorem li_i (hn : n < 2 ^ 31) : (li n).toInt32 = nI n := by rw [← li_n hn, lg_l2i_i2l]
theorem li_div (h0 : 0 ≤ z) (h1 : 0 < z') (b : BD z) (b' : BD z') : li z / li z' = li (z / z') := Int64.toInt_inj.mp (by
  rw [lg_ldiv_nonneg (by rw [li_T b.1 b.2]; exact h0) (by rw [li_T b'.1 b'.2]; exact h1), li_T b.1 b.2, li_T b'.1 b'.2]
  have q1 : 0 ≤ z / z' := Int.ediv_nonneg h0 (by omega)
  have q2 : z / z' ≤ z := Int.ediv_le_self _ h0
  have := b.2
  rw [li_T (by omega) (by omega)])
theorem ab_mul {X Y : Nat} (h1 : z.natAbs ≤ X) (h2 : z'.natAbs ≤ Y) : (z * z').natAbs ≤ X * Y := by rw [Int.natAbs_mul]; exact Nat.mul_le_mul h1 h2
theorem ab_BD (h : z.natAbs < 2 ^ 62) : BD z := ⟨by omega, by omega⟩
/-- the most that can be beside what is spare -/
def mbZ (s D : Int) (m : Nat) : Int := if 0 < D then (if 0 ≤ s then min (m : Int) (s / D) else -1) else if s < m * D then -1 else m
theorem mb_in : mbZ s D m = -1 ∨ (0 ≤ mbZ s D m ∧ mbZ s D m ≤ m) := by
  unfold mbZ
  by_cases c1 : 0 < D
  · rw [if_pos c1]
    by_cases c2 : 0 ≤ s
    · rw [if_pos c2]
      have := Int.ediv_nonneg c2 (Int.le_of_lt c1)
      exact Or.inr ⟨by omega, by omega⟩
    · rw [if_neg c2]; exact Or.inl rfl
  · rw [if_neg c1]
    by_cases c2 : s < m * D
    · rw [if_pos c2]; exact Or.inl rfl
    · rw [if_neg c2]; exact Or.inr ⟨by omega, by omega⟩
theorem C_beside (b1 : BD s) (b2 : BD D) (b3 : BD (m * D)) (hm : m < 2 ^ 31) : f_Land_mostBeside (uI h g) (li s) (li D) (nI m) = some (li (mbZ s D m), uI h g) := by
  unfold f_Land_mostBeside f_Land_mostBeside_b0 mbZ
  have b0 : BD 0 := ⟨by omega, by omega⟩
  have e0 : (0 : Int64) = li 0 := rfl
  rw [li_n hm, li_mul]
  by_cases c1 : 0 < D
  · rw [if_pos ((lg_cmp_gt _ _).mpr (by rw [e0]; exact (li_lt b0 b2).mpr c1)), if_pos c1]
    by_cases c2 : 0 ≤ s
    · have q1 : 0 ≤ s / D := Int.ediv_nonneg c2 (by omega)
      have q2 : s / D ≤ s := Int.ediv_le_self _ c2
      have := b1.2
      have b4 : BD (s / D) := ⟨by omega, by omega⟩
      have b5 : BD (m : Int) := ⟨by omega, by omega⟩
      rw [if_pos ((lg_cmp_ge _ _).mpr (by rw [e0]; exact (li_le b0 b1).mpr c2)), if_pos c2, if_pos (fun z => by
        rw [e0] at z
        have := (li_eq b2 b0).mp z
        omega), li_div c2 c1 b1 b2]
      unfold f_Math_minJ f_Math_minJ_b0
      by_cases c3 : s / D < m
      · rw [if_pos ((lg_cmp_gt _ _).mpr ((li_lt b4 b5).mpr c3)), bI_s, Int.min_eq_right (by omega)]
      · rw [if_neg (fun z => c3 ((li_lt b4 b5).mp ((lg_cmp_gt _ _).mp z))), bI_s, Int.min_eq_left (by omega)]
    · rw [if_neg (show ¬ 0 ≤ lg_cmp (li s) (0 : Int64) from fun z => c2 ((li_le b0 b1).mp ((lg_cmp_ge _ _).mp z))), if_neg c2]
      rfl
  · rw [if_neg (show ¬ 0 < lg_cmp (li D) (0 : Int64) from fun z => c1 ((li_lt b0 b2).mp ((lg_cmp_gt _ _).mp z))), if_neg c1]
    by_cases c2 : s < m * D
    · rw [if_pos ((lg_cmp_gt _ _).mpr ((li_lt b1 b3).mpr c2)), if_pos c2]
      rfl
    · rw [if_neg (fun z => c2 ((li_lt b1 b3).mp ((lg_cmp_gt _ _).mp z))), if_neg c2]
/-- class and reference over all parts -/
def ascF (b : Nat → Int) : Nat → Nat × Nat
  | 0 => (0, 0)
  | k + 1 => if b k ≠ -1 ∧ (ascF b k).1 ≤ k + (b k).toNat then (k + (b k).toNat, 1000 * k + (b k).toNat) else ascF b k
def desF (b : Nat → Int) : Nat → Nat → Nat → Nat
  | 0, _, be => be
  | k + 1, mo, be => if b k ≠ -1 ∧ mo < k + (b k).toNat then desF b k (k + (b k).toNat) (1000 * k + (b k).toNat) else desF b k mo be
theorem des_asc (b : Nat → Int) : ∀ k mo be, desF b k mo be = if mo < (ascF b k).1 then (ascF b k).2 else be := by
  intro k
  induction k with
  | zero => intro mo be; exact (if_neg (Nat.not_lt_zero _)).symm
  | succ k ih =>
    intro mo be
    have D : desF b (k + 1) mo be = if b k ≠ -1 ∧ mo < k + (b k).toNat then desF b k (k + (b k).toNat) (1000 * k + (b k).toNat) else desF b k mo be := rfl
    have A : ascF b (k + 1) = if b k ≠ -1 ∧ (ascF b k).1 ≤ k + (b k).toNat then (k + (b k).toNat, 1000 * k + (b k).toNat) else ascF b k := rfl
    by_cases c1 : b k = -1
    · rw [D, A, if_neg (show ¬ (b k ≠ -1 ∧ mo < k + (b k).toNat) from fun z => z.1 c1), if_neg (show ¬ (b k ≠ -1 ∧ (ascF b k).1 ≤ k + (b k).toNat) from fun z => z.1 c1), ih]
    · by_cases c3 : (ascF b k).1 ≤ k + (b k).toNat
      · rw [D, A, if_pos (show b k ≠ -1 ∧ (ascF b k).1 ≤ k + (b k).toNat from ⟨c1, c3⟩), ih, ih]
        by_cases c2 : mo < k + (b k).toNat
        · rw [if_pos (show b k ≠ -1 ∧ mo < k + (b k).toNat from ⟨c1, c2⟩), if_neg (by omega), if_pos c2]
        · rw [if_neg (show ¬ (b k ≠ -1 ∧ mo < k + (b k).toNat) from fun z => c2 z.2), if_neg (by omega), if_neg c2]
      · rw [D, A, if_neg (show ¬ (b k ≠ -1 ∧ (ascF b k).1 ≤ k + (b k).toNat) from fun z => c3 z.2), ih, ih]
        by_cases c2 : mo < k + (b k).toNat
        · rw [if_pos (show b k ≠ -1 ∧ mo < k + (b k).toNat from ⟨c1, c2⟩), if_pos (by omega), if_pos (by omega)]
        · rw [if_neg (show ¬ (b k ≠ -1 ∧ mo < k + (b k).toNat) from fun z => c2 z.2)]
theorem asc_0 (b : Nat → Int) : ∀ k, (ascF b k).1 = 0 → (ascF b k).2 = 0 := by
  intro k
  induction k with
  | zero => intro _; rfl
  | succ k ih =>
    unfold ascF
    by_cases c : b k ≠ -1 ∧ (ascF b k).1 ≤ k + (b k).toNat
    · rw [if_pos c]; intro z; have z' : k + (b k).toNat = 0 := z; show 1000 * k + (b k).toNat = 0; omega
    · rw [if_neg c]; exact ih
theorem des_0 (b : Nat → Int) (k : Nat) : desF b k 0 0 = (ascF b k).2 := by
  rw [des_asc]
  by_cases c : 0 < (ascF b k).1
  · rw [if_pos c]
  · rw [if_neg c, asc_0 b k (by omega)]
theorem asc_c {b b' : Nat → Int} : ∀ n, (∀ k, k < n → b k = b' k) → ascF b n = ascF b' n := by
  intro n
  induction n with
  | zero => intro _; rfl
  | succ n ih =>
    intro h
    unfold ascF
    rw [h n (by omega), ih fun k hk => h k (by omega)]
theorem asc_le (b : Nat → Int) (hb : ∀ k, (b k).toNat ≤ 999) : ∀ k, (ascF b k).1 ≤ k + 999 ∧ (ascF b k).2 ≤ 1000 * k + 999 := by
  intro k
  induction k with
  | zero => exact ⟨Nat.zero_le _, Nat.zero_le _⟩
  | succ k ih =>
    unfold ascF
    have := hb k
    by_cases c : b k ≠ -1 ∧ (ascF b k).1 ≤ k + (b k).toNat
    · rw [if_pos c]
      exact ⟨by show k + (b k).toNat ≤ k + 1 + 999; omega, by show 1000 * k + (b k).toNat ≤ 1000 * (k + 1) + 999; omega⟩
    · rw [if_neg c]; exact ⟨by omega, by omega⟩
def fbZ (p : Nat → Bool) : Nat → Int
  | 0 => -1
  | j + 1 => if p j = true then (j : Int) else fbZ p j
theorem fb_none {p : Nat → Bool} : ∀ j, (∀ b, b < j → ¬ p b = true) → fbZ p j = -1 := by
  intro j
  induction j with
  | zero => intro _; rfl
  | succ j ih => intro h; exact (if_neg (h j (by omega))).trans (ih fun b hb => h b (by omega))
theorem fb_at {p : Nat → Bool} : ∀ j, k < j → p k = true → (∀ b, k < b → b < j → ¬ p b = true) → fbZ p j = k := by
  intro j
  induction j with
  | zero => intro h; omega
  | succ j ih =>
    intro h1 h2 h3
    by_cases e : k = j
    · subst e; exact if_pos h2
    · exact (if_neg (h3 j (by omega) (by omega))).trans (ih (by omega) h2 fun b b1 b2 => h3 b b1 (by omega))
theorem fb_mb {p : Nat → Bool} (hp : ∀ b : Nat, b ≤ m → (p b = true ↔ (b : Int) * D ≤ s)) : fbZ p (m + 1) = mbZ s D m := by
  unfold mbZ
  by_cases c1 : 0 < D
  · rw [if_pos c1]
    by_cases c2 : 0 ≤ s
    · rw [if_pos c2]
      have q : ∀ b : Nat, b ≤ m → (p b = true ↔ (b : Int) ≤ s / D) := fun b hb => (hp b hb).trans (Int.le_ediv_iff_mul_le c1).symm
      have q1 : 0 ≤ s / D := Int.ediv_nonneg c2 (by omega)
      by_cases c3 : s / D < m
      · rw [Int.min_eq_right (by omega)]
        have := fb_at (p := p) (k := (s / D).toNat) (m + 1) (by omega) ((q _ (by omega)).mpr (by omega)) (fun b b1 b2 z => by have := (q b (by omega)).mp z; omega)
        rw [this]; omega
      · rw [Int.min_eq_left (by omega)]
        exact fb_at (p := p) (m + 1) (by omega) ((q m (by omega)).mpr (by omega)) (fun b b1 b2 => by omega)
    · rw [if_neg c2]
      refine fb_none _ fun b hb z => ?_
      have := (hp b (by omega)).mp z
      have : 0 ≤ (b : Int) * D := Int.mul_nonneg (by omega) (by omega)
      omega
  · rw [if_neg c1]
    by_cases c2 : s < m * D
    · rw [if_pos c2]
      refine fb_none _ fun b hb z => ?_
      have h1 := (hp b (by omega)).mp z
      have h2 : (m : Int) * D ≤ (b : Int) * D := Int.mul_le_mul_of_nonpos_right (by omega) (by omega)
      omega
    · rw [if_neg c2]
      exact fb_at (p := p) (m + 1) (by omega) ((hp m (by omega)).mpr (by omega)) (fun b b1 b2 => by omega)
theorem bl_eq {k b o t σ m1 m2 : Nat} {S1 S2 : Int} (ho : o = max 1 m1) (ht : t = max 1 m2) (hk : k ≤ m1) (hb : b ≤ m2) (z1 : m1 = 0 → S1 = 0) (z2 : m2 = 0 → S2 = 0) : (k : Int) * (t * S1) + b * (o * S2) ≤ σ * o * t * (k + b) ↔ (b : Int) * ((S2 - σ * m2) * o) ≤ -(k : Int) * (S1 - σ * m1) * t := by
  have e1 : (k : Int) * (S1 - σ * m1) = k * (S1 - σ * o) := by
    by_cases q : m1 = 0
    · have : k = 0 := by omega
      rw [this, Int.natCast_zero, Int.zero_mul, Int.zero_mul]
    · have : o = m1 := by omega
      rw [this]
  have e2 : (b : Int) * (S2 - σ * m2) = b * (S2 - σ * t) := by
    by_cases q : m2 = 0
    · have : b = 0 := by omega
      rw [this, Int.natCast_zero, Int.zero_mul, Int.zero_mul]
    · have : t = m2 := by omega
      rw [this]
  have f1 : (b : Int) * ((S2 - σ * m2) * o) = b * (S2 - σ * t) * o := by rw [← Int.mul_assoc, e2]
  have f2 : -(k : Int) * (S1 - σ * m1) * t = -(k * (S1 - σ * o)) * t := by rw [Int.neg_mul, e1]
  rw [f1, f2]
  have id : (σ : Int) * o * t * (k + b) - (k * (t * S1) + b * (o * S2)) = -(k * (S1 - σ * o)) * t - b * (S2 - σ * t) * o := by grind
  constructor <;> intro z <;> omega
theorem C_bl_L {a1 a2 m1 m2 o t : Nat} (s1 : hS h a1 = 1) (s2 : hS h a2 = 1) (e1 : g a1 5 = nI m1) (e2 : g a2 5 = nI m2) (h1 : m1 ≤ 999) (h2 : m2 ≤ 999) (ho : o ≤ 999) (ht : t ≤ 999) (hP : P.natAbs ≤ 200000) (hQ : Q.natAbs ≤ 200000) : ∀ (j k : Nat), k + j = m1 + 1 → ∀ q,
    f_Land_blended_L65 (q + j + 1) (uI h g) a1 a2 (li P) (li Q) (li o) (li t) (nI (ascF (fun k => mbZ (-(k : Int) * P * t) (Q * o) m2) k).1) (nI (ascF (fun k => mbZ (-(k : Int) * P * t) (Q * o) m2) k).2) (nI k) = some (nI (ascF (fun k => mbZ (-(k : Int) * P * t) (Q * o) m2) (m1 + 1)).2, uI h g) := by
  have dD : (Q * o).natAbs ≤ 200000 * 999 := ab_mul hQ (by omega)
  have dM : ((m2 : Int) * (Q * o)).natAbs ≤ 999 * (200000 * 999) := ab_mul (by omega) dD
  have tb : ∀ k : Nat, ((fun k : Nat => mbZ (-(k : Int) * P * t) (Q * o) m2) k).toNat ≤ 999 := fun k => by
    have := mb_in (s := -(k : Int) * P * t) (D := Q * o) (m := m2)
    show (mbZ (-(k : Int) * P * t) (Q * o) m2).toNat ≤ 999
    omega
  intro j
  induction j with
  | zero =>
    intro k hk q
    have hk' : k = m1 + 1 := hk
    subst hk'
    show f_Land_blended_b65 (f_Land_blended_L65 q) (uI h g) a1 a2 _ _ _ _ _ _ _ = _
    unfold f_Land_blended_b65
    rw [if_pos (show hS (uI h g) a1 = 1 from s1), hI_u, e1, if_pos (nI_lt (by omega) (by omega))]
  | succ j ih =>
    intro k hk q
    have E : f_Land_blended_L65 (q + (j + 1) + 1) (uI h g) a1 a2 (li P) (li Q) (li o) (li t) (nI (ascF (fun k => mbZ (-(k : Int) * P * t) (Q * o) m2) k).1) (nI (ascF (fun k => mbZ (-(k : Int) * P * t) (Q * o) m2) k).2) (nI k) = f_Land_blended_b65 (f_Land_blended_L65 (q + j + 1)) (uI h g) a1 a2 (li P) (li Q) (li o) (li t) (nI (ascF (fun k => mbZ (-(k : Int) * P * t) (Q * o) m2) k).1) (nI (ascF (fun k => mbZ (-(k : Int) * P * t) (Q * o) m2) k).2) (nI k) := rfl
    have A : ascF (fun k => mbZ (-(k : Int) * P * t) (Q * o) m2) (k + 1) = if mbZ (-(k : Int) * P * t) (Q * o) m2 ≠ -1 ∧ (ascF (fun k => mbZ (-(k : Int) * P * t) (Q * o) m2) k).1 ≤ k + (mbZ (-(k : Int) * P * t) (Q * o) m2).toNat then (k + (mbZ (-(k : Int) * P * t) (Q * o) m2).toNat, 1000 * k + (mbZ (-(k : Int) * P * t) (Q * o) m2).toNat) else ascF (fun k => mbZ (-(k : Int) * P * t) (Q * o) m2) k := rfl
    have nx := ih (k + 1) (by omega) q
    rw [A] at nx
    have le := (asc_le _ tb k).1
    have bin := mb_in (s := -(k : Int) * P * t) (D := Q * o) (m := m2)
    have k1 : (-(k : Int) * P).natAbs ≤ 999 * 200000 := ab_mul (by omega) hP
    have k2 : (-(k : Int) * P * t).natAbs ≤ 999 * 200000 * 999 := ab_mul k1 (by omega)
    have CB := C_beside (h := h) (g := g) (s := -(k : Int) * P * t) (D := Q * o) (m := m2) (ab_BD (by omega)) (ab_BD (by omega)) (ab_BD (by omega)) (by omega)
    rw [E]
    unfold f_Land_blended_b65 f_Land_blended_b144
    rw [if_pos (show hS (uI h g) a1 = 1 from s1), hI_u, e1, if_neg (nI_nlt (by omega) (by omega)), if_pos (show hS (uI h g) a2 = 1 from s2), e2, li_neg (by omega), li_mul, li_mul, li_mul, CB, bI_s, nI_1]
    generalize mbZ (-(k : Int) * P * t) (Q * o) m2 = B at *
    generalize ascF (fun k => mbZ (-(k : Int) * P * t) (Q * o) m2) k = X at *
    by_cases c1 : B = -1
    · rw [if_pos ((lg_cmp_eq _ _).mpr (by rw [c1]; rfl))]
      rw [if_neg (fun z => z.1 c1)] at nx
      exact nx
    · have eB : B = (B.toNat : Int) := by omega
      have bB : BD B := ⟨by omega, by omega⟩
      rw [if_neg (show ¬ lg_cmp (li B) (-1 : Int64) = 0 from fun z => c1 ((li_eq bB ⟨by omega, by omega⟩).mp ((lg_cmp_eq _ (li (-1))).mp z))), li_n (by omega), li_add, li_n (by omega)]
      by_cases c2 : X.1 ≤ k + B.toNat
      · rw [if_neg (fun z => by
          have := (li_lt ⟨by omega, by omega⟩ ⟨by omega, by omega⟩).mp ((lg_cmp_lt _ _).mp z)
          omega), show (li B).toInt32 = nI B.toNat by rw [show li B = li (B.toNat : Int) from congrArg li eB]; exact li_i (by omega), nI_add, show (1000 : Int32) * nI k = nI (1000 * k) from nI_mul _ _, nI_add]
        rw [if_pos ⟨c1, c2⟩] at nx
        exact nx
      · rw [if_pos ((lg_cmp_lt _ _).mpr ((li_lt ⟨by omega, by omega⟩ ⟨by omega, by omega⟩).mpr (by omega)))]
        rw [if_neg (fun z => c2 z.2)] at nx
        exact nx
def zI (j : Nat) : Int32 := nI j + (-1)
theorem zI_s : zI (j + 1) = nI j := pk_m1 j
theorem zI_0 : zI 0 = -1 := by decide
def nZ (z : Int) : Int32 := if z = -1 then -1 else nI z.toNat
def blP (S1 S2 : Int) (σ o t k : Nat) (b : Nat) : Bool := decide ((k : Int) * (t * S1) + b * (o * S2) ≤ σ * o * t * (k + b))
theorem N_bl139 {K : Hp → Int32 → Int64 → Int64 → Int64 → Int64 → Int32 → Int32 → Int32 → Int32 → Option (Int32 × Hp)} {o t σ : Nat} (ho : o ≤ 999) (ht : t ≤ 999) (hs : σ ≤ 99) (hk : k ≤ 999) (b1 : S1.natAbs ≤ 100000) (b2 : S2.natAbs ≤ 100000) : ∀ j, j ≤ 1000 → ∀ q,
    f_Model_blend_L139 K (q + j + 1) (uI h g) (nI σ) (li o) (li t) (li (t * S1)) (li (o * S2)) p1 p2 p3 (nI k) (zI j) = f_Model_blend_b182 K (uI h g) (nI σ) (li o) (li t) (li (t * S1)) (li (o * S2)) p1 p2 p3 (nI k) (nZ (fbZ (blP S1 S2 σ o t k) j)) := by
  have d1 : ((t : Int) * S1).natAbs ≤ 999 * 100000 := ab_mul (by omega) b1
  have d2 : ((o : Int) * S2).natAbs ≤ 999 * 100000 := ab_mul (by omega) b2
  have d3 : ((k : Int) * (t * S1)).natAbs ≤ 999 * (999 * 100000) := ab_mul (by omega) d1
  have d4 : ((σ : Int) * o).natAbs ≤ 99 * 999 := ab_mul (by omega) (by omega)
  have d5 : ((σ : Int) * o * t).natAbs ≤ 99 * 999 * 999 := ab_mul d4 (by omega)
  intro j
  induction j with
  | zero =>
    intro _ q
    show f_Model_blend_b139 K (f_Model_blend_L139 K q) (uI h g) _ _ _ _ _ _ _ _ _ (zI 0) = _
    unfold f_Model_blend_b139
    rw [zI_0, if_pos (by decide)]
    rfl
  | succ j ih =>
    intro hj q
    have d6 : ((j : Int) * (o * S2)).natAbs ≤ 1000 * (999 * 100000) := ab_mul (by omega) d2
    have d7 : ((σ : Int) * o * t * (k + j)).natAbs ≤ 99 * 999 * 999 * 2000 := ab_mul d5 (by omega)
    have E : f_Model_blend_L139 K (q + (j + 1) + 1) (uI h g) (nI σ) (li o) (li t) (li (t * S1)) (li (o * S2)) p1 p2 p3 (nI k) (zI (j + 1)) = f_Model_blend_b139 K (f_Model_blend_L139 K (q + j + 1)) (uI h g) (nI σ) (li o) (li t) (li (t * S1)) (li (o * S2)) p1 p2 p3 (nI k) (zI (j + 1)) := rfl
    have F : fbZ (blP S1 S2 σ o t k) (j + 1) = if blP S1 S2 σ o t k j = true then (j : Int) else fbZ (blP S1 S2 σ o t k) j := rfl
    have c : (lg_cmp (((nI k).toInt64 * li (t * S1)) + ((nI j).toInt64 * li (o * S2))) ((((nI σ).toInt64 * li o) * li t) * (nI k + nI j).toInt64) ≤ 0) ↔ blP S1 S2 σ o t k j = true := by
      rw [nI_add, li_n (by omega), li_n (by omega), li_n (by omega), li_n (by omega), li_mul, li_mul, li_mul, li_mul, li_mul, li_add, lg_cmp_le, Int.natCast_add, li_le (ab_BD (by omega)) (ab_BD (by omega))]
      unfold blP
      exact decide_eq_true_iff.symm
    rw [E, F]
    unfold f_Model_blend_b139
    rw [zI_s, if_neg (nI_pos (by omega))]
    by_cases cc : blP S1 S2 σ o t k j = true
    · rw [if_pos (c.mpr cc), if_pos cc, show nZ (j : Int) = nI j from (if_neg (by omega)).trans (congrArg nI (Int.toNat_natCast j))]
    · rw [if_neg (fun z => cc (c.mp z)), if_neg cc]
      exact ih (by omega) q
theorem N_bl130 {o t σ m1 m2 : Nat} (ho : o ≤ 999) (ht : t ≤ 999) (hs : σ ≤ 99) (hm1 : m1 ≤ 999) (hm2 : m2 ≤ 999) (b1 : S1.natAbs ≤ 100000) (b2 : S2.natAbs ≤ 100000) : ∀ (j mo be : Nat), j ≤ m1 + 1 → mo ≤ 3000 → ∀ q,
    f_Model_blend_L130 (q + j + 1) (uI h g) (nI σ) (li o) (li t) (li (t * S1)) (li (o * S2)) (nI be) (nI mo) (nI m2) (zI j) = some (nI (desF (fun k => fbZ (blP S1 S2 σ o t k) (m2 + 1)) j mo be), uI h g) := by
  intro j
  induction j with
  | zero =>
    intro mo be _ _ q
    show f_Model_blend_b130 (f_Model_blend_L130 q) (uI h g) _ _ _ _ _ _ _ _ (zI 0) = _
    unfold f_Model_blend_b130
    rw [zI_0, if_pos (by decide)]
    rfl
  | succ j ih =>
    intro mo be hj hmo q
    have E : f_Model_blend_L130 (q + (j + 1) + 1) (uI h g) (nI σ) (li o) (li t) (li (t * S1)) (li (o * S2)) (nI be) (nI mo) (nI m2) (zI (j + 1)) = f_Model_blend_b130 (f_Model_blend_L130 (q + j + 1)) (uI h g) (nI σ) (li o) (li t) (li (t * S1)) (li (o * S2)) (nI be) (nI mo) (nI m2) (zI (j + 1)) := rfl
    have D : desF (fun k => fbZ (blP S1 S2 σ o t k) (m2 + 1)) (j + 1) mo be = if fbZ (blP S1 S2 σ o t j) (m2 + 1) ≠ -1 ∧ mo < j + (fbZ (blP S1 S2 σ o t j) (m2 + 1)).toNat then desF (fun k => fbZ (blP S1 S2 σ o t k) (m2 + 1)) j (j + (fbZ (blP S1 S2 σ o t j) (m2 + 1)).toNat) (1000 * j + (fbZ (blP S1 S2 σ o t j) (m2 + 1)).toNat) else desF (fun k => fbZ (blP S1 S2 σ o t k) (m2 + 1)) j mo be := rfl
    have I := N_bl139 (h := h) (g := g) (K := f_Model_blend_L130 (q + j + 1)) (p1 := nI be) (p2 := nI mo) (p3 := nI m2) ho ht hs (show j ≤ 999 by omega) b1 b2 (m2 + 1) (by omega) (999999 - (m2 + 1))
    rw [← FU_mm (by omega), zI_s] at I
    have fin : fbZ (blP S1 S2 σ o t j) (m2 + 1) = -1 ∨ (0 ≤ fbZ (blP S1 S2 σ o t j) (m2 + 1) ∧ fbZ (blP S1 S2 σ o t j) (m2 + 1) ≤ m2) := by
      have : ∀ i, fbZ (blP S1 S2 σ o t j) i = -1 ∨ (0 ≤ fbZ (blP S1 S2 σ o t j) i ∧ fbZ (blP S1 S2 σ o t j) i + 1 ≤ i) := by
        intro i
        induction i with
        | zero => exact Or.inl rfl
        | succ i ih =>
          unfold fbZ
          by_cases c : blP S1 S2 σ o t j i = true
          · rw [if_pos c]; exact Or.inr ⟨by omega, by omega⟩
          · rw [if_neg c]
            rcases ih with ih | ih
            · exact Or.inl ih
            · exact Or.inr ⟨ih.1, by omega⟩
      have := this (m2 + 1)
      omega
    rw [E, D]
    unfold f_Model_blend_b130
    rw [zI_s, if_neg (nI_pos (by omega)), I]
    unfold f_Model_blend_b182 f_Model_blend_b218
    generalize fbZ (blP S1 S2 σ o t j) (m2 + 1) = B at *
    by_cases c1 : B = -1
    · rw [c1, show nZ (-1) = -1 from rfl, if_pos (by decide), if_neg (fun z => z.1 rfl)]
      exact ih mo be (by omega) hmo q
    · rw [show nZ B = nI B.toNat from if_neg c1, if_neg (nI_pos (by omega)), nI_add, show (1000 : Int32) * nI j = nI (1000 * j) from nI_mul _ _, nI_add]
      by_cases c2 : mo < j + B.toNat
      · rw [if_pos (nI_lt c2 (by omega)), if_pos ⟨c1, c2⟩]
        exact ih _ _ (by omega) (by omega) q
      · rw [if_neg (nI_nlt (by omega) (by omega)), if_neg (fun z => c2 z.2)]
        exact ih mo be (by omega) hmo q
theorem smN_mul (hp : ∀ y, y < n → p y ≤ 99) : smN (fun y => f y * p y) n ≤ 99 * smN f n := by
  induction n with
  | zero => exact Nat.zero_le _
  | succ n ih =>
    have := ih fun y hy => hp y (by omega)
    show smN (fun y => f y * p y) n + f n * p n ≤ 99 * (smN f n + f n)
    have : f n * p n ≤ f n * 99 := Nat.mul_le_mul_left _ (hp n (by omega))
    omega
theorem saltW_n (W : WF M w) (hc : c < nc w) : ∃ S : Nat, S ≤ 100000 ∧ saltW w c = nI S ∧ (ms w c = 0 → S = 0) := by
  have O := W.okl hc
  have m9 := (W.2.2.2.2.2.1 c hc).ms_lt
  have sl : ∀ y, y < 30 → w (35 + y) = nI (ix (w (35 + y))) ∧ ix (w (35 + y)) ≤ 99 := fun y hy => by
    obtain ⟨u, U1, U2⟩ := W.2.2.2.2.2.2.2.2.2 y hy
    rw [ix_b U1 (by omega)]; exact ⟨U1, U2⟩
  have le := smN_mul (f := ly w c) (p := fun y => ix (w (35 + y))) (n := 30) (fun y hy => (sl y hy).2)
  have e : smN (ly w c) 30 = ms w c := rfl
  rw [e] at le
  refine ⟨smN (fun y => ly w c y * ix (w (35 + y))) 30, by omega, ?_, fun z => by omega⟩
  unfold saltW
  refine sumL_n fun y hy => ?_
  obtain ⟨u, U1, U2⟩ := W.2.2.2.2.2.2.2.2.2 y hy
  show w (70 + 35 * c + y) * w (35 + y) = nI (ly w c y * ix (w (35 + y)))
  rw [(O y hy).1, U1, nI_mul, ix_n (by omega)]
theorem sp_blend : LSp M (fun H => f_Lw_blend H 1 p1 p2 p3 765) (fun H => f_Model_blend H 755 p1 p2 p3) := by
  intro H I
  obtain ⟨h, g, rfl⟩ : ∃ h g, H = uI h g := ⟨H, hI H, rfl⟩
  have I : INV M h g := I
  obtain ⟨t, W, R, Lr, e0, e1, e2, n8, nh8, nd8⟩ := I.us
  obtain ⟨⟨w1, wr0, wr1, wr2, wr3, w5, wr5, wr6, wr7, wr8, wr9⟩, w6, w7⟩ := WTR (g := g) t
  have s7 : ∀ (h : Hp) (g : Nat → Nat → Int32), TS h → hS (uI h g) 755 = 11 := fun h g t => t.td.1.1
  have l9 := t.l9
  rcases bad_or p1 (n := nc (g 756)) (by omega) with bd | ⟨c, hc, rfl⟩
  · refine cl_r (h := h) (g := g) (fl := fun H => f_Lw_blend H 1 p1 p2 p3 765) (fm := fun H => f_Model_blend H 755 p1 p2 p3) I (lw_blend_1 (H := uI h g) t ?_) (by decide) (fun h' g' t' x' => ⟨0, thr g' 1, ?_, thr_c, REF.thr⟩)
    · unfold f_Water_blend f_Water_blend_b0
      rw [if_pos w1, (C_needC t e0 (by omega)).1 bd, bX_r]
    · show f_Model_blend_b0 (uI h' g') 755 p1 p2 p3 = _
      unfold f_Model_blend_b0 f_Model_blend_b22 f_Model_blend_b27
      rw [if_pos (s7 _ _ t'), wr_s, sI_u, (N_noC t'.td.1 (g := up2 g' 755 0 0) (n := nc (g 756)) (by rw [th_r (by decide), x' 756 (by decide)]; exact W.1.1) (by omega)).1 bd, bI_s, if_neg (by decide), if_pos (s7 _ _ t'), N_thr1 t'.td.1, bI_s, if_neg (by decide)]
      rfl
  rcases bad_or p2 (n := nc (g 756)) (by omega) with bd | ⟨d, hd, rfl⟩
  · refine cl_r (h := h) (g := g) (fl := fun H => f_Lw_blend H 1 (nI c) p2 p3 765) (fm := fun H => f_Model_blend H 755 (nI c) p2 p3) I (lw_blend_1 (H := uI h g) t ?_) (by decide) (fun h' g' t' x' => ⟨0, thr g' 1, ?_, thr_c, REF.thr⟩)
    · unfold f_Water_blend f_Water_blend_b0
      rw [if_pos w1, (C_needC (x := 0) t e0 (by omega)).2 c hc, bX_l, if_pos w1, (C_needC t e0 (by omega)).1 bd, bX_r]
    · show f_Model_blend_b0 (uI h' g') 755 (nI c) p2 p3 = _
      unfold f_Model_blend_b0 f_Model_blend_b22 f_Model_blend_b27
      rw [if_pos (s7 _ _ t'), wr_s, sI_u, (N_noC (x := 0) t'.td.1 (g := up2 g' 755 0 0) (n := nc (g 756)) (by rw [th_r (by decide), x' 756 (by decide)]; exact W.1.1) (by omega)).2 c hc, bI_s, if_pos rfl, if_pos (s7 _ _ t'), (N_noC t'.td.1 (g := up2 g' 755 0 0) (n := nc (g 756)) (by rw [th_r (by decide), x' 756 (by decide)]; exact W.1.1) (by omega)).1 bd, bI_s, if_neg (by decide), if_pos (s7 _ _ t'), N_thr1 t'.td.1, bI_s, if_neg (by decide)]
      rfl
  have ru : ∀ (h' : Hp) (g' : Nat → Nat → Int32), TS h' → g' 756 = g 756 → f_Model_blend_b0 (uI h' g') 755 (nI c) (nI d) p3 = f_Model_blend_b27 (uI h' (up2 g' 755 0 0)) 755 (nI c) (nI d) p3 755 0 := fun h' g' t' e => by
    unfold f_Model_blend_b0
    rw [if_pos (s7 _ _ t'), wr_s, sI_u, (N_noC (x := 0) t'.td.1 (g := up2 g' 755 0 0) (n := nc (g 756)) (by rw [th_r (by decide), e]; exact W.1.1) (by omega)).2 c hc, bI_s, if_pos rfl, if_pos (s7 _ _ t'), (N_noC (x := 0) t'.td.1 (g := up2 g' 755 0 0) (n := nc (g 756)) (by rw [th_r (by decide), e]; exact W.1.1) (by omega)).2 d hd, bI_s, if_pos rfl]
  have bad : ∀ (h' : Hp) (g' : Nat → Nat → Int32), TS h' → f_Model_blend_b55 (uI h' g') 755 (nI c) (nI d) p3 755 1 = some (0, uI h' (up2 g' 755 0 2)) := fun h' g' t' => by
    unfold f_Model_blend_b55
    rw [if_pos (s7 _ _ t'), N_thr1 t'.td.1, bI_s, if_neg (by decide)]
  by_cases ecd : c = d
  · refine cl_r (h := h) (g := g) (fl := fun H => f_Lw_blend H 1 (nI c) (nI d) p3 765) (fm := fun H => f_Model_blend H 755 (nI c) (nI d) p3) I (lw_blend_2 (H := uI h g) t ?_) (by decide) (fun h' g' t' x' => ⟨0, thr g' 2, ?_, thr_c, REF.thr⟩)
    · unfold f_Water_blend f_Water_blend_b0 f_Water_blend_b25
      rw [if_pos w1, (C_needC (x := 0) t e0 (by omega)).2 c hc, bX_l, if_pos w1, (C_needC (x := 0) t e0 (by omega)).2 d hd, bX_l, if_pos (congrArg nI ecd)]
    · refine (ru h' g' t' (x' 756 (by decide))).trans ?_
      unfold f_Model_blend_b27 f_Model_blend_b50
      rw [if_pos (s7 _ _ t'), N_thr0 t'.td.1, bI_s, if_pos rfl, if_pos (congrArg nI ecd)]
      exact bad h' _ t'
  have ncd : ¬ nI c = nI d := fun z => ecd ((nI_eq (by omega) (by omega)).mp z)
  rcases bad_or p3 (n := 100) (by omega) with bd | ⟨σ, hσ, rfl⟩
  · have inb : (if p3 < 0 then (0 : Int32) else if (99 : Int32) < p3 then 0 else 1) = 0 := in_bad (n := 99) bd (by decide)
    refine cl_r (h := h) (g := g) (fl := fun H => f_Lw_blend H 1 (nI c) (nI d) p3 765) (fm := fun H => f_Model_blend H 755 (nI c) (nI d) p3) I (lw_blend_2 (H := uI h g) t ?_) (by decide) (fun h' g' t' x' => ⟨0, thr g' 2, ?_, thr_c, REF.thr⟩)
    · unfold f_Water_blend f_Water_blend_b0 f_Water_blend_b25
      rw [if_pos w1, (C_needC (x := 0) t e0 (by omega)).2 c hc, bX_l, if_pos w1, (C_needC (x := 0) t e0 (by omega)).2 d hd, bX_l, if_neg ncd]
      rcases bd with bd | bd
      · rw [if_pos bd]
      · rw [if_neg (fun z => nI_pos (n := 100) (by decide) (Int32.lt_of_le_of_lt bd z)), if_neg (show ¬ p3 ≤ (99 : Int32) from fun z => nI_ge (a := 99) (b := 100) (by decide) (by decide) (Int32.le_trans bd z))]
    · refine (ru h' g' t' (x' 756 (by decide))).trans ?_
      unfold f_Model_blend_b27 f_Model_blend_b50
      rw [if_pos (s7 _ _ t'), N_thr0 t'.td.1, bI_s, if_pos rfl, if_neg ncd, N_in, bI_s, inb, if_pos rfl]
      exact bad h' _ t'
  have ing : (if nI σ < 0 then (0 : Int32) else if (99 : Int32) < nI σ then 0 else 1) = 1 := in_good (n := 99) (by omega) (by decide)
  obtain ⟨r1, r2, r3⟩ := R.2.1 c hc
  obtain ⟨s1, s2, s3⟩ := R.2.1 d hd
  have m9 := (W.2.2.2.2.2.1 c hc).ms_lt
  have md9 := (W.2.2.2.2.2.1 d hd).ms_lt
  obtain ⟨a1, a2, a3, a4, a5⟩ := (l9.iu (g := g)).cr (c := c) (by omega)
  obtain ⟨d1, d2, -, -, -⟩ := (l9.iu (g := g)).cr (c := d) (by omega)
  obtain ⟨S1, b1, c1, z1⟩ := saltW_n W hc
  obtain ⟨S2, b2, c2, z2⟩ := saltW_n W hd
  have CS1 := C_salt (g := g) l9 R hc n8
  have CS2 := C_salt (g := g) l9 R hd n8
  rw [c1] at CS1
  rw [c2] at CS2
  have x1 : max 1 (ms (g 756) c) ≤ 999 := by omega
  have x2 : max 1 (ms (g 756) d) ≤ 999 := by omega
  have sm1 : ((σ : Int) * (ms (g 756) c : Nat)).natAbs ≤ 99 * 999 := ab_mul (by omega) (by omega)
  have sm2 : ((σ : Int) * (ms (g 756) d : Nat)).natAbs ≤ 99 * 999 := ab_mul (by omega) (by omega)
  have L := C_bl_L (h := h) (g := g) (P := (S1 : Int) - σ * (ms (g 756) c : Nat)) (Q := (S2 : Int) - σ * (ms (g 756) d : Nat)) (o := max 1 (ms (g 756) c)) (t := max 1 (ms (g 756) d)) a2 d2 r3 s3 (by omega) (by omega) x1 x2 (by omega) (by omega) (ms (g 756) c + 1) 0 (by omega) (999999 - (ms (g 756) c + 1))
  rw [← FU_mm (by omega)] at L
  refine cl_l (h := h) (g := g) (fl := fun H => f_Lw_blend H 1 (nI c) (nI d) (nI σ) 765) (fm := fun H => f_Model_blend H 755 (nI c) (nI d) (nI σ)) (h1 := h) (g1 := g) (v := nI (ascF (fun k => mbZ (-(k : Int) * ((S1 : Int) - σ * (ms (g 756) c : Nat)) * (max 1 (ms (g 756) d) : Nat)) (((S2 : Int) - σ * (ms (g 756) d : Nat)) * (max 1 (ms (g 756) c) : Nat)) (ms (g 756) d)) (ms (g 756) c + 1)).2) (lw_blend (H := uI h g) (H1 := uI h g) t t ?_) t (fun h' t' => ⟨up2 g 755 0 0, ?_, up_eq, I.th⟩) (by omega) (by omega)
  · unfold f_Water_blend f_Water_blend_b0 f_Land_blended f_Land_blended_b0
    rw [if_pos w1, (C_needC (x := 0) t e0 (by omega)).2 c hc, bX_l, if_pos w1, (C_needC (x := 0) t e0 (by omega)).2 d hd, bX_l, if_neg ncd, if_neg (nI_pos (by omega)), if_pos (show nI σ ≤ (99 : Int32) from nI_le (b := 99) (by omega) (by decide)), if_pos w1, w5, if_pos w6, a3, if_pos a4, a5, if_pos (ib_n (by omega) (by decide)), if_pos (ib_n (by omega) (by decide)), ix_n (show c < 2 ^ 31 by omega), ix_n (show d < 2 ^ 31 by omega), a1, d1, if_pos w6, CS1, bI_s, if_pos a2, if_pos w6, CS2, bI_s, if_pos d2, if_pos a2, hI_u, r3, show (1 : Int32) = nI 1 from rfl, mx_n (by decide) (by omega), bI_s, if_pos d2, hI_u, s3, mx_n (by decide) (by omega), bI_s, li_n (by omega), li_n (by omega), li_n (by omega), li_n (by omega), li_n (by omega), li_n (by omega), li_n (by omega), li_mul, li_mul, li_sub, li_sub]
    show bI (f_Land_blended_L65 FU (uI h g) _ _ _ _ _ _ (nI 0) (nI 0) (nI 0)) _ = _
    exact congrArg (fun X => bI X fun v17 h18 => some (Sum.inl v17, h18)) L
  · refine (ru h' g t' rfl).trans ?_
    have u6 : up2 g 755 0 0 756 = g 756 := th_r (by decide)
    have ME : ∀ {k}, k < nc (g 756) → f_Model_measures (uI h' (up2 g 755 0 0)) 755 (nI k) = some (nI (ms (g 756) k), uI h' (up2 g 755 0 0)) := fun hk => N_ms t'.td.1 (by omega) u6 (W.okl hk)
    have SA1 := N_salt (g := up2 g 755 0 0) (c := c) t'.td.1 (by omega) u6
    have SA2 := N_salt (g := up2 g 755 0 0) (c := d) t'.td.1 (by omega) u6
    rw [c1] at SA1
    rw [c2] at SA2
    have N := N_bl130 (h := h') (g := up2 g 755 0 0) (S1 := (S1 : Int)) (S2 := (S2 : Int)) (σ := σ) (o := max 1 (ms (g 756) c)) (t := max 1 (ms (g 756) d)) (m1 := ms (g 756) c) (m2 := ms (g 756) d) x1 x2 (by omega) (by omega) (by omega) (by omega) (by omega) (ms (g 756) c + 1) 0 0 (by omega) (by omega) (999999 - (ms (g 756) c + 1))
    rw [← FU_mm (by omega), zI_s, des_0] at N
    unfold f_Model_blend_b27 f_Model_blend_b55
    rw [if_pos (s7 _ _ t'), N_thr0 t'.td.1, bI_s, if_pos rfl, if_neg ncd, N_in, bI_s, ing, if_neg (by decide), if_pos (s7 _ _ t'), N_thr0 t'.td.1, bI_s, if_pos rfl, if_pos (s7 _ _ t'), ME hc, bI_s, show (1 : Int32) = nI 1 from rfl, mx_n (by decide) (by omega), bI_s, if_pos (s7 _ _ t'), ME hd, bI_s, mx_n (by decide) (by omega), bI_s, if_pos (s7 _ _ t'), SA1, bI_s, if_pos (s7 _ _ t'), SA2, bI_s, if_pos (s7 _ _ t'), ME hd, bI_s, if_pos (s7 _ _ t'), ME hc, bI_s, li_n (by omega), li_n (by omega), li_n (by omega), li_n (by omega), li_mul, li_mul]
    refine N.trans ?_
    have E : ∀ k, k ≤ ms (g 756) c → fbZ (blP S1 S2 σ (max 1 (ms (g 756) c)) (max 1 (ms (g 756) d)) k) (ms (g 756) d + 1) = mbZ (-(k : Int) * ((S1 : Int) - σ * (ms (g 756) c : Nat)) * (max 1 (ms (g 756) d) : Nat)) (((S2 : Int) - σ * (ms (g 756) d : Nat)) * (max 1 (ms (g 756) c) : Nat)) (ms (g 756) d) := fun k hk => fb_mb fun b hb => by
      unfold blP
      rw [decide_eq_true_iff]
      exact bl_eq rfl rfl hk hb (fun z => by rw [z1 z]; rfl) (fun z => by rw [z2 z]; rfl)
    rw [asc_c (ms (g 756) c + 1) fun k hk => E k (by omega)]
end U47
