/-! ===== a law's text: the reference reads it ===== -/
section U59
variable {h : Hp} {g g' g1 g2 : Nat → Nat → Int32} {b : Nat → Nat} {T p q n i j k m c s r d w : Nat} {e es x E : List (Nat × Nat)} {v y u : Int32} {at' : Nat → Nat ⊕ (List (Nat × Nat) × Nat)} {fa fc : Hp → Nat → Option (Int32 × Hp)} {o : Bool}
/-- the steps that the reference has written -/
def DR (g : Nat → Nat → Int32) (E : List (Nat × Nat)) : Prop := g 755 16 = nI E.length ∧ ∀ i s n, E[i]? = some (s, n) → g 756 (1491 + 2 * i) = nI s ∧ g 756 (1492 + 2 * i) = nI n
def FQ (g g' : Nat → Nat → Int32) : Prop := (∀ r, r ≠ 755 → r ≠ 756 → g' r = g r) ∧ (∀ j, j ≠ 10 → j ≠ 12 → j ≠ 13 → j ≠ 16 → g' 755 j = g 755 j) ∧ ∀ k, k < 1491 → g' 756 k = g 756 k
theorem FQ.rf : FQ g g := ⟨fun _ _ _ => rfl, fun _ _ _ _ _ => rfl, fun _ _ => rfl⟩
theorem FQ.tr (x : FQ g g1) (y : FQ g1 g') : FQ g g' := ⟨fun r h1 h2 => (y.1 r h1 h2).trans (x.1 r h1 h2), fun j h1 h2 h3 h4 => (y.2.1 j h1 h2 h3 h4).trans (x.2.1 j h1 h2 h3 h4), fun k hk => (y.2.2 k hk).trans (x.2.2 k hk)⟩
theorem FB.fq (x : FB g g') : FQ g g' := ⟨fun r h1 _ => x.1 r h1, fun j h1 h2 _ _ => x.2 j h1 h2, fun k _ => by rw [x.1 756 (by decide)]⟩
theorem DR.fb (D : DR g E) (x : FB g g') : DR g' E := ⟨by rw [x.2 16 (by decide) (by decide)]; exact D.1, fun i s n hi => by rw [x.1 756 (by decide)]; exact D.2 i s n hi⟩
theorem FB.d13 (x : FB g g') (h13 : g 755 13 = v) : g' 755 13 = v := (x.2 13 (by decide) (by decide)).trans h13
/-- what the reference has read, or where the fault is -/
def NW (r : Nat ⊕ (List (Nat × Nat) × Nat)) (E : List (Nat × Nat)) (d : Nat) (v : Int32) (g : Nat → Nat → Int32) (b : Nat → Nat) (T : Nat) : Prop := match r with
  | .inl q => v = 0 ∧ g 755 12 = nI q
  | .inr (e, q) => v = 1 ∧ RS g b T q ∧ DR g (E ++ e) ∧ g 755 13 = nI d
theorem NW.ap {rr : Nat ⊕ (List (Nat × Nat) × Nat)} (z : NW rr (E ++ es) d v g b T) : NW (apP es rr) E d v g b T := by
  cases rr with
  | inl p => exact z
  | inr u =>
    obtain ⟨e, q⟩ := u
    obtain ⟨z1, z2, z3, z4⟩ := z
    exact ⟨z1, z2, by rw [← List.append_assoc]; exact z3, z4⟩
theorem NW.go {rr : Nat ⊕ (List (Nat × Nat) × Nat)} {f : Nat → Nat ⊕ (List (Nat × Nat) × Nat)} (z : NW rr E d v g b T) : (v = 0 ∧ NW (thP rr f) E d 0 g b T) ∨ (v = 1 ∧ ∃ e q, rr = .inr (e, q) ∧ RS g b T q ∧ DR g (E ++ e) ∧ g 755 13 = nI d ∧ thP rr f = apP e (f q)) := by
  cases rr with
  | inl p => exact Or.inl ⟨z.1, rfl, z.2⟩
  | inr u =>
    obtain ⟨e, q⟩ := u
    exact Or.inr ⟨z.1, e, q, rfl, z.2.1, z.2.2.1, z.2.2.2, rfl⟩
theorem N_emits (t : TSr h) (D : DR g E) (hl : E.length < 400) : ∃ g', f_Model_emits (uI h g) 755 v u = some (uI h g') ∧ FQ g g' ∧ g' 755 10 = g 755 10 ∧ g' 755 11 = g 755 11 ∧ g' 755 12 = g 755 12 ∧ g' 755 13 = g 755 13 ∧ ∀ s n, v = nI s → u = nI n → DR g' (E ++ [(s, n)]) := by
  have s7 : ∀ g, hS (uI h g) 755 = 11 := fun g => t.1
  have r1 : ∀ g, hR (uI h g) 755 1 = 756 := fun g => t.2.1.1
  have sa : ∀ g, hS (uI h g) 756 = 20 := fun g => t.2.2.1.1
  have la' : ∀ g, hL (uI h g) 756 = 2291 := fun g => t.2.2.1.2
  refine ⟨up2 (up2 (up2 g 756 (1491 + 2 * E.length) v) 756 (1492 + 2 * E.length) u) 755 16 (nI (E.length + 1)), ?_, ⟨fun r h1 h2 => by rw [up_row h1, up_row h2, up_row h2], fun j h1 h2 h3 h4 => by rw [up_k h4, up_row (by decide), up_row (by decide)], fun k hk => by rw [up_r (by decide), up_k (by omega), up_k (by omega)]⟩, ?_, ?_, ?_, ?_, fun s n e1 e2 => ⟨?_, fun i s' n' hi => ?_⟩⟩
  · unfold f_Model_emits f_Model_emits_b0
    rw [if_pos (s7 _), r1, if_pos (sa _), la', hI_u, D.1, show (2 : Int32) = nI 2 from rfl, nI_mul, show (1491 : Int32) = nI 1491 from rfl, nI_add, if_pos (ib_n (by omega) (by decide)), ix_n (by omega), wr_s, sI_u, r1, if_pos (sa _), la', hI_u, up_r (by decide), D.1, nI_mul, nI_add, nI_1, show 1491 + 2 * E.length + 1 = 1492 + 2 * E.length from by omega, if_pos (ib_n (by omega) (by decide)), ix_n (by omega), wr_s, sI_u, hI_u, up_r (by decide), up_r (by decide), D.1, wr_s, sI_u, nI_1]
  · rw [up_k (by decide), up_row (by decide), up_row (by decide)]
  · rw [up_k (by decide), up_row (by decide), up_row (by decide)]
  · rw [up_k (by decide), up_row (by decide), up_row (by decide)]
  · rw [up_k (by decide), up_row (by decide), up_row (by decide)]
  · rw [up_eq, List.length_append]; rfl
  · by_cases q : i < E.length
    · rw [List.getElem?_append_left q] at hi
      constructor
      · rw [up_r (by decide), up_k (by omega), up_k (by omega)]; exact (D.2 i s' n' hi).1
      · rw [up_r (by decide), up_k (by omega), up_k (by omega)]; exact (D.2 i s' n' hi).2
    · by_cases q2 : i = E.length
      · subst q2
        rw [List.getElem?_append_right (Nat.le_refl _), Nat.sub_self] at hi
        cases hi
        constructor
        · rw [up_r (by decide), up_k (by omega), up_eq]; exact e1
        · rw [up_r (by decide), up_eq]; exact e2
      · rw [List.getElem?_eq_none (by rw [List.length_append]; show E.length + 1 ≤ i; omega)] at hi
        cases hi
/-- a step is written -/
theorem N_emit (t : TSr h) (R : RS g b T p) (D : DR g E) (hl : E.length < 400) (e1 : v = nI s) (e2 : u = nI n) : ∃ g', f_Model_emits (uI h g) 755 v u = some (uI h g') ∧ RS g' b T p ∧ DR g' (E ++ [(s, n)]) ∧ g' 755 13 = g 755 13 ∧ FQ g g' := by
  obtain ⟨g', z1, z2, z3, z4, z5, z6, z7⟩ := N_emits (v := v) (u := u) t D hl
  refine ⟨g', z1, R.fr (fun r hr => by rw [hr]; exact z2.1 761 (by decide) (by decide)) (fun j hj => ?_), z7 s n e1 e2, z6, z2⟩
  rcases hj with rfl | rfl
  · exact z3
  · exact z4
theorem N_part (t : TSr h) (R : RS g b T p) (D : DR g E) (hl : E.length < 400) : (cdT b T p < 1005 ∧ p < T ∧ ∃ g', f_Model_readPart (uI h g) 755 = some (1, uI h g') ∧ RS g' b T (nx b T p) ∧ DR g' (E ++ [ptC (cdT b T p)]) ∧ g' 755 13 = g 755 13 ∧ FQ g g') ∨ (¬ cdT b T p < 1005 ∧ ∃ g', f_Model_readPart (uI h g) 755 = some (0, uI h g') ∧ g' 755 12 = nI p ∧ FQ g g') := by
  have s7 : ∀ g, hS (uI h g) 755 = 11 := fun g => t.1
  have hT := R.1.2.1
  have hp := R.le
  obtain ⟨g1, a1, a2, a3⟩ := N_letters t R
  have D1 := D.fb a3
  have b100 : ∀ k, k < 5 → cdT b T p = 1000 + k → ∃ g', f_Model_readPart_b100 (uI h g1) 755 (nI k) = some (1, uI h g') ∧ RS g' b T (nx b T p) ∧ DR g' (E ++ [ptC (cdT b T p)]) ∧ g' 755 13 = g 755 13 ∧ FQ g g' := by
    intro k hk ek
    obtain ⟨R1, -⟩ := a2.nx (i := k) (by omega) ek
    obtain ⟨g2, b1, b2, b3, b4, b5⟩ := N_emit (v := nI k) (u := 0) (s := k) (n := 0) t R1 D1 hl rfl rfl
    have ept : ptC (cdT b T p) = (k, 0) := by
      unfold ptC
      rw [if_neg (by omega), ek, show 1000 + k - 1000 = k from by omega]
    refine ⟨g2, ?_, b2, by rw [ept]; exact b3, b4.trans (a3.2 13 (by decide) (by decide)), a3.fq.tr b5⟩
    unfold f_Model_readPart_b100 f_Model_readPart_b107
    rw [if_pos (s7 _), b1, bV_s, if_neg (nI_pos (by omega))]
  have h1 := sc_le (P := lB b) (T := T) p
  have h2 := sc_T (P := lB b) (T := T) p hp
  by_cases c : sc (lB b) T p = p
  · have nl : ¬ (p < T ∧ lB b p = true) := fun z => by
      rw [sc_yes z.1 z.2] at c
      have := sc_le (P := lB b) (T := T) (p + 1)
      omega
    have R1 : RS g1 b T p := ⟨a2.1, p, hp, by rw [a2.2.2.2.1, c], R.bkk⟩
    rcases N_number (x := 0) (y := 999) (lo := 0) (hi := 1000) t R1 (by decide) (by decide) rfl (by decide) with ⟨-, c3, hq, g2, b1, b2, b3⟩ | ⟨c3, g2, b1, b2, b3⟩
    · obtain ⟨g3, d1, d2, d3, d4, d5⟩ := N_emit (v := 9) (u := nI (cdT b T p)) (s := 9) (n := cdT b T p) t b2 (D1.fb b3) hl rfl rfl
      refine Or.inl ⟨by omega, hq, g3, ?_, d2, ?_, ?_, a3.fq.tr (b3.fq.tr d5)⟩
      · unfold f_Model_readPart f_Model_readPart_b0 f_Model_readPart_b107
        rw [if_pos (s7 _), a1, bV_s, if_pos (s7 _), hI_u, a2.2.2.2.1, a2.2.2.2.2, c, if_pos rfl, b1, bI_s, if_pos (s7 _), d1, bV_s, if_neg (nI_pos (by omega))]
      · rw [show ptC (cdT b T p) = (9, cdT b T p) from if_pos c3]; exact d3
      · rw [d4, b3.2 13 (by decide) (by decide), a3.2 13 (by decide) (by decide)]
    · have c4 : ¬ cdT b T p < 1005 := by
        rcases cd_all b T p with ⟨-, a⟩ | ⟨z1, z2, -⟩ | ⟨-, -, a⟩ | ⟨-, -, -, a⟩
        · omega
        · exact absurd ⟨z1, z2⟩ nl
        · omega
        · omega
      obtain ⟨g3, d1, d2, d3, d4, d5, d6, d7⟩ := N_emits (v := 9) (u := -1) t (D1.fb b3) hl
      refine Or.inr ⟨c4, g3, ?_, d5.trans b2, a3.fq.tr (b3.fq.tr d2)⟩
      unfold f_Model_readPart f_Model_readPart_b0 f_Model_readPart_b107
      rw [if_pos (s7 _), a1, bV_s, if_pos (s7 _), hI_u, a2.2.2.2.1, a2.2.2.2.2, c, if_pos rfl, b1, bI_s, if_pos (s7 _), d1, bV_s, if_pos (by decide)]
  · have c' : ¬ nI (sc (lB b) T p) = nI p := fun z => c ((nI_eq (by omega) (by omega)).mp z)
    have hl' : p < T ∧ lB b p = true := by
      by_cases q : p < T
      · refine ⟨q, Classical.byContradiction fun z => c (sc_no z)⟩
      · exact absurd (sc_end (by omega)) c
    have start : f_Model_readPart (uI h g) 755 = (if cdT b T p = 1000 + 0 then f_Model_readPart_b100 (uI h g1) 755 (nI 0) else if cdT b T p = 1000 + 1 then f_Model_readPart_b100 (uI h g1) 755 (nI 1) else if cdT b T p = 1000 + 2 then f_Model_readPart_b100 (uI h g1) 755 (nI 2) else if cdT b T p = 1000 + 3 then f_Model_readPart_b100 (uI h g1) 755 (nI 3) else if cdT b T p = 1000 + 4 then f_Model_readPart_b100 (uI h g1) 755 (nI 4) else f_Model_readPart_b100 (uI h g1) 755 (-1)) := by
      unfold f_Model_readPart f_Model_readPart_b0
      rw [if_pos (s7 _), a1, bV_s, if_pos (s7 _), hI_u, a2.2.2.2.1, a2.2.2.2.2, if_neg c', N_isWord (k := 43) (i := 0) t a2 (by decide), bI_s]
      by_cases c0 : cdT b T p = 1000 + 0
      · rw [if_pos c0, if_pos c0, if_neg (by decide)]; rfl
      · rw [if_neg c0, if_neg c0, if_pos rfl, if_pos (s7 _), N_isWord (k := 44) (i := 1) t a2 (by decide), bI_s]
        by_cases c1 : cdT b T p = 1000 + 1
        · rw [if_pos c1, if_pos c1, if_neg (by decide)]; rfl
        · rw [if_neg c1, if_neg c1, if_pos rfl, if_pos (s7 _), N_isWord (k := 29) (i := 2) t a2 (by decide), bI_s]
          by_cases c2 : cdT b T p = 1000 + 2
          · rw [if_pos c2, if_pos c2, if_neg (by decide)]; rfl
          · rw [if_neg c2, if_neg c2, if_pos rfl, if_pos (s7 _), N_isWord (k := 45) (i := 3) t a2 (by decide), bI_s]
            by_cases c3 : cdT b T p = 1000 + 3
            · rw [if_pos c3, if_pos c3, if_neg (by decide)]; rfl
            · rw [if_neg c3, if_neg c3, if_pos rfl, if_pos (s7 _), N_isWord (k := 46) (i := 4) t a2 (by decide), bI_s]
              by_cases c4 : cdT b T p = 1000 + 4
              · rw [if_pos c4, if_pos c4, if_neg (by decide)]; rfl
              · rw [if_neg c4, if_neg c4, if_pos rfl]
    rw [start]
    by_cases c0 : cdT b T p = 1000 + 0
    · rw [if_pos c0]; exact Or.inl ⟨by omega, hl'.1, b100 0 (by decide) c0⟩
    · rw [if_neg c0]
      by_cases c1 : cdT b T p = 1000 + 1
      · rw [if_pos c1]; exact Or.inl ⟨by omega, hl'.1, b100 1 (by decide) c1⟩
      · rw [if_neg c1]
        by_cases c2 : cdT b T p = 1000 + 2
        · rw [if_pos c2]; exact Or.inl ⟨by omega, hl'.1, b100 2 (by decide) c2⟩
        · rw [if_neg c2]
          by_cases c3 : cdT b T p = 1000 + 3
          · rw [if_pos c3]; exact Or.inl ⟨by omega, hl'.1, b100 3 (by decide) c3⟩
          · rw [if_neg c3]
            by_cases c4 : cdT b T p = 1000 + 4
            · rw [if_pos c4]; exact Or.inl ⟨by omega, hl'.1, b100 4 (by decide) c4⟩
            · rw [if_neg c4]
              have big : ¬ cdT b T p < 1005 := by
                rcases cd_all b T p with ⟨-, a⟩ | ⟨-, -, ⟨i, a, a'⟩ | a⟩ | ⟨-, z, -⟩ | ⟨-, z, -, -⟩
                · omega
                · omega
                · omega
                · exact absurd z (l_nd hl'.2)
                · exact absurd hl'.2 z
              obtain ⟨g3, d1, d2, d3, d4, d5, d6, d7⟩ := N_emits (v := -1) (u := 0) t D1 hl
              refine Or.inr ⟨big, g3, ?_, d5.trans a2.2.2.2.2, a3.fq.tr d2⟩
              unfold f_Model_readPart_b100 f_Model_readPart_b107
              rw [if_pos (s7 _), d1, bV_s, if_pos (by decide)]
theorem N_sum_L (t : TSr h) : ∀ (m p : Nat) (E : List (Nat × Nat)) (g : Nat → Nat → Int32), T < p + m → E.length < p → RS g b T p → DR g E → g 755 13 = nI d → ∀ q, ∃ v g', f_Model_readSum_L9 (q + m + 1) (uI h g) 755 = some (v, uI h g') ∧ NW (if cdT b T p = 2043 then suP b T m [(10, 0)] (nx b T p) else .inr ([], p)) E d v g' b T ∧ FQ g g' := by
  have s7 : ∀ g, hS (uI h g) 755 = 11 := fun g => t.1
  intro m
  induction m with
  | zero => intro p E g hm _ R; have := R.le; omega
  | succ m ih =>
    intro p E g hm hE R D d13 q
    have hT := R.1.2.1
    have hp := R.le
    have E0 : f_Model_readSum_L9 (q + (m + 1) + 1) (uI h g) 755 = f_Model_readSum_b9 (f_Model_readSum_L9 (q + m + 1)) (uI h g) 755 := rfl
    rw [E0]
    unfold f_Model_readSum_b9
    rw [if_pos (s7 _)]
    rcases N_sign (x := 43) (c := 43) t R (by decide) (by decide) (by decide) rfl with ⟨c, hq, g1, a1, a2, a3⟩ | ⟨c, g1, a1, a2, -, a3⟩
    · have n1 := nx_lt (b := b) hq
      rw [a1, bI_s, if_neg (by decide), if_pos (s7 _), if_pos (show cdT b T p = 2043 from c)]
      unfold suP
      rcases N_part t a2 (D.fb a3) (by omega) with ⟨c2, hq2, g2, b1, b2, b3, b4, b5⟩ | ⟨c2, g2, b1, b2, b3⟩
      · have n2 := nx_lt (b := b) hq2
        obtain ⟨g3, k1, k2, k3, k4, k5⟩ := N_emit (v := 10) (u := 0) (s := 10) (n := 0) t b2 b3 (by rw [List.length_append]; show E.length + 1 < 400; omega) rfl rfl
        obtain ⟨v, g4, z1, z2, z3⟩ := ih (nx b T (nx b T p)) (E ++ [ptC (cdT b T (nx b T p))] ++ [(10, 0)]) g3 (by omega) (by rw [List.length_append, List.length_append]; show E.length + 1 + 1 < _; omega) k2 k3 (by rw [k4, b4, a3.2 13 (by decide) (by decide)]; exact d13) q
        refine ⟨v, g4, ?_, ?_, a3.fq.tr (b5.tr (k5.tr z3))⟩
        · rw [b1, bI_s, if_neg (by decide), if_pos (s7 _), k1, bV_s]
          exact z1
        · rw [if_pos c2]
          refine NW.ap ?_
          rw [List.append_assoc] at z2
          exact z2
      · refine ⟨0, g2, ?_, ?_, a3.fq.tr b3⟩
        · rw [b1, bI_s, if_pos rfl]
        · rw [if_neg c2]; exact ⟨rfl, b2⟩
    · rw [a1, bI_s, if_pos rfl, if_neg (show ¬ cdT b T p = 2043 from c)]
      exact ⟨1, g1, rfl, ⟨rfl, a2, by rw [List.append_nil]; exact D.fb a3, a3.d13 d13⟩, a3.fq⟩
theorem N_sum (t : TSr h) (R : RS g b T p) (D : DR g E) (d13 : g 755 13 = nI d) (hE : E.length < p) : ∃ v g', f_Model_readSum (uI h g) 755 = some (v, uI h g') ∧ NW (suP b T 401 [] p) E d v g' b T ∧ FQ g g' := by
  have s7 : ∀ g, hS (uI h g) 755 = 11 := fun g => t.1
  have hT := R.1.2.1
  have hp := R.le
  unfold f_Model_readSum f_Model_readSum_b0 suP
  rw [if_pos (s7 _)]
  rcases N_part t R D (by omega) with ⟨c2, hq2, g2, b1, b2, b3, b4, b5⟩ | ⟨c2, g2, b1, b2, b3⟩
  · have n2 := nx_lt (b := b) hq2
    obtain ⟨v, g4, z1, z2, z3⟩ := N_sum_L (d := d) t 400 (nx b T p) (E ++ [ptC (cdT b T p)]) g2 (by omega) (by rw [List.length_append]; show E.length + 1 < _; omega) b2 b3 (b4.trans d13) 999599
    refine ⟨v, g4, ?_, ?_, b5.tr z3⟩
    · rw [b1, bI_s, if_neg (by decide)]
      exact z1
    · rw [if_pos c2]
      exact NW.ap z2
  · refine ⟨0, g2, ?_, ?_, b3⟩
    · rw [b1, bI_s, if_pos rfl]
    · rw [if_neg c2]; exact ⟨rfl, b2⟩
end U59
