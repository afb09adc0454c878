/-! ===== law ===== -/
section U65
variable {h h' : Hp} {g g' g1 g2 G : Nat → Nat → Int32} {w w' : Nat → Int32} {b : Nat → Nat} {T p q n i j k m c s r d S M A a z B : Nat} {e es x E : List (Nat × Nat)} {v y u : Int32} {L l : List (Nat × List (Nat × Nat))}
/-- the bytes of the tape as numbers -/
def bTa (g : Nat → Nat → Int32) (k : Nat) : Nat := ix ((g 761 k) &&& (255 : Int32))
theorem bT_BY (h1 : -128 ≤ y.toInt) (h2 : y.toInt ≤ 127) : BY y (ix (y &&& (255 : Int32))) ∧ y &&& (255 : Int32) = nI (ix (y &&& (255 : Int32))) ∧ ix (y &&& (255 : Int32)) < 256 := by
  rcases by_ex h1 h2 with ⟨n, hn, e1, e2⟩ | ⟨n, hn, e1, e2⟩
  · have e3 : ix (y &&& (255 : Int32)) = n := by rw [e2, ix_n (by omega)]
    rw [e3]
    exact ⟨Or.inl ⟨hn, e1⟩, e2, by omega⟩
  · have e3 : ix (y &&& (255 : Int32)) = n + 128 := by rw [e2, ix_n (by omega)]
    rw [e3]
    refine ⟨Or.inr ⟨by omega, by omega, ?_⟩, e2, by omega⟩
    rw [e1, Int32.lt_iff_toInt_lt, sub_128 hn]
    show (n : Int) - 128 < 0
    omega
/-- the reference reads a whole law -/
theorem N_readLaw (t : TSr h) (e9 : g 755 9 = nI T) (hT : T ≤ 400) (hb : ∀ k, k < T → BY (g 761 k) (b k)) : ∃ v g', f_Model_readAll (uI h g) 755 0 = some (v, uI h g') ∧ NLt (laT b T) [] v g' ∧ FZr (usg g) g' := by
  have s7 : ∀ g, hS (uI h g) 755 = 11 := fun g => t.1
  have F1 : FZr (usg g) (up2 (usg g) 755 16 0) := ⟨fun r h1 h2 => up_row h1, fun j _ _ _ h4 => up_k h4, fun k hk => up_r (by decide)⟩
  have R : RS (up2 (usg g) 755 16 0) b T (bk b T 0) := ⟨⟨by rw [up_k (by decide), us_11]; exact e9, hT, fun k hk => by rw [up_row (by decide), us_r (by decide)]; exact hb k hk⟩, 0, Nat.zero_le _, by rw [up_k (by decide)]; exact us_10, rfl⟩
  have D0 : DL (up2 (usg g) 755 16 0) [] := fun k w es hk => by cases hk
  have S0 : DR (up2 (usg g) 755 16 0) (stpL []) := ⟨up_eq, fun i s n hi => by cases hi⟩
  obtain ⟨g1, a1, a2, a3, a4, a5, -, -⟩ := N_semi t R
  have pT := R.le
  unfold f_Model_readAll f_Model_readAll_b0 laT
  rw [if_pos (s7 _), M_uses t, bV_s, if_pos (s7 _), wr_s, sI_u, a1, bV_s, if_pos (s7 _), hI_u, a2, a3]
  by_cases c : cdT b T (bk b T 0) = 3000
  · have ce := (cd_3000 R.1.b8 pT).mp c
    rw [if_pos (by rw [ce]), if_pos c]
    exact ⟨0, g1, rfl, ⟨rfl, D0.fq (Nat.zero_le _) a5.fq, S0.fb a5⟩, F1.tr a5.fq.z⟩
  · have ce : ¬ nI (bk b T 0) = nI T := fun z => c ((cd_3000 R.1.b8 pT).mpr ((nI_eq (by omega) (by omega)).mp z))
    rw [if_neg ce, if_neg c]
    have R1 : RS g1 b T (bk b T 0) := ⟨R.1.fb a5, bk b T 0, pT, a2, R.bkk⟩
    obtain ⟨v, g2, z1, z2, z3⟩ := N_lread_L t 12 (bk b T 0) [] g1 rfl (Nat.zero_le _) R1 (D0.fq (Nat.zero_le _) a5.fq) (S0.fb a5) 999987
    exact ⟨v, g2, z1, z2, F1.tr (a5.fq.z.tr z3)⟩
theorem N_law_L (t : TSr h) : ∀ (j i : Nat) (g : Nat → Nat → Int32), i + j = 837 → ∀ q, ∃ g', f_Model_law_L52 (q + j + 1) (uI h g) 755 v (nI i) = some (v, uI h g') ∧ g' 756 3 = 1 ∧ (∀ k, i ≤ k → k < 837 → g' 756 (617 + k) = g 756 (1454 + k)) ∧ (∀ k, k ≠ 3 → (k < 617 + i ∨ 1454 ≤ k) → g' 756 k = g 756 k) ∧ ∀ r, r ≠ 756 → g' r = g r := by
  have s7 : ∀ g, hS (uI h g) 755 = 11 := fun g => t.1
  have r1 : ∀ g, hR (uI h g) 755 1 = 756 := fun g => t.2.1.1
  have sa : ∀ g, hS (uI h g) 756 = 20 := fun g => t.2.2.1.1
  have la' : ∀ g, hL (uI h g) 756 = 2291 := fun g => t.2.2.1.2
  intro j
  induction j with
  | zero =>
    intro i g hi q
    have hi : i = 837 := hi
    refine ⟨up2 g 756 3 1, ?_, up_eq, fun k h1 h2 => by omega, fun k h1 h2 => up_k h1, fun r hr => up_row hr⟩
    show f_Model_law_b52 (f_Model_law_L52 q) (uI h g) 755 v (nI i) = _
    unfold f_Model_law_b52
    rw [hi, if_pos (by decide), if_pos (s7 _), r1, if_pos (sa _), la', if_pos (by decide), show ix (3 : Int32) = 3 from rfl, wr_s, sI_u]
  | succ j ih =>
    intro i g hi q
    obtain ⟨g', z1, z2, z3, z4, z5⟩ := ih (i + 1) (up2 g 756 (617 + i) (g 756 (1454 + i))) (by omega) q
    refine ⟨g', ?_, z2, fun k h1 h2 => ?_, fun k h1 h2 => ?_, fun r hr => (z5 r hr).trans (up_row hr)⟩
    · show f_Model_law_b52 (f_Model_law_L52 (q + j + 1)) (uI h g) 755 v (nI i) = _
      unfold f_Model_law_b52
      rw [if_neg (show ¬ (837 : Int32) ≤ nI i from nI_ge (b := 837) (by omega) (by decide)), if_pos (s7 _), r1, if_pos (sa _), la', show (1454 : Int32) = nI 1454 from rfl, show (617 : Int32) = nI 617 from rfl, nI_add, nI_add, if_pos (ib_n (by omega) (by decide)), if_pos (ib_n (by omega) (by decide)), ix_n (by omega), ix_n (by omega), hI_u, wr_s, sI_u, nI_1]
      exact z1
    · by_cases q : k = i
      · subst q
        rw [z4 _ (by omega) (by omega), up_eq]
      · rw [z3 k (by omega) h2, up_k (by omega)]
    · rw [z4 k h1 (by omega), up_k (by omega)]
/-- a law of the reference -/
theorem N_law (t : TSr h) (e9 : g 755 9 = nI T) (hT : T ≤ 400) (hb : ∀ k, k < T → BY (g 761 k) (b k)) : ∃ v g', f_Model_law (uI h g) 755 = some (v, uI h g') ∧ (∀ r, r ≠ 755 → r ≠ 756 → g' r = g r) ∧ g' 755 9 = 0 ∧ g' 755 6 = g 755 6 ∧ g' 755 7 = g 755 7 ∧ ((∃ q, laT b T = .inl q ∧ v = 0 ∧ g' 755 0 = 1 ∧ g' 755 14 = nI q ∧ ∀ k, k < 1454 → g' 756 k = g 756 k) ∨ (∃ L, laT b T = .inr L ∧ v = nI L.length ∧ g' 755 0 = 0 ∧ g' 755 14 = -1 ∧ (∀ k, k < 617 → k ≠ 3 → g' 756 k = g 756 k) ∧ g' 756 3 = 1 ∧ TLw (g' 756) L)) := by
  have s7 : ∀ g, hS (uI h g) 755 = 11 := fun g => t.1
  have r1 : ∀ g, hR (uI h g) 755 1 = 756 := fun g => t.2.1.1
  have sa : ∀ g, hS (uI h g) 756 = 20 := fun g => t.2.2.1.1
  have la' : ∀ g, hL (uI h g) 756 = 2291 := fun g => t.2.2.1.2
  obtain ⟨v, g1, a1, a2, a3⟩ := N_readLaw t e9 hT hb
  have x1 : ∀ r, r ≠ 755 → r ≠ 756 → g1 r = g r := fun r h1 h2 => (a3.1 r h1 h2).trans (us_r h1)
  have j9 : g1 755 9 = 0 := (a3.2.1 9 (by decide) (by decide) (by decide) (by decide)).trans us_9
  have j6 : g1 755 6 = g 755 6 := (a3.2.1 6 (by decide) (by decide) (by decide) (by decide)).trans (us_j (by decide) (by decide) (by decide) (by decide))
  have j7 : g1 755 7 = g 755 7 := (a3.2.1 7 (by decide) (by decide) (by decide) (by decide)).trans (us_j (by decide) (by decide) (by decide) (by decide))
  have j0 : g1 755 0 = 0 := (a3.2.1 0 (by decide) (by decide) (by decide) (by decide)).trans us_0
  have xk : ∀ k, k < 1454 → g1 756 k = g 756 k := fun k hk => (a3.2.2 k (by omega)).trans (by rw [us_r (by decide)])
  unfold f_Model_law f_Model_law_b0
  rw [if_pos (s7 _), a1, bI_s]
  cases hr : laT b T with
  | inl q =>
    rw [hr] at a2
    obtain ⟨rfl, a2⟩ := a2
    refine ⟨0, up2 (up2 g1 755 14 (nI q)) 755 0 1, ?_, fun r h1 h2 => by rw [up_row h1, up_row h1]; exact x1 r h1 h2, by rw [up_k (by decide), up_k (by decide)]; exact j9, by rw [up_k (by decide), up_k (by decide)]; exact j6, by rw [up_k (by decide), up_k (by decide)]; exact j7, Or.inl ⟨q, rfl, rfl, up_eq, by rw [up_k (by decide), up_eq], fun k hk => by rw [up_row (by decide), up_row (by decide)]; exact xk k hk⟩⟩
    unfold f_Model_law_b19 f_Model_law_b32
    rw [if_neg (by decide), if_pos (s7 _), if_pos (s7 _), hI_u, a2, wr_s, sI_u, if_neg (by decide), if_pos (s7 _), N_thr1 t, bI_s, if_neg (by decide)]
  | inr L =>
    rw [hr] at a2
    obtain ⟨rfl, b1, b2⟩ := a2
    rw [List.nil_append] at b1 b2
    obtain ⟨l12, ok, lT⟩ := laT_ok hr
    obtain ⟨g2, z1, z2, z3, z4, z5⟩ := N_law_L (v := nI ([] ++ L).length) t 837 0 (up2 (up2 g1 755 14 (-1)) 756 1454 (nI ([] ++ L).length)) rfl (999999 - 837)
    rw [← FU_mm (by decide)] at z1
    have w9 : ∀ k, 1454 < k → (up2 (up2 g1 755 14 (-1)) 756 1454 (nI ([] ++ L).length)) 756 k = g1 756 k := fun k hk => by rw [up_k (by omega), up_row (by decide)]
    have r5 : g2 755 = up2 g1 755 14 (-1) 755 := (z5 755 (by decide)).trans (up_row (by decide))
    refine ⟨nI ([] ++ L).length, g2, ?_, fun r h1 h2 => by rw [z5 r h2, up_row h2, up_row h1]; exact x1 r h1 h2, by rw [r5, up_k (by decide)]; exact j9, by rw [r5, up_k (by decide)]; exact j6, by rw [r5, up_k (by decide)]; exact j7, Or.inr ⟨L, rfl, rfl, by rw [r5, up_k (by decide)]; exact j0, by rw [r5, up_eq], fun k hk h3 => ?_, z2, ?_, fun k w es hk => ?_, fun i s n hi => ?_⟩⟩
    · unfold f_Model_law_b19 f_Model_law_b32
      rw [if_pos (nI_pos' (by rw [List.nil_append]; omega)), if_pos (s7 _), wr_s, sI_u, if_pos (nI_pos' (by rw [List.nil_append]; omega)), if_pos (s7 _), N_thr0 t, bI_s, if_pos rfl, if_pos (s7 _), r1, if_pos (sa _), la', if_pos (by decide), show ix (1454 : Int32) = 1454 from rfl, wr_s, sI_u]
      exact z1
    · rw [z4 k h3 (by omega), up_k (by omega), up_row (by decide)]
      exact xk k (by omega)
    · have := z3 0 (Nat.le_refl _) (by decide)
      rw [Nat.add_zero, Nat.add_zero, up_eq, List.nil_append] at this
      exact this
    · have hk' : k < L.length := by
        rcases Nat.lt_or_ge k L.length with z | z
        · exact z
        · rw [List.getElem?_eq_none z] at hk; cases hk
      obtain ⟨c1, c2, c3⟩ := b1 k w es hk
      have y1 := z3 (1 + 3 * k) (by omega) (by omega)
      have y2 := z3 (2 + 3 * k) (by omega) (by omega)
      have y3 := z3 (3 + 3 * k) (by omega) (by omega)
      rw [w9 _ (by omega)] at y1 y2 y3
      rw [show 1454 + (1 + 3 * k) = 1455 + 3 * k from by omega, show 617 + (1 + 3 * k) = 618 + 3 * k from by omega] at y1
      rw [show 1454 + (2 + 3 * k) = 1456 + 3 * k from by omega, show 617 + (2 + 3 * k) = 619 + 3 * k from by omega] at y2
      rw [show 1454 + (3 + 3 * k) = 1457 + 3 * k from by omega, show 617 + (3 + 3 * k) = 620 + 3 * k from by omega] at y3
      rw [y1, y2, y3]
      exact ⟨c1, c2, c3⟩
    · have hi' : i < (stpL L).length := by
        rcases Nat.lt_or_ge i (stpL L).length with z | z
        · exact z
        · rw [List.getElem?_eq_none z] at hi; cases hi
      obtain ⟨c1, c2⟩ := b2.2 i s n hi
      have y1 := z3 (37 + 2 * i) (by omega) (by omega)
      have y2 := z3 (38 + 2 * i) (by omega) (by omega)
      rw [w9 _ (by omega)] at y1 y2
      rw [show 1454 + (37 + 2 * i) = 1491 + 2 * i from by omega, show 617 + (37 + 2 * i) = 654 + 2 * i from by omega] at y1
      rw [show 1454 + (38 + 2 * i) = 1492 + 2 * i from by omega, show 617 + (38 + 2 * i) = 655 + 2 * i from by omega] at y2
      rw [y1, y2]
      exact ⟨c1, c2⟩
end U65
