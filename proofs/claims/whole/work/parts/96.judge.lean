/-! ===== judge ===== -/
section U46
variable {h h1 h0 : Hp} {g g' g1 g2 g0 : Nat → Nat → Int32} {w w' w0 u : Nat → Int32} {A B L S c k n l y j m q i r z E N M M' o T R V : Nat} {v x a b s p1 p2 p3 p4 p5 : Int32} {t3 : Nat → Int32}
theorem s128 : ∀ n, n < 128 → (nI n) &&& (255 : Int32) = nI n ∧ (nI n - 128) &&& (255 : Int32) = nI (n + 128) := by decide +kernel
theorem sub_128 (hn : n < 128) : (nI n - 128).toInt = (n : Int) - 128 := by
  rw [Int32.toInt_sub, nI_toInt (by omega), show (128 : Int32).toInt = 128 from rfl]
  exact Int.bmod_eq_of_le (by omega) (by omega)
/-- a signed byte, and the same without its sign -/
theorem by_ex (h1 : -128 ≤ x.toInt) (h2 : x.toInt ≤ 127) : (∃ n, n < 128 ∧ x = nI n ∧ x &&& (255 : Int32) = nI n) ∨ (∃ n, n < 128 ∧ x = nI n - 128 ∧ x &&& (255 : Int32) = nI (n + 128)) := by
  by_cases e : 0 ≤ x.toInt
  · left
    have q : x = nI x.toInt.toNat := Int32.toInt_inj.mp (by rw [nI_toInt (by omega)]; omega)
    refine ⟨x.toInt.toNat, by omega, q, ?_⟩
    have := (s128 x.toInt.toNat (by omega)).1
    rw [← q] at this
    exact this.trans q
  · right
    have q : x = nI (x.toInt + 128).toNat - 128 := Int32.toInt_inj.mp (by rw [sub_128 (by omega)]; omega)
    refine ⟨(x.toInt + 128).toNat, by omega, q, ?_⟩
    have := (s128 (x.toInt + 128).toNat (by omega)).2
    rw [← q] at this
    exact this
/-- the byte x is one of n things that are counted from o -/
def GB (n o : Nat) (x : Int32) : Prop := ∃ j, j < n ∧ x - nI o = nI j
theorem gb_lo : ∀ n, n < 128 → nI n - 128 - nI 97 < 0 ∧ nI n - 128 - nI 48 < 0 := by decide +kernel
theorem bad_gb (bd : BAD (x - nI o) n) (hn : n < 2 ^ 31) : ¬ GB n o x := fun ⟨j, hj, e⟩ => by
  rw [e] at bd
  rcases bd with q | q
  · exact nI_pos (by omega) q
  · exact nI_ge hj (by omega) q
theorem gb_c (hn : n ≤ 30) (ho : o = 97 ∨ o = 48) (h1 : -128 ≤ x.toInt) (h2 : x.toInt ≤ 127) : (BAD ((x &&& (255 : Int32)) - nI o) n ∧ ¬ GB n o x) ∨ ∃ j, j < n ∧ x - nI o = nI j ∧ (x &&& (255 : Int32)) - nI o = nI j := by
  rcases by_ex h1 h2 with ⟨b, hb, e1, e2⟩ | ⟨b, hb, e1, e2⟩
  · rw [e2, ← e1]
    rcases bad_or (x - nI o) (n := n) (by omega) with bd | ⟨j, hj, e⟩
    · exact Or.inl ⟨bd, bad_gb bd (by omega)⟩
    · exact Or.inr ⟨j, hj, e, e⟩
  · left
    refine ⟨Or.inr ?_, bad_gb (Or.inl ?_) (by omega)⟩
    · rw [e2, pk_sub (by omega)]
      exact nI_le (by omega) (by omega)
    · rw [e1]
      rcases ho with rfl | rfl
      · exact (gb_lo b hb).1
      · exact (gb_lo b hb).2
theorem nI_two : (2 : Int32) * nI i = nI (2 * i) := nI_mul 2 i
theorem C_row_L (t : TS h) (e : g 2 1 = nI T) (hT : T ≤ 400) (hev : T = 2 * m) (e1 : g 569 1 = nI n) (hn : n ≤ 8) (bt : ∀ k, k < T → -128 ≤ (g 3 k).toInt ∧ (g 3 k).toInt ≤ 127) : ∀ (j i : Nat), i + j = m → ∀ q,
    (f_Water_isRowOfDrinks_L16 (q + j + 1) (uI h g) 1 (nI (2 * i)) = some (1, uI h g) ∧ ∀ k, i ≤ k → k < m → GB n 97 (g 3 (2 * k)) ∧ GB 30 48 (g 3 (2 * k + 1))) ∨ (f_Water_isRowOfDrinks_L16 (q + j + 1) (uI h g) 1 (nI (2 * i)) = some (0, uI h g) ∧ ∃ k, i ≤ k ∧ k < m ∧ ¬ (GB n 97 (g 3 (2 * k)) ∧ GB 30 48 (g 3 (2 * k + 1)))) := by
  obtain ⟨⟨w1, w2, -, -, -, w5, -⟩, w6, -⟩ := WTR (g := g) t
  have s2 : hS (uI h g) 2 = 9 := t.td.2.2.1
  intro j
  induction j with
  | zero =>
    intro i hi q
    have hi' : i = m := hi
    subst hi'
    left
    refine ⟨?_, fun k h1 h2 => by omega⟩
    show f_Water_isRowOfDrinks_b16 (f_Water_isRowOfDrinks_L16 q) (uI h g) 1 (nI (2 * i)) = _
    unfold f_Water_isRowOfDrinks_b16
    rw [if_pos w1, w2, if_pos s2, hI_u, e, if_pos (by rw [hev]; exact Int32.le_refl _)]
  | succ j ih =>
    intro i hi q
    have E : f_Water_isRowOfDrinks_L16 (q + (j + 1) + 1) (uI h g) 1 (nI (2 * i)) = f_Water_isRowOfDrinks_b16 (f_Water_isRowOfDrinks_L16 (q + j + 1)) (uI h g) 1 (nI (2 * i)) := rfl
    have F : f_Water_isRowOfDrinks_b16 (f_Water_isRowOfDrinks_L16 (q + j + 1)) (uI h g) 1 (nI (2 * i)) = (if ((g 3 (2 * i)) &&& (255 : Int32)) - nI 97 < 0 then some (0, uI h g) else if nI n ≤ ((g 3 (2 * i)) &&& (255 : Int32)) - nI 97 then some (0, uI h g) else if ((g 3 (2 * i + 1)) &&& (255 : Int32)) - nI 48 < 0 then some (0, uI h g) else if ((g 3 (2 * i + 1)) &&& (255 : Int32)) - nI 48 < (30 : Int32) then f_Water_isRowOfDrinks_L16 (q + j + 1) (uI h g) 1 (nI (2 * (i + 1))) else some (0, uI h g)) := by
      unfold f_Water_isRowOfDrinks_b16
      rw [if_pos w1, w2, if_pos s2, hI_u, e, if_neg (nI_ge (by omega) (by omega)), C_byte t.td.2.2 e hT (by omega), bI_s, if_pos w1, w2, if_pos s2, show nI (2 * i) + (1 : Int32) = nI (2 * i + 1) from nI_add _ _, C_byte t.td.2.2 e hT (by omega), bI_s, if_pos w1, w5, if_pos w6, hI_u, e1, show nI (2 * i) + (2 : Int32) = nI (2 * (i + 1)) from nI_add _ _]
      rfl
    rw [E, F]
    have nx := ih (i + 1) (by omega) q
    rcases gb_c (o := 97) (show n ≤ 30 by omega) (Or.inl rfl) (bt (2 * i) (by omega)).1 (bt (2 * i) (by omega)).2 with ⟨bd, ng⟩ | ⟨a1, h1, h2, h3⟩
    · right
      refine ⟨?_, i, Nat.le_refl _, by omega, fun z => ng z.1⟩
      rcases bd with bd | bd
      · rw [if_pos bd]
      · rw [if_neg (fun z => ?_), if_pos bd]
        have := Int32.lt_of_le_of_lt bd z
        exact nI_pos (by omega) this
    · rw [h3, if_neg (nI_pos (by omega)), if_neg (nI_ge h1 (by omega))]
      rcases gb_c (o := 48) (show 30 ≤ 30 by omega) (Or.inr rfl) (bt (2 * i + 1) (by omega)).1 (bt (2 * i + 1) (by omega)).2 with ⟨bd, ng⟩ | ⟨a2, k1, k2, k3⟩
      · right
        refine ⟨?_, i, Nat.le_refl _, by omega, fun z => ng z.2⟩
        rcases bd with bd | bd
        · rw [if_pos bd]
        · rw [if_neg (show ¬ (g 3 (2 * i + 1) &&& (255 : Int32)) - nI 48 < (0 : Int32) from fun z => nI_pos (n := 30) (by omega) (Int32.lt_of_le_of_lt bd z)), if_neg (show ¬ (g 3 (2 * i + 1) &&& (255 : Int32)) - nI 48 < (30 : Int32) from Int32.not_lt.mpr bd)]
      · rw [k3, if_neg (nI_pos (by omega)), if_pos (show nI a2 < (30 : Int32) from nI_lt k1 (by decide))]
        rcases nx with ⟨n1, n2⟩ | ⟨n1, k, n2, n3, n4⟩
        · refine Or.inl ⟨n1, fun k q1 q2 => ?_⟩
          by_cases ek : k = i
          · subst ek; exact ⟨⟨a1, h1, h2⟩, a2, k1, k2⟩
          · exact n2 k (by omega) q2
        · exact Or.inr ⟨n1, k, by omega, n3, n4⟩
def jdB (H : Hp) (s : Int32) (T : Nat) : Option (Int32 × Hp) := f_Model_judge_b22 (fun _ _ _ _ => none) H 755 s (nI T)
/-- the reference looks at the tape -/
theorem N_row_L (t : TSr h) (e : g 755 11 = nI T) (hT : T ≤ 400) (e1 : g 756 1 = nI n) (hn : n ≤ 8) : ∀ (j i : Nat) (s : Int32), i + j = T → (s = 0 ∨ s = 1) → ∀ q, ∃ s' : Int32, f_Model_judge_L22 (q + j + 1) (uI h g) 755 s (nI i) = jdB (uI h g) s' T ∧
    ((s' = 0 ∧ s = 0 ∧ ∀ k, i ≤ k → k < T → (k % 2 = 0 → GB n 97 (g 761 k)) ∧ (k % 2 = 1 → GB 30 48 (g 761 k))) ∨ (s' = 1 ∧ (s = 1 ∨ ∃ k, i ≤ k ∧ k < T ∧ ¬ ((k % 2 = 0 → GB n 97 (g 761 k)) ∧ (k % 2 = 1 → GB 30 48 (g 761 k)))))) := by
  have s7 : hS (uI h g) 755 = 11 := t.1
  have r8 : hR (uI h g) 755 8 = 761 := t.2.1.2.2.2.2.2.1
  obtain ⟨sa, la'⟩ : hS (uI h g) 761 = 21 ∧ hL (uI h g) 761 = 400 := ⟨t.2.2.2.2.2.2.2.1.1, t.2.2.2.2.2.2.2.1.2⟩
  intro j
  induction j with
  | zero =>
    intro i s hi hs q
    have hi' : i = T := hi
    subst hi'
    refine ⟨s, ?_, ?_⟩
    · show f_Model_judge_b22 (f_Model_judge_L22 q) (uI h g) 755 s (nI i) = _
      unfold jdB f_Model_judge_b22
      rw [if_pos s7, if_pos s7, hI_u, e, if_pos (Int32.le_refl _), if_pos (Int32.le_refl _)]
    · rcases hs with hs | hs
      · exact Or.inl ⟨hs, hs, fun k h1 h2 => by omega⟩
      · exact Or.inr ⟨hs, Or.inl hs⟩
  | succ j ih =>
    intro i s hi hs q
    have E : f_Model_judge_L22 (q + (j + 1) + 1) (uI h g) 755 s (nI i) = f_Model_judge_b22 (f_Model_judge_L22 (q + j + 1)) (uI h g) 755 s (nI i) := rfl
    rw [E]
    have go1 : ∀ s1, s1 = 1 → (s = 1 ∨ ¬ ((i % 2 = 0 → GB n 97 (g 761 i)) ∧ (i % 2 = 1 → GB 30 48 (g 761 i)))) → ∃ s', f_Model_judge_L22 (q + j + 1) (uI h g) 755 s1 (nI (i + 1)) = jdB (uI h g) s' T ∧
        ((s' = 0 ∧ s = 0 ∧ ∀ k, i ≤ k → k < T → (k % 2 = 0 → GB n 97 (g 761 k)) ∧ (k % 2 = 1 → GB 30 48 (g 761 k))) ∨ (s' = 1 ∧ (s = 1 ∨ ∃ k, i ≤ k ∧ k < T ∧ ¬ ((k % 2 = 0 → GB n 97 (g 761 k)) ∧ (k % 2 = 1 → GB 30 48 (g 761 k)))))) := by
      intro s1 h1 hb
      obtain ⟨s', z1, z2⟩ := ih (i + 1) s1 (by omega) (Or.inr h1) q
      refine ⟨s', z1, Or.inr ?_⟩
      rcases z2 with ⟨-, z3, -⟩ | ⟨z3, -⟩
      · rw [h1] at z3; exact absurd z3 (by decide)
      · refine ⟨z3, hb.imp id fun hb => ⟨i, Nat.le_refl _, by omega, hb⟩⟩
    have go0 : s = 0 → ((i % 2 = 0 → GB n 97 (g 761 i)) ∧ (i % 2 = 1 → GB 30 48 (g 761 i))) → ∃ s', f_Model_judge_L22 (q + j + 1) (uI h g) 755 0 (nI (i + 1)) = jdB (uI h g) s' T ∧
        ((s' = 0 ∧ s = 0 ∧ ∀ k, i ≤ k → k < T → (k % 2 = 0 → GB n 97 (g 761 k)) ∧ (k % 2 = 1 → GB 30 48 (g 761 k))) ∨ (s' = 1 ∧ (s = 1 ∨ ∃ k, i ≤ k ∧ k < T ∧ ¬ ((k % 2 = 0 → GB n 97 (g 761 k)) ∧ (k % 2 = 1 → GB 30 48 (g 761 k)))))) := by
      intro h1 hb
      obtain ⟨s', z1, z2⟩ := ih (i + 1) 0 (by omega) (Or.inl rfl) q
      refine ⟨s', z1, ?_⟩
      rcases z2 with ⟨z3, -, z4⟩ | ⟨z3, z4⟩
      · refine Or.inl ⟨z3, h1, fun k q1 q2 => ?_⟩
        by_cases ek : k = i
        · subst ek; exact hb
        · exact z4 k (by omega) q2
      · rcases z4 with z4 | ⟨k, a1, a2, a3⟩
        · exact absurd z4 (by decide)
        · exact Or.inr ⟨z3, Or.inr ⟨k, by omega, a2, a3⟩⟩
    unfold f_Model_judge_b22 f_Model_judge_b78 f_Model_judge_b74 f_Model_judge_b79
    rw [if_pos s7, hI_u, e, if_neg (nI_ge (by omega) (by omega)), show nI i + (1 : Int32) = nI (i + 1) from nI_add _ _]
    rcases hs with hs | hs
    · rw [if_pos hs, show jrem (nI i) (2 : Int32) = nI (i % 2) from jrem_n (d := 2) (by omega) (by decide) (by decide), r8, la', ix_n (by omega)]
      rcases Nat.mod_two_eq_zero_or_one i with ev | od
      · rw [ev, if_pos (show nI 0 = (0 : Int32) from rfl), if_pos sa, if_pos (ib_n (by omega) (by decide))]
        rcases bad_or (g 761 i - nI 97) (n := n) (by omega) with bd | ⟨k, hk, ek⟩
        · rw [show (97 : Int32) = nI 97 from rfl, (N_noH t e1 (by omega)).1 bd, bI_s, if_neg (by decide)]
          exact go1 1 rfl (Or.inr fun z => bad_gb bd (by omega) (z.1 ev))
        · rw [show (97 : Int32) = nI 97 from rfl, ek, (N_noH (x := 0) t e1 (by omega)).2 k hk, bI_s, if_pos rfl]
          exact go0 hs ⟨fun _ => ⟨k, hk, ek⟩, fun z => by omega⟩
      · rw [od, if_neg (show ¬ nI 1 = (0 : Int32) by decide), if_pos sa, if_pos (ib_n (by omega) (by decide))]
        rcases bad_or (g 761 i - nI 48) (n := 30) (by omega) with bd | ⟨k, hk, ek⟩
        · rw [show (48 : Int32) = nI 48 from rfl, N_noY.1 bd, bI_s, if_neg (by decide)]
          exact go1 1 rfl (Or.inr fun z => bad_gb bd (by omega) (z.2 od))
        · rw [show (48 : Int32) = nI 48 from rfl, ek, (N_noY (x := 0)).2 k hk, bI_s, if_pos rfl]
          exact go0 hs ⟨fun z => by omega, fun _ => ⟨k, hk, ek⟩⟩
    · rw [if_neg (by rw [hs]; decide)]
      exact go1 1 rfl (Or.inl hs)
/-- a row of drinks, one by one: the first that isn't lawful -/
def jdF (t : Nat → Int32) : (Nat → Int32) → Nat → Nat → Int32
  | _, _, 0 => -1
  | w, i, j + 1 => if nextW w (atH w (ix (t (2 * i) - nI 97))) = nI (ix (t (2 * i + 1) - nI 48)) ∧ w (35 + ix (t (2 * i + 1) - nI 48)) ≤ w (347 + 34 * ix (t (2 * i) - nI 97)) then jdF t (tkW w (atH w (ix (t (2 * i) - nI 97))) (ix (t (2 * i + 1) - nI 48)) 1) (i + 1) j else nI i
theorem jd_y (W : WF M w) (hc : c < nc w) (hy : y < 30) (e : nextW w c = nI y) : 1 ≤ ly w c y := by
  obtain ⟨y', q1, q2, q3⟩ := next_y (c := c) W.lw (by rw [e]; exact nI_pos (by omega))
  have : y = y' := (nI_eq (by omega) (by omega)).mp (e.symm.trans q2)
  subst this
  exact pc_pos (W.okl hc) hy q3
theorem N_isl (t : TSr h) (e6 : g 756 = w) (W : WF M w) (hk : k < nh w) (hy : y < 30) : ∃ g', f_Model_isLawful (uI h g) 755 (nI k) (nI y) = some (if nextW w (atH w k) = nI y ∧ w (35 + y) ≤ w (347 + 34 * k) then 1 else 0, uI h g') ∧ F3 g g' := by
  have s7 : ∀ g, hS (uI h g) 755 = 11 := fun g => t.1
  have r1 : ∀ g, hR (uI h g) 755 1 = 756 := fun g => t.2.1.1
  have sa : ∀ g, hS (uI h g) 756 = 20 := fun g => t.2.2.1.1
  have la' : ∀ g, hL (uI h g) 756 = 2291 := fun g => t.2.2.1.2
  have h8 := W.2.1.1
  have k8 := W.2.1.2.1
  obtain ⟨-, ⟨a1, a2⟩, -⟩ := W.2.2.2.2.2.2.1 k hk
  have Wc := W.2.2.2.2.2.1 (atH w k) a2
  obtain ⟨g1, q1, q2⟩ := N_next (g := g) t (c := atH w k) (by omega) (by rw [e6]; exact Wc.hk) (fun z => W.lw.resolve_left (by rw [← e6]; exact z) |> fun L => by rw [e6]; exact L)
  have e1 : g1 756 = w := (q2 756 (by decide)).trans e6
  have o1 : f_Model_ofHouse (uI h g) 755 (nI k) (1 : Int32) = some (nI (atH w k), uI h g) := by
    have := N_oh (g := g) t (k := k) (j := 1) (by omega) (by decide)
    rw [e6, show 345 + 34 * k + 1 = 346 + 34 * k from by omega, a1] at this
    exact this
  have o2 : f_Model_ofHouse (uI h g1) 755 (nI k) (2 : Int32) = some (w (347 + 34 * k), uI h g1) := by
    have := N_oh (g := g1) t (k := k) (j := 2) (by omega) (by decide)
    rw [e1, show 345 + 34 * k + 2 = 347 + 34 * k from by omega] at this
    exact this
  rw [e6] at q1
  refine ⟨g1, ?_, q2⟩
  unfold f_Model_isLawful f_Model_isLawful_b0
  rw [if_pos (s7 _), o1, bI_s, if_pos (s7 _), q1, bI_s]
  by_cases c1 : nextW w (atH w k) = nI y
  · rw [if_pos c1, if_pos (s7 _), r1, if_pos (sa _), la', show (35 : Int32) + nI y = nI (35 + y) from nI_add _ _, if_pos (ib_n (by omega) (by decide)), o2, bI_s, ix_n (by omega), hI_u, e1]
    by_cases c2 : w (35 + y) ≤ w (347 + 34 * k)
    · rw [if_neg (Int32.not_lt.mpr c2), if_pos ⟨c1, c2⟩]
    · rw [if_pos (Int32.not_le.mp c2), if_neg (fun z => c2 z.2)]
  · rw [if_neg c1, if_neg (fun z => c1 z.1)]
theorem N_jd_L (t : TSr h) (hT : 2 * m ≤ 400) : ∀ (j i : Nat) (g : Nat → Nat → Int32) (w : Nat → Int32), i + j = m → g 756 = w → WF M w → g 755 11 = nI (2 * m) → (∀ k, i ≤ k → k < m → GB (nh w) 97 (g 761 (2 * k)) ∧ GB 30 48 (g 761 (2 * k + 1))) → ∀ q,
    ∃ g', f_Model_judge_L105 (q + j + 2) (uI h g) 755 (-1) (nI i) = f_Model_judge_b183 (uI h g') 755 (jdF (g 761) w i j) ∧ (∀ k, 617 ≤ k → g' 756 k = w k) ∧ FN g g' := by
  have s7 : ∀ g, hS (uI h g) 755 = 11 := fun g => t.1
  have r8 : ∀ g, hR (uI h g) 755 8 = 761 := fun g => t.2.1.2.2.2.2.2.1
  have sa : ∀ g, hS (uI h g) 761 = 21 := fun g => t.2.2.2.2.2.2.2.1.1
  have la' : ∀ g, hL (uI h g) 761 = 400 := fun g => t.2.2.2.2.2.2.2.1.2
  have hd : nI (2 * m) / (2 : Int32) = nI m := by
    rw [show (2 : Int32) = nI 2 from rfl, pk_div (by omega) (by decide) (by decide), Nat.mul_div_cancel_left _ (by decide)]
  intro j
  induction j with
  | zero =>
    intro i g w hi e6 W e11 G q
    have hi' : i = m := hi
    subst hi'
    refine ⟨g, ?_, fun k _ => by rw [e6], FN.rf⟩
    show f_Model_judge_b105 (f_Model_judge_L105 (q + 1)) (uI h g) 755 (-1) (nI i) = _
    unfold f_Model_judge_b105
    rw [if_pos (s7 _), hI_u, e11, hd, if_pos (Int32.le_refl _)]
    rfl
  | succ j ih =>
    intro i g w hi e6 W e11 G q
    have E : f_Model_judge_L105 (q + (j + 1) + 2) (uI h g) 755 (-1) (nI i) = f_Model_judge_b105 (f_Model_judge_L105 (q + j + 2)) (uI h g) 755 (-1) (nI i) := rfl
    obtain ⟨⟨k, hk, ek⟩, y, hy, ey⟩ := G i (Nat.le_refl _) (by omega)
    obtain ⟨g1, q1, q2⟩ := N_isl (g := g) t e6 W hk hy
    have e1 : g1 756 = w := (q2 756 (by decide)).trans e6
    have h8 := W.2.1.1
    have k8 := W.2.1.2.1
    obtain ⟨-, ⟨a1, a2⟩, -⟩ := W.2.2.2.2.2.2.1 k hk
    have D : jdF (g 761) w i (j + 1) = (if nextW w (atH w k) = nI y ∧ w (35 + y) ≤ w (347 + 34 * k) then jdF (g 761) (tkW w (atH w k) y 1) (i + 1) j else nI i) := by
      show (if nextW w (atH w (ix (g 761 (2 * i) - nI 97))) = nI (ix (g 761 (2 * i + 1) - nI 48)) ∧ w (35 + ix (g 761 (2 * i + 1) - nI 48)) ≤ w (347 + 34 * ix (g 761 (2 * i) - nI 97)) then jdF (g 761) (tkW w (atH w (ix (g 761 (2 * i) - nI 97))) (ix (g 761 (2 * i + 1) - nI 48)) 1) (i + 1) j else nI i) = _
      rw [ek, ey, ix_n (by omega), ix_n (by omega)]
    rw [E, D]
    unfold f_Model_judge_b105 f_Model_judge_b177
    rw [if_pos (s7 _), hI_u, e11, hd, if_neg (nI_ge (by omega) (by omega)), if_neg (show ¬ (0 : Int32) ≤ -1 by decide), r8, if_pos (sa _), la', nI_two, if_pos (ib_n (by omega) (by decide)), show nI (2 * i) + (1 : Int32) = nI (2 * i + 1) from nI_add _ _, if_pos (ib_n (by omega) (by decide)), ix_n (by omega), ix_n (by omega), show (97 : Int32) = nI 97 from rfl, show (48 : Int32) = nI 48 from rfl, ek, ey, q1, bI_s, show nI i + (1 : Int32) = nI (i + 1) from nI_add _ _]
    by_cases cc : nextW w (atH w k) = nI y ∧ w (35 + y) ≤ w (347 + 34 * k)
    · have l1 := jd_y W a2 hy cc.1
      obtain ⟨g2, z1, z2, z3⟩ := N_take (g := g1) t e1 (W.okl a2) (by omega) hy l1
      have o1 : f_Model_ofHouse (uI h g1) 755 (nI k) (1 : Int32) = some (nI (atH w k), uI h g1) := by
        have := N_oh (g := g1) t (k := k) (j := 1) (by omega) (by decide)
        rw [e1, show 345 + 34 * k + 1 = 346 + 34 * k from by omega, a1] at this
        exact this
      have F2 : FN g g2 := fun r h1 h2 => (z3 r h1).trans (q2 r h2)
      have nhT : nh (tkW w (atH w k) y 1) = nh w := congrArg ix (tk_lo (by decide))
      obtain ⟨g3, y1, y2, y3⟩ := ih (i + 1) g2 (tkW w (atH w k) y 1) (by omega) z2 (W.tk a2 hy l1) (by rw [F2 755 (by decide) (by decide)]; exact e11) (fun k' b1 b2 => by rw [F2 761 (by decide) (by decide), nhT]; exact G k' (by omega) b2) q
      rw [if_pos cc, if_neg (by decide), if_pos (s7 _), o1, bI_s, if_pos (s7 _), show (-1 : Int32) = -nI 1 from rfl, z1, bV_s, if_pos cc]
      refine ⟨g3, ?_, fun k' b => (y2 k' b).trans (tk_hi (by omega) hy (by omega)), F2.tr y3⟩
      rw [F2 761 (by decide) (by decide)] at y1
      exact y1
    · rw [if_neg cc, if_pos rfl, if_neg cc]
      refine ⟨g1, ?_, fun k' _ => by rw [e1], q2.fn⟩
      show f_Model_judge_b105 (f_Model_judge_L105 (q + j + 1)) (uI h g1) 755 (nI i) (nI (i + 1)) = _
      unfold f_Model_judge_b105
      rw [if_pos (s7 _), if_pos (nI_pos' (by omega)), ite_self]
theorem C_isd (t : LDs h 615) (H : HELD M h g 615 w) (hk : k < nh w) (hy : y < 30) : ∃ g', f_Land_isDrunkByLaw (uI h g) 615 (nI k) (nI y) = some (if nextW w (atH w k) = nI y ∧ w (35 + y) ≤ w (347 + 34 * k) then 1 else 0, uI h g') ∧ (nextW w (atH w k) = nI y → HELD M h g' 615 (if w (35 + y) ≤ w (347 + 34 * k) then tkW w (atH w k) y 1 else w)) ∧ FH h 615 g g' := by
  obtain ⟨W, R, Lr⟩ := H
  have s4 : ∀ g, hS (uI h g) 615 = 4 := fun g => t.1
  have h8 := W.2.1.1
  have k8 := W.2.1.2.1
  obtain ⟨-, ⟨a1, a2⟩, -⟩ := W.2.2.2.2.2.2.1 k hk
  have e0 : g 615 0 = nI (nc w) := R.1.1.trans W.1.1
  have e1 : g 615 1 = nI (nh w) := R.1.2.1.trans W.1.2.1
  obtain ⟨rA, rB, rC, rD, -⟩ := t.2.1
  obtain ⟨sH, lH⟩ := t.2.2.2.1
  obtain ⟨x1, x2, -⟩ := t.2.2.2.2.2.2.2.2.1 k (by omega)
  obtain ⟨y1, y2, y3, y4, y5⟩ := t.cr (c := atH w k) (by omega)
  obtain ⟨sS, lS⟩ := t.2.2.2.2.2.1
  have rB' : ∀ g, hR (uI h g) 615 4 = 617 := fun g => rB
  have sH' : ∀ g, hS (uI h g) 617 = 24 := fun g => sH
  have lH' : ∀ g, hL (uI h g) 617 = 8 := fun g => lH
  have x1' : ∀ g, hR (uI h g) 617 k = 615 + 22 + 2 * k := fun g => x1
  have x2' : ∀ g, hS (uI h g) (615 + 22 + 2 * k) = 3 := fun g => x2
  have y3' : ∀ g, hR (uI h g) 615 3 = 616 := fun g => y3
  have y4' : ∀ g, hS (uI h g) 616 = 23 := fun g => y4
  have y5' : ∀ g, hL (uI h g) 616 = 8 := fun g => y5
  have y1' : ∀ g, hR (uI h g) 616 (atH w k) = 615 + 6 + 2 * atH w k := fun g => y1
  have y2' : ∀ g, hS (uI h g) (615 + 6 + 2 * atH w k) = 1 := fun g => y2
  have rD' : ∀ g, hR (uI h g) 615 6 = 619 := fun g => rD
  have sS' : ∀ g, hS (uI h g) 619 = 20 := fun g => sS
  have lS' : ∀ g, hL (uI h g) 619 = 30 := fun g => lS
  have s1 : ∀ g1, RLa g1 615 w → g1 (615 + 22 + 2 * k) 1 = nI (atH w k) ∧ g1 (615 + 22 + 2 * k) 2 = w (347 + 34 * k) ∧ g1 619 y = w (35 + y) := fun g1 R1 => by
    have z := (R1.2.2.1 k hk).1
    have z1 := z 1 (by decide)
    have z2 := z 2 (by decide)
    rw [show 345 + 34 * k + 1 = 346 + 34 * k from by omega, a1] at z1
    rw [show 345 + 34 * k + 2 = 347 + 34 * k from by omega] at z2
    exact ⟨z1, z2, R1.2.2.2.2 y hy⟩
  have hs := C_has (g := g) (n := nc w) (d := atH w k) t e0 h8 (Or.inr a2)
  rw [show tI (atH w k) = nI (atH w k) from if_pos (by omega), if_pos (by omega)] at hs
  obtain ⟨g1, q1, q2⟩ := C_firstYear (A := 615) (g := g) t (by decide) (by decide) W.2.1 a2 (W.2.2.2.2.2.1 _ a2) R Lr
  have R1 := R.fp W.2.1 (by decide) q2
  have L1 := Lr.fp (by decide) q2
  unfold f_Land_isDrunkByLaw f_Land_isDrunkByLaw_b0
  rw [if_pos (s4 _), C_hasH t e1 k8 hk, bI_s, if_neg (by decide), if_neg (nI_pos (by omega)), if_neg (show ¬ (30 : Int32) ≤ nI y from nI_ge hy (by decide)), if_pos (s4 _), rB', if_pos (sH' _), lH', if_pos (ib_n (by omega) (by decide)), ix_n (by omega), x1', if_pos (x2' _), hI_u, (s1 g R).1, hs, bI_s, if_neg (by decide), if_pos (s4 _), rB', if_pos (sH' _), lH', if_pos (ib_n (by omega) (by decide)), x1', if_pos (x2' _), y3', if_pos (y4' _), hI_u, (s1 g R).1, y5', if_pos (ib_n (by omega) (by decide)), ix_n (by omega), y1', q1, bI_s]
  by_cases c1 : nextW w (atH w k) = nI y
  · rw [if_pos c1, if_pos (s4 _), rD', if_pos (sS' _), lS', if_pos (ib_n (by omega) (by decide)), if_pos (x2' _), hI_u, ix_n (by omega), (s1 g1 R1).2.2, (s1 g1 R1).2.1]
    by_cases c2 : w (35 + y) ≤ w (347 + 34 * k)
    · have l1 := jd_y W a2 hy c1
      rw [if_pos c2, if_pos (y2' _), show (1 : Int32) = nI 1 from rfl, C_take (t.cs (c := atH w k) (by omega)) hy, bV_s, if_pos ⟨c1, c2⟩]
      refine ⟨_, rfl, fun _ => ?_, (q2.fh).tr fun r h1 h2 => pt_row (by omega) (by omega)⟩
      rw [if_pos c2]
      exact ⟨W.tk a2 hy l1, R1.take W.2.1 a2 (W.okl a2) hy l1, (L1.congr (tk_lo (by decide)) fun k' hk' => tk_hi (by omega) hy (by omega)).hi fun r hr => pt_row (by omega) (by omega)⟩
    · rw [if_neg c2, if_neg (fun z => c2 z.2)]
      exact ⟨g1, rfl, fun _ => by rw [if_neg c2]; exact ⟨W, R1, L1⟩, q2.fh⟩
  · rw [if_neg c1, if_neg (fun z => c1 z.1)]
    exact ⟨g1, rfl, fun z => absurd z c1, q2.fh⟩
theorem C_jd_L (t : TS h) (hT : 2 * m ≤ 400) (ht : ∀ k, k < 2 * m → -128 ≤ (t3 k).toInt ∧ (t3 k).toInt ≤ 127) : ∀ (j i : Nat) (g : Nat → Nat → Int32) (w : Nat → Int32), i + j = m → HELD M h g 615 w → g 2 1 = nI (2 * m) → (∀ k, k < 2 * m → g 3 k = t3 k) → (∀ k, i ≤ k → k < m → GB (nh w) 97 (t3 (2 * k)) ∧ GB 30 48 (t3 (2 * k + 1))) → ∀ q,
    ∃ g', f_Water_firstUnlawful_L13 (q + j + 1) (uI h g) 1 (nI (2 * i)) = some (jdF t3 w i j, uI h g') ∧ FH h 615 g g' := by
  have w1 : ∀ g, hS (uI h g) 1 = 10 := fun g => (WTR (g := g) t).1.1
  have w2 : ∀ g, hR (uI h g) 1 0 = 2 := fun g => (WTR (g := g) t).1.2.1
  have w5 : ∀ g, hR (uI h g) 1 5 = 615 := fun g => t.td.2.1.2.1.2.2.2.2.2.1
  have s2 : ∀ g, hS (uI h g) 2 = 9 := fun g => t.td.2.2.1
  have d13 := t.ld (c := 13) (by decide)
  rw [la13] at d13
  have s4 : ∀ g, hS (uI h g) 615 = 4 := fun g => d13.1
  intro j
  induction j with
  | zero =>
    intro i g w hi H e2 e3 G q
    have hi' : i = m := hi
    subst hi'
    refine ⟨g, ?_, FH.rf⟩
    show f_Water_firstUnlawful_b13 (f_Water_firstUnlawful_L13 q) (uI h g) 1 (nI (2 * i)) = _
    unfold f_Water_firstUnlawful_b13
    rw [if_pos (w1 _), w2, if_pos (s2 _), hI_u, e2, if_pos (Int32.le_refl _)]
    rfl
  | succ j ih =>
    intro i g w hi H e2 e3 G q
    have E : f_Water_firstUnlawful_L13 (q + (j + 1) + 1) (uI h g) 1 (nI (2 * i)) = f_Water_firstUnlawful_b13 (f_Water_firstUnlawful_L13 (q + j + 1)) (uI h g) 1 (nI (2 * i)) := rfl
    obtain ⟨⟨k, hk, ek⟩, y, hy, ey⟩ := G i (Nat.le_refl _) (by omega)
    have k8 := H.1.2.1.2.1
    obtain ⟨g1, q1, q2, q3⟩ := C_isd (g := g) d13 H hk hy
    have D : jdF t3 w i (j + 1) = (if nextW w (atH w k) = nI y ∧ w (35 + y) ≤ w (347 + 34 * k) then jdF t3 (tkW w (atH w k) y 1) (i + 1) j else nI i) := by
      show (if nextW w (atH w (ix (t3 (2 * i) - nI 97))) = nI (ix (t3 (2 * i + 1) - nI 48)) ∧ w (35 + ix (t3 (2 * i + 1) - nI 48)) ≤ w (347 + 34 * ix (t3 (2 * i) - nI 97)) then jdF t3 (tkW w (atH w (ix (t3 (2 * i) - nI 97))) (ix (t3 (2 * i + 1) - nI 48)) 1) (i + 1) j else nI i) = _
      rw [ek, ey, ix_n (by omega), ix_n (by omega)]
    have b1 : ((t3 (2 * i)) &&& (255 : Int32)) - nI 97 = nI k := by
      rcases gb_c (n := nh w) (o := 97) (by omega) (Or.inl rfl) (ht (2 * i) (by omega)).1 (ht (2 * i) (by omega)).2 with ⟨-, ng⟩ | ⟨k', -, z1, z2⟩
      · exact absurd ⟨k, hk, ek⟩ ng
      · rw [z2, ← z1, ek]
    have b2 : ((t3 (2 * i + 1)) &&& (255 : Int32)) - nI 48 = nI y := by
      rcases gb_c (n := 30) (o := 48) (by omega) (Or.inr rfl) (ht (2 * i + 1) (by omega)).1 (ht (2 * i + 1) (by omega)).2 with ⟨-, ng⟩ | ⟨k', -, z1, z2⟩
      · exact absurd ⟨y, hy, ey⟩ ng
      · rw [z2, ← z1, ey]
    rw [E, D]
    unfold f_Water_firstUnlawful_b13
    rw [if_pos (w1 _), w2, if_pos (s2 _), hI_u, e2, if_neg (nI_ge (by omega) (by omega)), C_byte t.td.2.2 e2 hT (by omega), bI_s, if_pos (w1 _), w2, if_pos (s2 _), show nI (2 * i) + (1 : Int32) = nI (2 * i + 1) from nI_add _ _, C_byte t.td.2.2 e2 hT (by omega), bI_s, if_pos (w1 _), w5, if_pos (s4 _), e3 _ (by omega), e3 _ (by omega), show (97 : Int32) = nI 97 from rfl, show (48 : Int32) = nI 48 from rfl, b1, b2, q1, bI_s, show nI (2 * i) + (2 : Int32) = nI (2 * (i + 1)) from nI_add _ _]
    by_cases cc : nextW w (atH w k) = nI y ∧ w (35 + y) ≤ w (347 + 34 * k)
    · have H1 := q2 cc.1
      rw [if_pos cc.2] at H1
      have nhT : nh (tkW w (atH w k) y 1) = nh w := congrArg ix (tk_lo (by decide))
      obtain ⟨g3, z1, z2⟩ := ih (i + 1) g1 _ (by omega) H1 (by rw [q3 2 (by decide) (fun q => by omega)]; exact e2) (fun k' hk' => by rw [q3 3 (by decide) (fun q => by omega)]; exact e3 k' hk') (fun k' b1 b2 => by rw [nhT]; exact G k' (by omega) b2) q
      rw [if_pos cc, if_neg (by decide), if_pos cc]
      exact ⟨g3, z1, q3.tr z2⟩
    · rw [if_neg cc, if_pos rfl, if_neg cc]
      refine ⟨g1, ?_, q3⟩
      rw [show (2 : Int32) = nI 2 from rfl, pk_div (by omega) (by decide) (by decide), Nat.mul_div_cancel_left _ (by decide)]
theorem C_row (t : TS h) (e : g 2 1 = nI T) (hT : T ≤ 400) (e1 : g 569 1 = nI n) (hn : n ≤ 8) (bt : ∀ k, k < T → g 3 k = g 761 k ∧ -128 ≤ (g 761 k).toInt ∧ (g 761 k).toInt ≤ 127) :
    (f_Water_isRowOfDrinks (uI h g) 1 = some (1, uI h g) ∧ ∃ m, T = 2 * m ∧ ∀ k, k < m → GB n 97 (g 761 (2 * k)) ∧ GB 30 48 (g 761 (2 * k + 1))) ∨ (f_Water_isRowOfDrinks (uI h g) 1 = some (0, uI h g) ∧ (T % 2 = 1 ∨ ∃ k, k < T ∧ ¬ ((k % 2 = 0 → GB n 97 (g 761 k)) ∧ (k % 2 = 1 → GB 30 48 (g 761 k))))) := by
  obtain ⟨⟨w1, w2, -, -, -, w5, -⟩, w6, -⟩ := WTR (g := g) t
  have s2 : hS (uI h g) 2 = 9 := t.td.2.2.1
  unfold f_Water_isRowOfDrinks f_Water_isRowOfDrinks_b0
  rw [if_pos w1, w2, if_pos s2, hI_u, e, show jrem (nI T) (2 : Int32) = nI (T % 2) from jrem_n (d := 2) (by omega) (by decide) (by decide)]
  rcases Nat.mod_two_eq_zero_or_one T with ev | od
  · have hm : T = 2 * (T / 2) := by omega
    rw [ev, if_pos (show nI 0 = (0 : Int32) from rfl)]
    have L := C_row_L t e hT hm e1 hn (fun k hk => by rw [(bt k hk).1]; exact (bt k hk).2) (T / 2) 0 (by omega) (999999 - T / 2)
    rw [← FU_mm (by omega)] at L
    rcases L with ⟨l1, l2⟩ | ⟨l1, k, -, l2, l3⟩
    · refine Or.inl ⟨l1, T / 2, hm, fun k hk => ?_⟩
      have := l2 k (Nat.zero_le _) hk
      rw [(bt (2 * k) (by omega)).1, (bt (2 * k + 1) (by omega)).1] at this
      exact this
    · refine Or.inr ⟨l1, Or.inr ?_⟩
      rw [(bt (2 * k) (by omega)).1, (bt (2 * k + 1) (by omega)).1] at l3
      by_cases c : GB n 97 (g 761 (2 * k))
      · exact ⟨2 * k + 1, by omega, fun z => l3 ⟨c, z.2 (by omega)⟩⟩
      · exact ⟨2 * k, by omega, fun z => c (z.1 (by omega))⟩
  · rw [od, if_neg (show ¬ nI 1 = 0 by decide)]
    exact Or.inr ⟨rfl, Or.inl rfl⟩
theorem sp_judge : LSp M (fun H => f_Lw_judge H 1 765) (fun H => f_Model_judge H 755) := by
  intro H I
  obtain ⟨h, g, rfl⟩ : ∃ h g, H = uI h g := ⟨H, hI H, rfl⟩
  have I : INV M h g := I
  obtain ⟨t, W, R, Lr, e0, e1, e2, n8, nh8, nd8⟩ := I.us
  obtain ⟨T, t1, t2, hT, t3⟩ := I.2.2.2.2.1
  obtain ⟨⟨w1', wr0', wr1, wr2, wr3, w5, w5', -⟩, w6, w7⟩ := WTR (g := g) t
  have w1 : ∀ g, hS (uI h g) 1 = 10 := fun g => w1'
  have wr0 : ∀ g, hR (uI h g) 1 0 = 2 := fun g => wr0'
  have s2 : ∀ g, hS (uI h g) 2 = 9 := fun g => t.td.2.2.1
  have s7 : ∀ (h : Hp) (g : Nat → Nat → Int32), TS h → hS (uI h g) 755 = 11 := fun h g t => t.td.1.1
  rcases C_row t t1 hT e1 nh8 t3 with ⟨r1, m, hm, G⟩ | ⟨r1, G⟩
  · subst hm
    obtain ⟨g1, q1, ts1, H1, q4, I1⟩ := C_trial I
    have X1 : ∀ r, r ≤ 765 → (r < 615 ∨ 660 < r) → g1 r = g r := fun r a b => q4 r (by omega)
    obtain ⟨g2, z1, z2⟩ := C_jd_L (t3 := g 761) ts1 hT (fun k hk => (t3 k hk).2) m 0 g1 (g 756) (by omega) H1 (by rw [X1 2 (by decide) (by omega)]; exact t1) (fun k hk => by rw [X1 3 (by decide) (by omega)]; exact (t3 k hk).1) (fun k _ hk => G k hk) (999999 - m)
    rw [← FU_mm (by omega)] at z1
    have X2 : ∀ r, r ≤ 765 → (r < 615 ∨ 660 < r) → g2 r = g r := fun r a b => (z2 r (by omega) fun q => by omega).trans (X1 r a b)
    have I2 := I1.ft H1.2.2 z2
    have Y : ∀ r, r ≠ 2 → r ≠ 755 → usg (up2 g2 2 1 0) r = g2 r := fun r a b => (us_r b).trans (up_row a)
    have I3 := I2.tap (g' := usg (up2 g2 2 1 0)) (fun r a _ b _ _ => Y r a b) (fun j hj => (us_j (by omega) (by omega) (by omega) (by omega)).trans (by rw [up_row (by decide)])) (tap_0 (by rw [us_r (by decide), up_eq]) us_9)
    refine cl_l (h := h) (g := g) (fl := fun H => f_Lw_judge H 1 765) (fm := fun H => f_Model_judge H 755) (h1 := sR h 615 8 (hR h 569 8)) (g1 := up2 g2 2 1 0) (v := jdF (g 761) (g 756) 0 m) (lw_judge (H := uI h g) (H1 := uI (sR h 615 8 (hR h 569 8)) (up2 g2 2 1 0)) t ts1 ?_) ts1 (fun h' t' => ?_) (by show hN h ≤ hN h + 1170; omega) (by show hZ h ≤ hZ h + 14000; omega)
    · unfold f_Water_judge f_Water_judge_b0 f_Water_judge_b17 f_Water_firstUnlawful f_Water_firstUnlawful_b0
      rw [if_pos (w1 _), r1, bI_s, if_neg (by decide), if_pos (w1 _), if_pos (w1 _), w5', if_pos (show hS (uI h g) 615 = 4 from (t.ld (c := 13) (by decide)).1), w5, q1, bV_s]
      show bI (f_Water_firstUnlawful_L13 FU (uI (sR h 615 8 (hR h 569 8)) g1) 1 (nI (2 * 0))) _ = _
      rw [z1, bI_s, if_pos (show hS (uI (sR h 615 8 (hR h 569 8)) g2) 1 = 10 from ts1.td.2.1.1), show hR (uI (sR h 615 8 (hR h 569 8)) g2) 1 0 = 2 from wr0', if_pos (show hS (uI (sR h 615 8 (hR h 569 8)) g2) 2 = 9 from ts1.td.2.2.1), wr_s, sI_u, if_neg (by decide)]
    · have u6 : usg (up2 g2 2 1 0) 756 = g 756 := (Y 756 (by decide) (by decide)).trans (X2 756 (by decide) (by omega))
      have u61 : usg (up2 g2 2 1 0) 761 = g 761 := (Y 761 (by decide) (by decide)).trans (X2 761 (by decide) (by omega))
      have u9 : (up2 g2 2 1 0) 755 9 = nI (2 * m) := by rw [up_row (by decide), X2 755 (by decide) (by omega)]; exact t2
      have u11 : usg (up2 g2 2 1 0) 755 11 = nI (2 * m) := us_11.trans u9
      obtain ⟨s', a1, a2⟩ := N_row_L (h := h') (g := usg (up2 g2 2 1 0)) (n := nh (g 756)) t'.td.1 u11 hT (by rw [u6]; exact W.1.2.1) nh8 (2 * m) 0 0 (by omega) (Or.inl rfl) (999999 - 2 * m)
      rw [← FU_mm (by omega)] at a1
      have s0 : s' = 0 := by
        rcases a2 with ⟨a2, -⟩ | ⟨-, a2⟩
        · exact a2
        · rcases a2 with a2 | ⟨k, -, hk, nk⟩
          · exact absurd a2 (by decide)
          · rw [u61] at nk
            refine absurd ⟨fun ev => ?_, fun od => ?_⟩ nk
            · have := (G (k / 2) (by omega)).1
              rw [show 2 * (k / 2) = k from by omega] at this
              exact this
            · have := (G (k / 2) (by omega)).2
              rw [show 2 * (k / 2) + 1 = k from by omega] at this
              exact this
      subst s0
      obtain ⟨G4, b1, b2, b3⟩ := N_jd_L (h := h') t'.td.1 hT m 0 (cpg (usg (up2 g2 2 1 0)) 756 759 617) (g 756) (by omega) (by rw [cpg_r (by decide)]; exact u6) W (by rw [cpg_r (by decide)]; exact u11) (fun k _ hk => by rw [cpg_r (by decide), u61]; exact G k hk) (999998 - m)
      rw [show 999998 - m + m + 2 = FU from by unfold FU; omega, cpg_r (by decide), u61] at b1
      refine ⟨cpg G4 759 756 617, ?_, ?_, I3.nw ?_ (fun r h1 h2 h3 h4 h5 h6 h7 => ?_) (fun j hj => ?_)⟩
      · show f_Model_judge_b0 (uI h' (up2 g2 2 1 0)) 755 = _
        unfold f_Model_judge_b0 f_Model_judge_b19
        rw [if_pos (s7 _ _ t'), M_uses t'.td.1, bV_s, if_pos (s7 _ _ t'), hI_u, u11, show jrem (nI (2 * m)) (2 : Int32) = nI (2 * m % 2) from jrem_n (d := 2) (by omega) (by decide) (by decide), Nat.mul_mod_right, if_neg (by decide)]
        show f_Model_judge_L22 FU (uI h' (usg (up2 g2 2 1 0))) 755 0 (nI 0) = _
        rw [a1]
        unfold jdB f_Model_judge_b22
        rw [if_pos (s7 _ _ t'), hI_u, u11, if_pos (Int32.le_refl _), N_thr0 t'.td.1, bI_s, if_pos rfl, if_pos (s7 _ _ t'), M_keeps (h := uI h' (usg (up2 g2 2 1 0))) t'.td.1, bV_s, cp_g]
        show f_Model_judge_L105 FU (uI h' (cpg (usg (up2 g2 2 1 0)) 756 759 617)) 755 (-1) (nI 0) = _
        rw [b1]
        unfold f_Model_judge_b183
        rw [if_pos (s7 _ _ t'), M_laysBack (h := uI h' G4) t'.td.1, bV_s, cp_g]
      · rw [cpg_r (by decide), b3 755 (by decide) (by decide), cpg_r (by decide)]; exact us_0
      · rw [u6]
        exact lay_eq (fun k hk => by rw [b3 759 (by decide) (by decide), cpg_k hk, u6]) b2
      · rw [cpg_r h2, b3 r h2 h6, cpg_r h4]
      · rw [cpg_r (by decide), b3 755 (by decide) (by decide), cpg_r (by decide)]
  · refine cl_t (h := h) (g := g) (g1 := up2 g 2 1 0) (fl := fun H => f_Lw_judge H 1 765) (fm := fun H => f_Model_judge H 755) I (fun r h1 _ _ _ _ => up_row h1) (fun j _ => by rw [up_row (by decide)]) (lw_judge_2 (H := uI h g) t ?_) (by decide) (fun h' g' t' x' => ⟨0, up2 (usg g') 755 0 1, ?_, up_eq, fun r _ _ h3 _ _ => (up_row h3).trans (us_r h3), fun j hj => (up_k (by omega)).trans (us_j (by omega) (by omega) (by omega) (by omega)), tap_0 ?_ ?_⟩)
    · unfold f_Water_judge f_Water_judge_b0 f_Water_judge_b17
      rw [if_pos (w1 _), r1, bI_s, if_pos rfl, if_pos (w1 _), wr0, if_pos (s2 _), wr_s, sI_u, if_pos rfl]
    · have u6 : usg g' 756 = g 756 := (us_r (by decide)).trans ((x' 756 (by decide)).trans (up_row (by decide)))
      have u61 : usg g' 761 = g 761 := (us_r (by decide)).trans ((x' 761 (by decide)).trans (up_row (by decide)))
      have u11 : usg g' 755 11 = nI T := us_11.trans (by rw [x' 755 (by decide), up_row (by decide)]; exact t2)
      have key : ∀ s : Int32, (s = 0 ∨ s = 1) → (s = 0 → T % 2 = 0) → f_Model_judge_L22 FU (uI h' (usg g')) 755 s 0 = some (0, uI h' (up2 (usg g') 755 0 1)) := by
        intro s hs hs0
        obtain ⟨s', a1, a2⟩ := N_row_L (h := h') (g := usg g') (n := nh (g 756)) t'.td.1 u11 hT (by rw [u6]; exact W.1.2.1) nh8 T 0 s (by omega) hs (999999 - T)
        rw [← FU_mm (by omega)] at a1
        have s1 : s' = 1 := by
          rcases a2 with ⟨-, z, a2⟩ | ⟨a2, -⟩
          · exfalso
            rw [u61] at a2
            rcases G with G | ⟨k, hk, nk⟩
            · have := hs0 z; omega
            · exact nk (a2 k (Nat.zero_le _) hk)
          · exact a2
        subst s1
        refine a1.trans ?_
        unfold jdB f_Model_judge_b22
        rw [if_pos (s7 _ _ t'), hI_u, u11, if_pos (Int32.le_refl _), N_thr1 t'.td.1, bI_s, if_neg (by decide)]
      show f_Model_judge_b0 (uI h' g') 755 = _
      unfold f_Model_judge_b0 f_Model_judge_b19
      rw [if_pos (s7 _ _ t'), M_uses t'.td.1, bV_s, if_pos (s7 _ _ t'), hI_u, u11, show jrem (nI T) (2 : Int32) = nI (T % 2) from jrem_n (d := 2) (by omega) (by decide) (by decide)]
      rcases Nat.mod_two_eq_zero_or_one T with ev | od
      · rw [ev, if_neg (by decide)]
        exact key 0 (Or.inl rfl) fun _ => ev
      · rw [od, if_pos (show nI 1 = (1 : Int32) from rfl)]
        exact key 1 (Or.inr rfl) fun z => absurd z (by decide)
    · rw [up_row (by decide), us_r (by decide), x' 2 (by decide), up_eq]
    · rw [up_k (by decide)]; exact us_9
end U46
