/-! ===== a land's text: the reference reads its lines ===== -/
section U73
variable {h h' : Hp} {g g' g1 g2 G : Nat → Nat → Int32} {w w' : Nat → Int32} {b : Nat → Nat} {T p q n i j k m c s r d S M A a B N K y lo hi e nn hh : Nat} {v u x : Int32} {L l : List (Nat × Nat × Nat × Nat)} {z : Nat × Nat × Nat × Nat}
theorem N_number12 (t : TSr h) (R : RS g b T p) {x y : Int32} (E : f_Model_number (uI h g) 755 x y = some (v, uI h g')) : g' 755 12 = nI p := by
  have s7 : ∀ g, hS (uI h g) 755 = 11 := fun g => t.1
  have hT := R.1.2.1
  have hp := R.le
  obtain ⟨g1, a1, a2, a3, a4⟩ := N_blanks t R
  obtain ⟨g2, b1, b2, b3, b4⟩ := N_number_L (x := x) (y := y) t hp (T - p) 0 g1 (by omega) (R.1.fb a4) a2 a3 (fun k hk => absurd hk (Nat.not_lt_zero _)) (999999 - (T - p))
  rw [← FU_mm (by omega)] at b1
  have b1 : f_Model_number_L6 FU (uI h g1) 755 x y 0 = _ := b1
  unfold f_Model_number f_Model_number_b0 at E
  rw [if_pos (s7 _), a1, bV_s, b1] at E
  have z5 := congrArg (fun o => (Option.map (fun q : Int32 × Hp => hI q.2 755 12) o)) E
  have z6 : g2 755 12 = g' 755 12 := Option.some.inj z5
  rw [← z6]
  exact b3
def FL2 (g g' : Nat → Nat → Int32) : Prop := (∀ r, r ≠ 755 → r ≠ 756 → g' r = g r) ∧ ∀ j, j ≠ 10 → j ≠ 12 → g' 755 j = g 755 j
theorem FL2.rf : FL2 g g := ⟨fun _ _ _ => rfl, fun _ _ _ => rfl⟩
theorem FL2.tr (x : FL2 g g1) (y : FL2 g1 g') : FL2 g g' := ⟨fun r h1 h2 => (y.1 r h1 h2).trans (x.1 r h1 h2), fun j h1 h2 => (y.2 j h1 h2).trans (x.2 j h1 h2)⟩
theorem FB.l2 (x : FB g g') : FL2 g g' := ⟨fun r h1 _ => x.1 r h1, x.2⟩
theorem FL2.ww (x : ∀ r, r ≠ 756 → g' r = g r) : FL2 g g' := ⟨fun r _ h2 => x r h2, fun j _ _ => by rw [x 755 (by decide)]⟩
theorem FB.r6 (x : FB g g') : g' 756 = g 756 := x.1 756 (by decide)
/-- what the reference has read of a line -/
def NLd (r : Nat ⊕ ((Nat × Nat × Nat × Nat) × Nat)) (w : Nat → Int32) (v : Int32) (g : Nat → Nat → Int32) (b : Nat → Nat) (T : Nat) : Prop := match r with
  | .inl q => v = 0 ∧ g 755 12 = nI q
  | .inr (z, q) => v = 1 ∧ RS g b T q ∧ g 756 = lnW w z
theorem N_told (t : TSr h) (R : RS g b T p) (e0 : g 756 0 = nI nn) (n8 : nn ≤ 8) : (cdT b T p < nn ∧ p < T ∧ ∃ g', f_Model_cisternTold (uI h g) 755 = some (nI (cdT b T p), uI h g') ∧ RS g' b T (nx b T p) ∧ g' 755 12 = nI p ∧ FB g g') ∨ (¬ cdT b T p < nn ∧ ∃ g', f_Model_cisternTold (uI h g) 755 = some (-1, uI h g') ∧ g' 755 12 = nI p ∧ FB g g') := by
  have s7 : ∀ g, hS (uI h g) 755 = 11 := fun g => t.1
  have go : f_Model_cisternTold (uI h g) 755 = f_Model_number (uI h g) 755 0 (nI nn - 1) := by
    unfold f_Model_cisternTold f_Model_cisternTold_b0
    rw [if_pos (s7 _), N_cis t, bI_s, if_pos (s7 _), e0]
    cases f_Model_number (uI h g) 755 0 (nI nn - 1) with
    | none => rfl
    | some u => rfl
  rcases N_number (x := 0) (y := nI nn - 1) (lo := 0) (hi := nn) t R (by omega) (by decide) rfl rfl with ⟨-, c2, hp, g1, a1, a2, a3⟩ | ⟨c, g1, a1, a2, a3⟩
  · exact Or.inl ⟨c2, hp, g1, by rw [go]; exact a1, a2, N_number12 t R a1, a3⟩
  · exact Or.inr ⟨fun z => c ⟨Nat.zero_le _, z⟩, g1, by rw [go]; exact a1, a2, a3⟩
theorem lnW_seal (hv : s = 1025 ∨ s = 1026) : lnW w (s, a, c, d) = up1 w (67 + 35 * a) (if s = 1025 then 1 else 0) :=
  (if_neg (by show ¬ s = 1015; omega)).trans ((if_neg (by show ¬ s = 1016; omega)).trans ((if_neg (by show ¬ s = 1002; omega)).trans ((if_neg (by show ¬ s = 1019; omega)).trans (if_neg (by show ¬ s = 1022; omega)))))
theorem N_seR (t : TSr h) (R : RS g b T p) (e6 : g 756 = w) (e0 : w 0 = nI nn) (n8 : nn ≤ 8) (hv : s = 1025 ∨ s = 1026) : ∃ v g', f_Model_readSeal (uI h g) 755 (if s = 1025 then 1 else 0) = some (v, uI h g') ∧ (v = 0 ∨ v = 1) ∧ NLd (seR b T nn s p) w v g' b T ∧ FL2 g g' := by
  have s7 : ∀ g, hS (uI h g) 755 = 11 := fun g => t.1
  unfold f_Model_readSeal f_Model_readSeal_b0 f_Model_readSeal_b16 seR
  rw [if_pos (s7 _)]
  rcases N_told t R (by rw [e6]; exact e0) n8 with ⟨c, hp, g1, a1, a2, -, a3⟩ | ⟨c, g1, a1, a2, a3⟩
  · rw [a1, bI_s, if_neg (nI_pos (by omega)), if_pos (s7 _), show (2 : Int32) = nI 2 from rfl, N_sets t (by omega) (by decide), bV_s, if_neg (nI_pos (by omega)), nuC_y (Nat.zero_le _) c]
    refine ⟨1, _, rfl, Or.inr rfl, ⟨rfl, a2.ww, ?_⟩, a3.l2.tr (FL2.ww fun r hr => up_row hr)⟩
    rw [up2_row, a3.r6, e6, lnW_seal hv, show 65 + 35 * cdT b T p + 2 = 67 + 35 * cdT b T p from by omega]
  · rw [a1, bI_s, if_pos (by decide), nuC_n (fun z => c z.2), if_pos (by decide)]
    exact ⟨0, g1, rfl, Or.inl rfl, ⟨rfl, a2⟩, a3.l2⟩
theorem N_saR (t : TSr h) (R : RS g b T p) (e6 : g 756 = w) : ∃ v g', f_Model_readSalt (uI h g) 755 = some (v, uI h g') ∧ (v = 0 ∨ v = 1) ∧ NLd (saR b T p) w v g' b T ∧ FL2 g g' := by
  have s7 : ∀ g, hS (uI h g) 755 = 11 := fun g => t.1
  have r1 : ∀ g, hR (uI h g) 755 1 = 756 := fun g => t.2.1.1
  have sa : ∀ g, hS (uI h g) 756 = 20 := fun g => t.2.2.1.1
  have la' : ∀ g, hL (uI h g) 756 = 2291 := fun g => t.2.2.1.2
  unfold f_Model_readSalt f_Model_readSalt_b0 saR
  rw [if_pos (s7 _)]
  rcases N_number (x := 0) (y := 29) (lo := 0) (hi := 30) t R (by decide) (by decide) rfl (by decide) with ⟨c1, c2, hp, g1, a1, a2, a3⟩ | ⟨c, g1, a1, a2, a3⟩
  · rw [a1, bI_s, if_pos (nI_pos' (by omega)), if_pos (s7 _), nuC_y c1 c2]
    rcases N_number (x := 0) (y := 99) (lo := 0) (hi := 100) t a2 (by decide) (by decide) rfl (by decide) with ⟨d1, d2, hp2, g2, b1, b2, b3⟩ | ⟨d, g2, b1, b2, b3⟩
    · unfold f_Model_readSalt_b23 f_Model_readSalt_b38
      rw [b1, bI_s, if_neg (nI_pos (by omega)), if_pos (s7 _), r1, if_pos (sa _), la', show (35 : Int32) = nI 35 from rfl, nI_add, if_pos (ib_n (by omega) (by decide)), ix_n (by omega), wr_s, sI_u, if_neg (nI_pos (by omega)), nuC_y d1 d2]
      refine ⟨1, _, rfl, Or.inr rfl, ⟨rfl, b2.ww, ?_⟩, a3.l2.tr (b3.l2.tr (FL2.ww fun r hr => up_row hr))⟩
      rw [up2_row, b3.r6, a3.r6, e6]
      rfl
    · unfold f_Model_readSalt_b23 f_Model_readSalt_b38
      rw [b1, bI_s, if_pos (by decide), if_pos (by decide), nuC_n d]
      exact ⟨0, g2, rfl, Or.inl rfl, ⟨rfl, b2⟩, a3.l2.tr b3.l2⟩
  · unfold f_Model_readSalt_b23 f_Model_readSalt_b38
    rw [a1, bI_s, if_neg (by decide), if_pos (by decide), if_pos (by decide), nuC_n c]
    exact ⟨0, g1, rfl, Or.inl rfl, ⟨rfl, a2⟩, a3.l2⟩
theorem N_poR (t : TSr h) (R : RS g b T p) (e6 : g 756 = w) (W : WF M w) : ∃ v g', f_Model_readPour (uI h g) 755 = some (v, uI h g') ∧ (v = 0 ∨ v = 1) ∧ NLd (poR b T (nc w) p) w v g' b T ∧ FL2 g g' := by
  have s7 : ∀ g, hS (uI h g) 755 = 11 := fun g => t.1
  have n8 := W.2.1.1
  unfold f_Model_readPour f_Model_readPour_b0 f_Model_readPour_b63 poR
  rw [if_pos (s7 _)]
  rcases N_number (x := 0) (y := 999) (lo := 0) (hi := 1000) t R (by decide) (by decide) rfl (by decide) with ⟨c1, c2, hp, g1, a1, a2, a3⟩ | ⟨c, g1, a1, a2, a3⟩
  · rw [a1, bI_s, if_neg (nI_pos (by omega)), if_pos (s7 _), nuC_y c1 c2]
    rcases N_needs (k := 27) (i := 17) t a2 (by decide) with ⟨d, hp2, g2, b1, b2, b3⟩ | ⟨d, g2, b1, b2, b3⟩
    · have d : cdT b T (nx b T p) = 1017 := d
      rw [b1, bI_s, if_neg (by decide), if_pos (s7 _), tkC_y d]
      rcases N_number (x := 0) (y := 29) (lo := 0) (hi := 30) t b2 (by decide) (by decide) rfl (by decide) with ⟨k1, k2, hp3, g3, m1, m2, m3⟩ | ⟨k, g3, m1, m2, m3⟩
      · rw [m1, bI_s, if_neg (nI_pos (by omega)), if_pos (s7 _), nuC_y k1 k2]
        rcases N_needs (k := 28) (i := 18) t m2 (by decide) with ⟨f, hp4, g4, n1, n2, n3⟩ | ⟨f, g4, n1, n2, n3⟩
        · have f : cdT b T (nx b T (nx b T (nx b T p))) = 1018 := f
          have r6 : g4 756 = w := by rw [n3.r6, m3.r6, b3.r6, a3.r6]; exact e6
          rw [n1, bI_s, if_neg (by decide), if_pos (s7 _), tkC_y f]
          rcases N_told t n2 (by rw [r6]; exact W.1.1) n8 with ⟨o, hp5, g5, q1, q2, -, q3⟩ | ⟨o, g5, q1, q2, q3⟩
          · have r65 : g5 756 = w := by rw [q3.r6]; exact r6
            obtain ⟨g6, y1, y2, y3⟩ := N_pours (n := cdT b T p) (y := cdT b T (nx b T (nx b T p))) (c := cdT b T (nx b T (nx b T (nx b T (nx b T p))))) t r65 W (Or.inr o) k2 (by omega)
            rw [show tI (cdT b T (nx b T (nx b T (nx b T (nx b T p))))) = nI (cdT b T (nx b T (nx b T (nx b T (nx b T p))))) from if_pos (by omega)] at y1
            refine ⟨1, g6, by rw [q1, bI_s, if_neg (nI_pos (by omega)), if_pos (s7 _), y1, bV_s, if_neg (nI_pos (by omega))], Or.inr rfl, ?_, a3.l2.tr (b3.l2.tr (m3.l2.tr (n3.l2.tr (q3.l2.tr (FL2.ww y3)))))⟩
            rw [nuC_y (Nat.zero_le _) o]
            exact ⟨rfl, q2.fr (fun r hr => y3 r (by omega)) (fun j _ => by rw [y3 755 (by decide)]), y2⟩
          · refine ⟨0, g5, by rw [q1, bI_s, if_pos (by decide), if_pos (by decide)], Or.inl rfl, ?_, a3.l2.tr (b3.l2.tr (m3.l2.tr (n3.l2.tr q3.l2)))⟩
            rw [nuC_n (fun z => o z.2)]
            exact ⟨rfl, q2⟩
        · have f : cdT b T (nx b T (nx b T (nx b T p))) ≠ 1018 := f
          refine ⟨0, g4, by rw [n1, bI_s, if_pos rfl], Or.inl rfl, ?_, a3.l2.tr (b3.l2.tr (m3.l2.tr n3.l2))⟩
          rw [tkC_n f]
          exact ⟨rfl, n2⟩
      · refine ⟨0, g3, by rw [m1, bI_s, if_pos (by decide)], Or.inl rfl, ?_, a3.l2.tr (b3.l2.tr m3.l2)⟩
        rw [nuC_n k]
        exact ⟨rfl, m2⟩
    · have d : cdT b T (nx b T p) ≠ 1017 := d
      refine ⟨0, g2, by rw [b1, bI_s, if_pos rfl], Or.inl rfl, ?_, a3.l2.tr b3.l2⟩
      rw [tkC_n d]
      exact ⟨rfl, b2⟩
  · refine ⟨0, g1, by rw [a1, bI_s, if_pos (by decide)], Or.inl rfl, ?_, a3.l2⟩
    rw [nuC_n c]
    exact ⟨rfl, a2⟩
theorem N_leR (t : TSr h) (R : RS g b T p) (e6 : g 756 = w) (e0 : w 0 = nI nn) (n8 : nn ≤ 8) : ∃ v g', f_Model_readLeak (uI h g) 755 = some (v, uI h g') ∧ (v = 0 ∨ v = 1) ∧ NLd (leR b T nn p) w v g' b T ∧ FL2 g g' := by
  have s7 : ∀ g, hS (uI h g) 755 = 11 := fun g => t.1
  -- how much
  have b49 : ∀ (r c d : Nat) (G : Nat → Nat → Int32), RS G b T r → G 756 = w → c < 8 → FL2 g G → ∃ v g', f_Model_readLeak_b49 (uI h G) 755 (nI c) (tI d) = some (v, uI h g') ∧ (v = 0 ∨ v = 1) ∧ NLd (nuC b T 0 100 r fun n e => .inr ((1022, c, d, n), e)) w v g' b T ∧ FL2 g g' := by
    intro r c d G RG G6 hc FG
    unfold f_Model_readLeak_b49
    rw [if_pos (s7 _)]
    rcases N_number (x := 0) (y := 99) (lo := 0) (hi := 100) t RG (by decide) (by decide) rfl (by decide) with ⟨d1, d2, hp2, g2, b1, b2, b3⟩ | ⟨d, g2, b1, b2, b3⟩
    · rw [b1, bI_s, if_pos (nI_pos' (by omega)), if_pos (s7 _), show (3 : Int32) = nI 3 from rfl, N_sets t hc (by decide), bV_s, if_pos (s7 _), show (4 : Int32) = nI 4 from rfl, N_sets t hc (by decide), bV_s, nuC_y d1 d2]
      refine ⟨1, _, rfl, Or.inr rfl, ⟨rfl, b2.ww.ww, ?_⟩, FG.tr (b3.l2.tr (FL2.ww fun r hr => by rw [up_row hr, up_row hr]))⟩
      rw [up2_row, up2_row, b3.r6, G6, show 65 + 35 * c + 3 = 68 + 35 * c from by omega, show 65 + 35 * c + 4 = 69 + 35 * c from by omega]
      rfl
    · rw [b1, bI_s, if_neg (by decide), nuC_n d]
      exact ⟨0, g2, rfl, Or.inl rfl, ⟨rfl, b2⟩, FG.tr b3.l2⟩
  unfold f_Model_readLeak f_Model_readLeak_b0 leR
  rw [if_pos (s7 _)]
  rcases N_told t R (by rw [e6]; exact e0) n8 with ⟨c, hp, g1, a1, a2, -, a3⟩ | ⟨c, g1, a1, a2, a3⟩
  · rw [a1, bI_s, if_pos (nI_pos' (by omega)), if_pos (s7 _), nuC_y (Nat.zero_le _) c]
    rcases N_passes (k := 34) (i := 24) t a2 (by decide) with ⟨d, hp2, g2, b1, b2, b3⟩ | ⟨d, g2, b1, b2, b3⟩
    · have d : cdT b T (nx b T p) = 1024 := d
      rw [b1, bI_s, if_neg (by decide), if_pos d]
      exact b49 (nx b T (nx b T p)) (cdT b T p) 8 g2 b2 (by rw [b3.r6, a3.r6]; exact e6) (by omega) (a3.l2.tr b3.l2)
    · have d : ¬ cdT b T (nx b T p) = 1024 := d
      rw [b1, bI_s, if_pos rfl, if_pos (s7 _), if_neg d]
      rcases N_needs (k := 35) (i := 23) t b2 (by decide) with ⟨f, hp3, g3, m1, m2, m3⟩ | ⟨f, g3, m1, m2, m3⟩
      · have f : cdT b T (nx b T p) = 1023 := f
        have r6 : g3 756 = w := by rw [m3.r6, b3.r6, a3.r6]; exact e6
        rw [m1, bI_s, if_neg (by decide), if_pos (s7 _), tkC_y f]
        rcases N_told t m2 (by rw [r6]; exact e0) n8 with ⟨o, hp4, g4, n1, n2, n4, n3⟩ | ⟨o, g4, n1, n2, n3⟩
        · rw [n1, bI_s, if_neg (nI_pos (by omega))]
          by_cases q : cdT b T (nx b T (nx b T p)) = cdT b T p
          · rw [if_pos (by rw [q]), if_pos q]
            exact ⟨0, g4, rfl, Or.inl rfl, ⟨rfl, n4⟩, a3.l2.tr (b3.l2.tr (m3.l2.tr n3.l2))⟩
          · rw [if_neg (fun z => q ((nI_eq (by omega) (by omega)).mp z)), if_neg q, nuC_y (Nat.zero_le _) o, show nI (cdT b T (nx b T (nx b T p))) = tI (cdT b T (nx b T (nx b T p))) from (if_pos (by omega)).symm]
            exact b49 (nx b T (nx b T (nx b T p))) (cdT b T p) (cdT b T (nx b T (nx b T p))) g4 n2 (by rw [n3.r6]; exact r6) (by omega) (a3.l2.tr (b3.l2.tr (m3.l2.tr n3.l2)))
        · have q : ¬ cdT b T (nx b T (nx b T p)) = cdT b T p := fun z => o (by rw [z]; exact c)
          rw [n1, bI_s, if_pos (by decide), if_neg q, nuC_n (fun z => o z.2)]
          exact ⟨0, g4, rfl, Or.inl rfl, ⟨rfl, n2⟩, a3.l2.tr (b3.l2.tr (m3.l2.tr n3.l2))⟩
      · have f : cdT b T (nx b T p) ≠ 1023 := f
        rw [m1, bI_s, if_pos rfl, tkC_n f]
        exact ⟨0, g3, rfl, Or.inl rfl, ⟨rfl, m2⟩, a3.l2.tr (b3.l2.tr m3.l2)⟩
  · rw [a1, bI_s, if_neg (by decide), nuC_n (fun z => c z.2)]
    exact ⟨0, g1, rfl, Or.inl rfl, ⟨rfl, a2⟩, a3.l2⟩
end U73
