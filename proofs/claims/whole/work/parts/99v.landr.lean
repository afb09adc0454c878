/-! ===== a land's text: the class reads its lines ===== -/
section U71
variable {h h' : Hp} {g g' g1 g2 G : Nat → Nat → Int32} {w w' : Nat → Int32} {b : Nat → Nat} {T p q n i j k m c s r d S M A a B N K y lo hi e nn hh : Nat} {v u x : Int32} {L l : List (Nat × Nat × Nat × Nat)} {z : Nat × Nat × Nat × Nat}
theorem nuC_i {f : Nat → Nat → Nat ⊕ ((Nat × Nat × Nat × Nat) × Nat)} (hh' : hi ≤ 1000) (E : nuC b T lo hi p f = .inr (z, q)) : lo ≤ cdT b T p ∧ cdT b T p < hi ∧ p < T ∧ f (cdT b T p) (nx b T p) = .inr (z, q) := by
  by_cases c : lo ≤ cdT b T p ∧ cdT b T p < hi
  · exact ⟨c.1, c.2, cd_T (b := b) (by omega), by rw [nuC_y c.1 c.2] at E; exact E⟩
  · rw [nuC_n c] at E; cases E
theorem tkC_i {f : Nat → Nat ⊕ ((Nat × Nat × Nat × Nat) × Nat)} (hc : c < 3000) (E : tkC b T c p f = .inr (z, q)) : p < T ∧ f (nx b T p) = .inr (z, q) := by
  by_cases e : cdT b T p = c
  · exact ⟨cd_T (b := b) (by omega), by rw [tkC_y e] at E; exact E⟩
  · rw [tkC_n e] at E; cases E
/-- a line that may be told of a land of nn cisterns and hh houses -/
def LOp (nn hh : Nat) (z : Nat × Nat × Nat × Nat) : Prop :=
  (z.1 = 1015 ∧ nn < 8 ∧ z.2.1 ≤ 999 ∧ z.2.2.1 ≤ 3) ∨ (z.1 = 1016 ∧ z.2.1 ≤ 999 ∧ z.2.2.1 < 30 ∧ z.2.2.2 < nn) ∨ (z.1 = 1002 ∧ z.2.1 < 30 ∧ z.2.2.1 ≤ 99) ∨ (z.1 = 1019 ∧ hh < 8 ∧ z.2.1 ≤ 99 ∧ z.2.2.1 < nn ∧ z.2.2.2 ≤ 99) ∨ (z.1 = 1022 ∧ z.2.1 < nn ∧ (z.2.2.1 = 8 ∨ z.2.2.1 < nn) ∧ z.2.2.1 ≠ z.2.1 ∧ z.2.2.2 ≤ 99) ∨ ((z.1 = 1025 ∨ z.1 = 1026) ∧ z.2.1 < nn)
theorem ld_ok (n8 : nn ≤ 8) (E : ldP b T nn hh p = .inr (z, q)) : z.1 = cdT b T p ∧ p < q ∧ q ≤ T ∧ LOp nn hh z := by
  have N := fun p (hp : p < T) => nx_lt (b := b) hp
  unfold ldP at E
  by_cases e0 : cdT b T p = 1002
  · have h0 := N p (cd_T (b := b) (by omega))
    rw [if_pos e0] at E
    obtain ⟨-, a2, h1, E⟩ := nuC_i (by decide) E
    obtain ⟨-, b2, h2, E⟩ := nuC_i (by decide) E
    have h1 := N _ h1
    have h2 := N _ h2
    cases E
    exact ⟨e0.symm, by omega, h2.2, Or.inr (Or.inr (Or.inl ⟨rfl, a2, Nat.le_of_lt_succ b2⟩))⟩
  rw [if_neg e0] at E
  by_cases e1 : cdT b T p = 1015
  · have h0 := N p (cd_T (b := b) (by omega))
    rw [if_pos e1] at E
    by_cases l8 : nn < 8
    · rw [if_pos l8] at E
      obtain ⟨a1, a2, h1, E⟩ := nuC_i (by decide) E
      have h1 := N _ h1
      have key : ∀ k u, k ≤ 3 → nx b T (nx b T p) ≤ u → u ≤ T → (z, q) = ((1015, cdT b T (nx b T p), k, 0), u) → z.1 = cdT b T p ∧ p < q ∧ q ≤ T ∧ LOp nn hh z := by
        intro k u hk hu hT e
        cases e
        exact ⟨e1.symm, by omega, hT, Or.inl ⟨rfl, l8, Nat.le_of_lt_succ a2, hk⟩⟩
      by_cases f1 : cdT b T (nx b T (nx b T p)) = 1005
      · have h2 := N _ (cd_T (b := b) (T := T) (p := nx b T (nx b T p)) (by omega))
        rw [if_pos f1] at E
        exact key 1 _ (by decide) (by omega) h2.2 (Sum.inr.inj E).symm
      · rw [if_neg f1] at E
        by_cases f2 : cdT b T (nx b T (nx b T p)) = 1006
        · have h2 := N _ (cd_T (b := b) (T := T) (p := nx b T (nx b T p)) (by omega))
          rw [if_pos f2] at E
          exact key 2 _ (by decide) (by omega) h2.2 (Sum.inr.inj E).symm
        · rw [if_neg f2] at E
          by_cases f3 : cdT b T (nx b T (nx b T p)) = 1007
          · have h2 := N _ (cd_T (b := b) (T := T) (p := nx b T (nx b T p)) (by omega))
            rw [if_pos f3] at E
            exact key 3 _ (by decide) (by omega) h2.2 (Sum.inr.inj E).symm
          · rw [if_neg f3] at E
            exact key 0 _ (by decide) (Nat.le_refl _) h1.2 (Sum.inr.inj E).symm
    · rw [if_neg l8] at E; cases E
  rw [if_neg e1] at E
  by_cases e2 : cdT b T p = 1016
  · have h0 := N p (cd_T (b := b) (by omega))
    rw [if_pos e2] at E
    obtain ⟨-, a2, h1, E⟩ := nuC_i (by decide) E
    obtain ⟨h2, E⟩ := tkC_i (by decide) E
    obtain ⟨-, b2, h3, E⟩ := nuC_i (by decide) E
    obtain ⟨h4, E⟩ := tkC_i (by decide) E
    obtain ⟨-, c2, h5, E⟩ := nuC_i (by omega) E
    have h1 := N _ h1
    have h2 := N _ h2
    have h3 := N _ h3
    have h4 := N _ h4
    have h5 := N _ h5
    cases E
    exact ⟨e2.symm, by omega, h5.2, Or.inr (Or.inl ⟨rfl, Nat.le_of_lt_succ a2, b2, c2⟩)⟩
  rw [if_neg e2] at E
  by_cases e3 : cdT b T p = 1019
  · have h0 := N p (cd_T (b := b) (by omega))
    rw [if_pos e3] at E
    by_cases l8 : hh < 8
    · rw [if_pos l8] at E
      obtain ⟨-, a2, h1, E⟩ := nuC_i (by decide) E
      obtain ⟨h2, E⟩ := tkC_i (by decide) E
      obtain ⟨-, b2, h3, E⟩ := nuC_i (by omega) E
      have h1 := N _ h1
      have h2 := N _ h2
      have h3 := N _ h3
      by_cases f : cdT b T (nx b T (nx b T (nx b T (nx b T p)))) = 1021
      · have h4 := N _ (cd_T (b := b) (T := T) (p := nx b T (nx b T (nx b T (nx b T p)))) (by omega))
        rw [if_pos f] at E
        obtain ⟨-, c2, h5, E⟩ := nuC_i (by omega) E
        have h5 := N _ h5
        cases E
        exact ⟨e3.symm, by omega, h5.2, Or.inr (Or.inr (Or.inr (Or.inl ⟨rfl, l8, Nat.le_of_lt_succ a2, b2, Nat.le_of_lt_succ c2⟩)))⟩
      · rw [if_neg f] at E
        cases E
        exact ⟨e3.symm, by omega, h3.2, Or.inr (Or.inr (Or.inr (Or.inl ⟨rfl, l8, Nat.le_of_lt_succ a2, b2, Nat.le_refl _⟩)))⟩
    · rw [if_neg l8] at E; cases E
  rw [if_neg e3] at E
  by_cases e4 : cdT b T p = 1022
  · have h0 := N p (cd_T (b := b) (by omega))
    rw [if_pos e4] at E
    obtain ⟨-, a2, h1, E⟩ := nuC_i (by omega) E
    have h1 := N _ h1
    by_cases f : cdT b T (nx b T (nx b T p)) = 1024
    · have h2 := N _ (cd_T (b := b) (T := T) (p := nx b T (nx b T p)) (by omega))
      rw [if_pos f] at E
      obtain ⟨-, b2, h3, E⟩ := nuC_i (by omega) E
      have h3 := N _ h3
      cases E
      exact ⟨e4.symm, by omega, h3.2, Or.inr (Or.inr (Or.inr (Or.inr (Or.inl ⟨rfl, a2, Or.inl rfl, fun z => by have z : 8 = cdT b T (nx b T p) := z; omega, Nat.le_of_lt_succ b2⟩))))⟩
    · rw [if_neg f] at E
      obtain ⟨h2, E⟩ := tkC_i (by decide) E
      have h2 := N _ h2
      by_cases f2 : cdT b T (nx b T (nx b T (nx b T p))) = cdT b T (nx b T p)
      · rw [if_pos f2] at E; cases E
      · rw [if_neg f2] at E
        obtain ⟨-, b2, h3, E⟩ := nuC_i (by omega) E
        obtain ⟨-, c2, h4, E⟩ := nuC_i (by omega) E
        have h3 := N _ h3
        have h4 := N _ h4
        cases E
        exact ⟨e4.symm, by omega, h4.2, Or.inr (Or.inr (Or.inr (Or.inr (Or.inl ⟨rfl, a2, Or.inr b2, f2, Nat.le_of_lt_succ c2⟩))))⟩
  rw [if_neg e4] at E
  by_cases e5 : cdT b T p = 1025
  · have h0 := N p (cd_T (b := b) (by omega))
    rw [if_pos e5] at E
    obtain ⟨-, a2, h1, E⟩ := nuC_i (by omega) E
    have h1 := N _ h1
    cases E
    exact ⟨e5.symm, by omega, h1.2, Or.inr (Or.inr (Or.inr (Or.inr (Or.inr ⟨Or.inl rfl, a2⟩))))⟩
  rw [if_neg e5] at E
  by_cases e6 : cdT b T p = 1026
  · have h0 := N p (cd_T (b := b) (by omega))
    rw [if_pos e6] at E
    obtain ⟨-, a2, h1, E⟩ := nuC_i (by omega) E
    have h1 := N _ h1
    cases E
    exact ⟨e6.symm, by omega, h1.2, Or.inr (Or.inr (Or.inr (Or.inr (Or.inr ⟨Or.inr rfl, a2⟩))))⟩
  rw [if_neg e6] at E
  cases E
theorem C_ciR (t : TSt h) (tl : TSl h) (A : CA g b T p) (e7 : g 6 7 = nI nn) (e8 : g 6 8 = nI hh) : ∃ v g', f_LandText_isRest (uI h g) 6 1015 = some (v, uI h g') ∧ CLd (ciR b T p) nn hh v g' b T ∧ F6l g g' := by
  have s2 : ∀ g, hS (uI h g) 2 = 9 := fun g => t.1
  have s6 : ∀ g, hS (uI h g) 6 = 5 := fun g => tl.1
  have r0 : ∀ g, hR (uI h g) 6 0 = 2 := fun g => tl.2.1.1
  unfold f_LandText_isRest f_LandText_isRest_b0 ciR
  rw [if_neg (by decide), if_pos rfl, if_pos (s6 _)]
  unfold f_LandText_isCistern f_LandText_isCistern_b0
  rw [if_pos (s6 _)]
  rcases C_isOne (x := 1) (y := 999) (lo := 1) (hi := 1000) t tl A (by decide) rfl (by decide) (by decide) with ⟨c1, c2, hp, g1, a1, a2, a3, a4⟩ | ⟨c, g1, a1, a2, a3⟩
  · have F1 := a4.ll (by decide)
    have A1 : CA (up2 g1 6 10 0) b T (nx b T p) := a2.fr fun r hr => up_row (by omega)
    have F2 : F6l g (up2 g1 6 10 0) := F1.tr ⟨fun r _ h2 => up_row h2, fun k hk => up_k (by omega)⟩
    rw [a1, bI_s, if_neg (by decide), if_pos (s6 _), wr_s, sI_u, r0, if_pos (s2 _), nuC_y c1 c2]
    have b103 : ∀ (G : Nat → Nat → Int32) (k r : Nat), CA G b T r → G 6 7 = nI nn → G 6 8 = nI hh → G 6 9 = nI (cdT b T p) → G 6 10 = nI k → F6l g G → ∃ v g', f_LandText_isCistern_b103 (uI h G) 6 = some (v, uI h g') ∧ v = 1 ∧ CLd (.inr ((1015, cdT b T p, k, 0), r)) nn hh v g' b T ∧ F6l g g' := by
      intro G k r AG G7 G8 G9 G10 FG
      refine ⟨1, up2 G 6 7 (nI (nn + 1)), ?_, rfl, ⟨rfl, AG.fr fun r hr => up_row (by omega), by rw [up_k (by decide)]; exact G9, fun _ => by rw [up_k (by decide)]; exact G10, fun z => by have z : (1015 : Nat) = 1016 ∨ (1015 : Nat) = 1019 ∨ (1015 : Nat) = 1022 := z; omega, by rw [up_eq]; rfl, by rw [up_k (by decide)]; exact G8⟩, FG.tr ⟨fun r _ h2 => up_row h2, fun k hk => up_k (by omega)⟩⟩
      unfold f_LandText_isCistern_b103
      rw [if_pos (s6 _), hI_u, G7, wr_s, sI_u, nI_1]
    have u7 : (up2 g1 6 10 0) 6 7 = nI nn := by rw [up_k (by decide), a4.2 7 (by decide)]; exact e7
    have u8 : (up2 g1 6 10 0) 6 8 = nI hh := by rw [up_k (by decide), a4.2 8 (by decide)]; exact e8
    have u9 : (up2 g1 6 10 0) 6 9 = nI (cdT b T p) := by rw [up_k (by decide)]; exact a3
    have u10 : (up2 g1 6 10 0) 6 10 = nI 0 := up_eq
    generalize up2 g1 6 10 0 = G at A1 F2 u7 u8 u9 u10
    have i1 := C_is (x := 1005) (c := 1005) t A1 (by decide) rfl
    have i2 := C_is (x := 1006) (c := 1006) t A1 (by decide) rfl
    have i3 := C_is (x := 1007) (c := 1007) t A1 (by decide) rfl
    have b93 : ∀ k, nx b T p < T → ∃ v g', f_LandText_isCistern_b93 (uI h G) 6 6 (nI k) = some (v, uI h g') ∧ v = 1 ∧ CLd (.inr ((1015, cdT b T p, k, 0), nx b T (nx b T p))) nn hh v g' b T ∧ F6l g g' := by
      intro k hp2
      have A2 : CA (up2 G 6 10 (nI k)) b T (nx b T p) := A1.fr fun r hr => up_row (by omega)
      obtain ⟨g2, d1, d2, d3⟩ := C_step t A2 hp2
      obtain ⟨v, g3, z1, z2, z3, z4⟩ := b103 g2 k (nx b T (nx b T p)) d2 (by rw [d3.c6, up_k (by decide)]; exact u7) (by rw [d3.c6, up_k (by decide)]; exact u8) (by rw [d3.c6, up_k (by decide)]; exact u9) (by rw [d3.c6, up_eq]) (F2.tr (F6l.tr ⟨fun r _ h2 => up_row h2, fun k hk => up_k (by omega)⟩ d3.l6))
      refine ⟨v, g3, ?_, z2, z3, z4⟩
      unfold f_LandText_isCistern_b93
      rw [if_pos (s6 _), wr_s, sI_u, if_pos (s6 _), r0, if_pos (s2 _), d1, bV_s]
      exact z1
    have fin : ∀ {o : Option (Int32 × Hp)} {rr : Nat ⊕ ((Nat × Nat × Nat × Nat) × Nat)}, (∃ v g', o = some (v, uI h g') ∧ v = 1 ∧ CLd rr nn hh v g' b T ∧ F6l g g') → ∃ v g', (bI o fun v16 h17 => if v16 = 0 ∨ v16 = 1 then some (v16, h17) else none) = some (v, uI h g') ∧ CLd rr nn hh v g' b T ∧ F6l g g' := by
      rintro o rr ⟨v, g', rfl, rfl, z1, z2⟩
      exact ⟨1, g', by rw [bI_s, if_pos (Or.inr rfl)], z1, z2⟩
    rw [i1, bI_s]
    by_cases f1 : cdT b T (nx b T p) = 1005
    · rw [if_pos f1, if_neg (by decide), if_pos f1]
      refine fin ?_
      unfold f_LandText_isCistern_b57
      rw [if_pos (s6 _), r0, if_pos (s2 _), i1, bI_s, if_pos f1, if_neg (by decide)]
      exact b93 1 (cd_T (b := b) (by omega))
    · rw [if_neg f1, if_pos rfl, if_pos (s6 _), r0, if_pos (s2 _), i2, bI_s, if_neg f1]
      by_cases f2 : cdT b T (nx b T p) = 1006
      · rw [if_pos f2, if_neg (by decide), if_pos f2]
        refine fin ?_
        unfold f_LandText_isCistern_b57
        rw [if_pos (s6 _), r0, if_pos (s2 _), i1, bI_s, if_neg f1, if_pos rfl, if_pos (s6 _), r0, if_pos (s2 _), i2, bI_s, if_pos f2, if_neg (by decide)]
        exact b93 2 (cd_T (b := b) (by omega))
      · rw [if_neg f2, if_pos rfl, if_pos (s6 _), r0, if_pos (s2 _), i3, bI_s, if_neg f2]
        by_cases f3 : cdT b T (nx b T p) = 1007
        · rw [if_pos f3, if_neg (by decide), if_pos f3]
          refine fin ?_
          unfold f_LandText_isCistern_b57
          rw [if_pos (s6 _), r0, if_pos (s2 _), i1, bI_s, if_neg f1, if_pos rfl, if_pos (s6 _), r0, if_pos (s2 _), i2, bI_s, if_neg f2, if_pos rfl]
          exact b93 3 (cd_T (b := b) (by omega))
        · rw [if_neg f3, if_pos rfl, if_neg f3]
          exact fin (b103 G 0 (nx b T p) A1 u7 u8 u9 u10 F2)
  · refine ⟨0, g1, by rw [a1, bI_s, if_pos rfl, bI_s, if_pos (Or.inl rfl)], ?_, a3.ll (by decide)⟩
    rw [nuC_n c]
    exact ⟨rfl, a2⟩
theorem C_hoR (t : TSt h) (tl : TSl h) (A : CA g b T p) (e7 : g 6 7 = nI nn) (e8 : g 6 8 = nI hh) (n8 : nn ≤ 8) : ∃ v g', f_LandText_isRest (uI h g) 6 1019 = some (v, uI h g') ∧ CLd (hoR b T nn p) nn hh v g' b T ∧ F6l g g' := by
  have s2 : ∀ g, hS (uI h g) 2 = 9 := fun g => t.1
  have s6 : ∀ g, hS (uI h g) 6 = 5 := fun g => tl.1
  have r0 : ∀ g, hR (uI h g) 6 0 = 2 := fun g => tl.2.1.1
  unfold f_LandText_isRest f_LandText_isRest_b0 hoR
  rw [if_neg (by decide), if_neg (by decide), if_neg (by decide), if_pos rfl, if_pos (s6 _)]
  unfold f_LandText_isHouse f_LandText_isHouse_b0
  rw [if_pos (s6 _)]
  rcases C_isOne (x := 0) (y := 99) (lo := 0) (hi := 100) t tl A (by decide) rfl (by decide) (by decide) with ⟨c1, c2, hp, g1, a1, a2, a3, a4⟩ | ⟨c, g1, a1, a2, a3⟩
  · have F1 := a4.ll (by decide)
    rw [a1, bI_s, if_neg (by decide), if_pos (s6 _), r0, if_pos (s2 _), nuC_y c1 c2]
    rcases C_takes (x := 1020) (c := 1020) t a2 (by decide) rfl with ⟨d, hp2, g2, b1, b2, b3⟩ | ⟨d, g2, b1, b2, b3⟩
    · have F2 := F1.tr b3.l6
      have f7 : g2 6 7 = nI nn := by rw [b3.c6, a4.2 7 (by decide)]; exact e7
      rw [b1, bI_s, if_neg (by decide), if_pos (s6 _), hI_u, f7, tkC_y d]
      rcases C_isTwo (x := 0) (y := nI nn - 1) (lo := 0) (hi := nn) t tl b2 (by omega) rfl (by decide) rfl with ⟨k1, k2, hp3, g3, m1, m2, m3, m4⟩ | ⟨k, g3, m1, m2, m3⟩
      · have F3 := F2.tr (m4.ll (by decide))
        have u8 : g3 6 8 = nI hh := by rw [m4.2 8 (by decide), b3.c6, a4.2 8 (by decide)]; exact e8
        have G8 : (up2 g3 6 11 99) 6 8 = nI hh := by rw [up_k (by decide)]; exact u8
        rw [m1, bI_s, if_neg (by decide), if_pos (s6 _), wr_s, sI_u, hI_u, G8, wr_s, sI_u, nI_1, r0, if_pos (s2 _), nuC_y k1 k2]
        have A3 : CA (up2 (up2 g3 6 11 99) 6 8 (nI (hh + 1))) b T (nx b T (nx b T (nx b T p))) := m2.fr fun r hr => by rw [up_row (by omega), up_row (by omega)]
        have v7 : (up2 (up2 g3 6 11 99) 6 8 (nI (hh + 1))) 6 7 = nI nn := by rw [up_k (by decide), up_k (by decide), m4.2 7 (by decide)]; exact f7
        have v8 : (up2 (up2 g3 6 11 99) 6 8 (nI (hh + 1))) 6 8 = nI (hh + 1) := up_eq
        have v9 : (up2 (up2 g3 6 11 99) 6 8 (nI (hh + 1))) 6 9 = nI (cdT b T p) := by rw [up_k (by decide), up_k (by decide), m4.2 9 (by decide), b3.c6]; exact a3
        have v10 : (up2 (up2 g3 6 11 99) 6 8 (nI (hh + 1))) 6 10 = nI (cdT b T (nx b T (nx b T p))) := by rw [up_k (by decide), up_k (by decide)]; exact m3
        have v11 : (up2 (up2 g3 6 11 99) 6 8 (nI (hh + 1))) 6 11 = nI 99 := by rw [up_k (by decide), up_eq]; rfl
        have F4 : F6l g (up2 (up2 g3 6 11 99) 6 8 (nI (hh + 1))) := F3.tr ⟨fun r _ h2 => by rw [up_row h2, up_row h2], fun k hk => by rw [up_k (by omega), up_k (by omega)]⟩
        generalize up2 (up2 g3 6 11 99) 6 8 (nI (hh + 1)) = G at A3 v7 v8 v9 v10 v11 F4
        rw [C_is (x := 1021) (c := 1021) t A3 (by decide) rfl, bI_s]
        by_cases f : cdT b T (nx b T (nx b T (nx b T p))) = 1021
        · obtain ⟨g4, n1, n2, n3⟩ := C_step t A3 (cd_T (b := b) (by omega))
          rw [if_pos f, if_neg (by decide), if_pos (s6 _), r0, if_pos (s2 _), n1, bV_s, if_pos (s6 _), if_pos f]
          rcases C_isThree (x := 0) (y := 99) (lo := 0) (hi := 100) t tl n2 (by decide) rfl (by decide) (by decide) with ⟨o1, o2, hp5, g5, q1, q2, q3, q4⟩ | ⟨o, g5, q1, q2, q3⟩
          · refine ⟨1, g5, by rw [q1, bI_s, if_pos (Or.inr rfl), bI_s, if_pos (Or.inr rfl)], ?_, F4.tr (n3.l6.tr (q4.ll (by decide)))⟩
            rw [nuC_y o1 o2]
            exact ⟨rfl, q2, by rw [q4.2 9 (by decide), n3.c6]; exact v9, fun _ => by rw [q4.2 10 (by decide), n3.c6]; exact v10, fun _ => q3, by rw [q4.2 7 (by decide), n3.c6]; exact v7, by rw [q4.2 8 (by decide), n3.c6]; exact v8⟩
          · refine ⟨0, g5, by rw [q1, bI_s, if_pos (Or.inl rfl), bI_s, if_pos (Or.inl rfl)], ?_, F4.tr (n3.l6.tr (q3.ll (by decide)))⟩
            rw [nuC_n o]
            exact ⟨rfl, q2⟩
        · refine ⟨1, G, by rw [if_neg f, if_pos rfl, bI_s, if_pos (Or.inr rfl)], ?_, F4⟩
          rw [if_neg f]
          exact ⟨rfl, A3, v9, fun _ => v10, fun _ => v11, v7, v8⟩
      · refine ⟨0, g3, by rw [m1, bI_s, if_pos rfl, bI_s, if_pos (Or.inl rfl)], ?_, F2.tr (m3.ll (by decide))⟩
        rw [nuC_n k]
        exact ⟨rfl, m2⟩
    · refine ⟨0, g2, by rw [b1, bI_s, if_pos rfl, bI_s, if_pos (Or.inl rfl)], ?_, F1.tr b3.l6⟩
      rw [tkC_n d]
      exact ⟨rfl, b2⟩
  · refine ⟨0, g1, by rw [a1, bI_s, if_pos rfl, bI_s, if_pos (Or.inl rfl)], ?_, a3.ll (by decide)⟩
    rw [nuC_n c]
    exact ⟨rfl, a2⟩
theorem C_leR (t : TSt h) (tl : TSl h) (A : CA g b T p) (e7 : g 6 7 = nI nn) (e8 : g 6 8 = nI hh) (n8 : nn ≤ 8) : ∃ v g', f_LandText_isRest (uI h g) 6 1022 = some (v, uI h g') ∧ CLd (leR b T nn p) nn hh v g' b T ∧ F6l g g' := by
  have s2 : ∀ g, hS (uI h g) 2 = 9 := fun g => t.1
  have s6 : ∀ g, hS (uI h g) 6 = 5 := fun g => tl.1
  have r0 : ∀ g, hR (uI h g) 6 0 = 2 := fun g => tl.2.1.1
  unfold f_LandText_isRest f_LandText_isRest_b0 leR
  rw [if_neg (by decide), if_neg (by decide), if_neg (by decide), if_neg (by decide), if_pos rfl, if_pos (s6 _)]
  unfold f_LandText_isLeak f_LandText_isLeak_b0
  rw [if_pos (s6 _), hI_u, e7]
  rcases C_isOne (x := 0) (y := nI nn - 1) (lo := 0) (hi := nn) t tl A (by omega) rfl (by decide) rfl with ⟨c1, c2, hp, g1, a1, a2, a3, a4⟩ | ⟨c, g1, a1, a2, a3⟩
  · have F1 := a4.ll (by decide)
    have f7 : g1 6 7 = nI nn := by rw [a4.2 7 (by decide)]; exact e7
    have f8 : g1 6 8 = nI hh := by rw [a4.2 8 (by decide)]; exact e8
    rw [a1, bI_s, if_neg (by decide), if_pos (s6 _), r0, if_pos (s2 _), nuC_y c1 c2, C_is (x := 1024) (c := 1024) t a2 (by decide) rfl, bI_s]
    by_cases f : cdT b T (nx b T p) = 1024
    · obtain ⟨g2, b1, b2, b3⟩ := C_step t a2 (cd_T (b := b) (by omega))
      have A2 : CA (up2 g2 6 10 (-1)) b T (nx b T (nx b T p)) := b2.fr fun r hr => up_row (by omega)
      have F2 : F6l g (up2 g2 6 10 (-1)) := F1.tr (b3.l6.tr ⟨fun r _ h2 => up_row h2, fun k hk => up_k (by omega)⟩)
      rw [if_pos f, if_neg (by decide), if_pos (s6 _), r0, if_pos (s2 _), b1, bV_s, if_pos (s6 _), wr_s, sI_u, if_pos f]
      rcases C_isThree (x := 0) (y := 99) (lo := 0) (hi := 100) t tl A2 (by decide) rfl (by decide) (by decide) with ⟨o1, o2, hp5, g5, q1, q2, q3, q4⟩ | ⟨o, g5, q1, q2, q3⟩
      · refine ⟨1, g5, by rw [q1, bI_s, if_pos (Or.inr rfl), bI_s, if_pos (Or.inr rfl)], ?_, F2.tr (q4.ll (by decide))⟩
        rw [nuC_y o1 o2]
        exact ⟨rfl, q2, by rw [q4.2 9 (by decide), up_k (by decide), b3.c6]; exact a3, fun _ => by rw [q4.2 10 (by decide), up_eq]; rfl, fun _ => q3, by rw [q4.2 7 (by decide), up_k (by decide), b3.c6]; exact f7, by rw [q4.2 8 (by decide), up_k (by decide), b3.c6]; exact f8⟩
      · refine ⟨0, g5, by rw [q1, bI_s, if_pos (Or.inl rfl), bI_s, if_pos (Or.inl rfl)], ?_, F2.tr (q3.ll (by decide))⟩
        rw [nuC_n o]
        exact ⟨rfl, q2⟩
    · rw [if_neg f, if_pos rfl, if_pos (s6 _), r0, if_pos (s2 _), if_neg f]
      rcases C_takes (x := 1023) (c := 1023) t a2 (by decide) rfl with ⟨d, hp2, g2, b1, b2, b3⟩ | ⟨d, g2, b1, b2, b3⟩
      · have F2 := F1.tr b3.l6
        have k9 : g2 6 9 = nI (cdT b T p) := by rw [b3.c6]; exact a3
        have k7 : g2 6 7 = nI nn := by rw [b3.c6]; exact f7
        rw [b1, bI_s, if_neg (by decide), if_pos (s6 _), r0, if_pos (s2 _), hI_u, k9, C_is (x := nI (cdT b T p)) (c := cdT b T p) t b2 (by omega) rfl, bI_s, tkC_y d]
        by_cases f2 : cdT b T (nx b T (nx b T p)) = cdT b T p
        · obtain ⟨g3, m1, m2, m3⟩ := C_fail t b2
          refine ⟨0, g3, by rw [if_pos f2, if_neg (by decide), if_pos (s6 _), r0, if_pos (s2 _), m1, bI_s, if_pos (Or.inl rfl), bI_s, if_pos (Or.inl rfl)], ?_, F2.tr m3.l6⟩
          rw [if_pos f2]
          exact ⟨rfl, m2⟩
        · rw [if_neg f2, if_pos rfl, if_pos (s6 _), hI_u, k7, if_neg f2]
          rcases C_isTwo (x := 0) (y := nI nn - 1) (lo := 0) (hi := nn) t tl b2 (by omega) rfl (by decide) rfl with ⟨k1, k2, hp3, g3, m1, m2, m3, m4⟩ | ⟨k, g3, m1, m2, m3⟩
          · have F3 := F2.tr (m4.ll (by decide))
            rw [m1, bI_s, if_neg (by decide), if_pos (s6 _), nuC_y k1 k2]
            rcases C_isThree (x := 0) (y := 99) (lo := 0) (hi := 100) t tl m2 (by decide) rfl (by decide) (by decide) with ⟨o1, o2, hp5, g5, q1, q2, q3, q4⟩ | ⟨o, g5, q1, q2, q3⟩
            · refine ⟨1, g5, by rw [q1, bI_s, if_neg (by decide), bI_s, if_pos (Or.inr rfl)], ?_, F3.tr (q4.ll (by decide))⟩
              rw [nuC_y o1 o2]
              have tw' : twI 1022 (cdT b T (nx b T (nx b T p))) = nI (cdT b T (nx b T (nx b T p))) := by
                show tI _ = _
                exact if_pos (by omega)
              exact ⟨rfl, q2, by rw [q4.2 9 (by decide), m4.2 9 (by decide)]; exact k9, fun _ => by rw [q4.2 10 (by decide)]; exact m3.trans tw'.symm, fun _ => q3, by rw [q4.2 7 (by decide), m4.2 7 (by decide)]; exact k7, by rw [q4.2 8 (by decide), m4.2 8 (by decide), b3.c6]; exact f8⟩
            · refine ⟨0, g5, by rw [q1, bI_s, if_pos rfl, bI_s, if_pos (Or.inl rfl)], ?_, F3.tr (q3.ll (by decide))⟩
              rw [nuC_n o]
              exact ⟨rfl, q2⟩
          · refine ⟨0, g3, by rw [m1, bI_s, if_pos rfl, bI_s, if_pos (Or.inl rfl)], ?_, F2.tr (m3.ll (by decide))⟩
            rw [nuC_n k]
            exact ⟨rfl, m2⟩
      · refine ⟨0, g2, by rw [b1, bI_s, if_pos rfl, bI_s, if_pos (Or.inl rfl)], ?_, F1.tr b3.l6⟩
        rw [tkC_n d]
        exact ⟨rfl, b2⟩
  · refine ⟨0, g1, by rw [a1, bI_s, if_pos rfl, bI_s, if_pos (Or.inl rfl)], ?_, a3.ll (by decide)⟩
    rw [nuC_n c]
    exact ⟨rfl, a2⟩
end U71
