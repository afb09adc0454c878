/-! ===== land: the reference ===== -/
section U75
variable {h h' : Hp} {g g' g1 g2 G : Nat → Nat → Int32} {w w' : Nat → Int32} {b : Nat → Nat} {T p q n i j k m c s r d S M A a B N K y lo hi e nn hh : Nat} {v u x : Int32} {L l : List (Nat × Nat × Nat × Nat)} {z : Nat × Nat × Nat × Nat}
theorem N_dline (t : TSr h) (S : LTS g b T p) (e6 : g 756 = w) (W : WF M w) : ∃ v g', f_Model_readLandLine (uI h g) 755 = some (v, uI h g') ∧ (v = 0 ∨ v = 1) ∧ NLd (ldP b T (nc w) (nh w) p) w v g' b T ∧ FL2 g g' := by
  have s7 : ∀ g, hS (uI h g) 755 = 11 := fun g => t.1
  have n8 := W.2.1.1
  have k8 := W.2.1.2.1
  have w0 := W.1.1
  have w1 := W.1.2.1
  have fin : ∀ {o : Option (Int32 × Hp)} {rr : Nat ⊕ ((Nat × Nat × Nat × Nat) × Nat)}, (∃ v g', o = some (v, uI h g') ∧ (v = 0 ∨ v = 1) ∧ NLd rr w v g' b T ∧ FL2 g g') → ∃ v g', (bI o fun v16 h17 => if v16 = 0 ∨ v16 = 1 then some (v16, h17) else none) = some (v, uI h g') ∧ (v = 0 ∨ v = 1) ∧ NLd rr w v g' b T ∧ FL2 g g' := by
    rintro o rr ⟨v, g', rfl, z0, z1, z2⟩
    exact ⟨v, g', by rw [bI_s, if_pos z0], z0, z1, z2⟩
  have fin2 : ∀ {o : Option (Int32 × Hp)} {rr : Nat ⊕ ((Nat × Nat × Nat × Nat) × Nat)}, (∃ v g', o = some (v, uI h g') ∧ (v = 0 ∨ v = 1) ∧ NLd rr w v g' b T ∧ FL2 g g') → ∃ v g', (bI o fun v2 h3 => if v2 = 0 then some (0, h3) else some (1, h3)) = some (v, uI h g') ∧ (v = 0 ∨ v = 1) ∧ NLd rr w v g' b T ∧ FL2 g g' := by
    rintro o rr ⟨v, g', rfl, z0, z1, z2⟩
    rcases z0 with rfl | rfl
    · exact ⟨0, g', by rw [bI_s, if_pos rfl], Or.inl rfl, z1, z2⟩
    · exact ⟨1, g', by rw [bI_s, if_neg (by decide)], Or.inr rfl, z1, z2⟩
  have P := fun (i : Nat) (hi : i < 27) (e : cdT b T p = 1000 + i) => (S.nx hi e).1
  unfold f_Model_readLandLine f_Model_readLandLine_b0 ldP
  rw [if_pos (s7 _), N_isWord (k := 22) (i := 15) t S (by decide), bI_s]
  by_cases c1 : cdT b T p = 1000 + 15
  · have c1' : cdT b T p = 1015 := c1
    rw [if_pos c1, if_neg (by decide), if_pos (s7 _), if_neg (show ¬ cdT b T p = 1002 by omega), if_pos c1']
    by_cases l8 : nc w < 8
    · rw [if_pos l8]
      exact fin (N_ciR t (P 15 (by decide) c1) e6 W l8)
    · rw [if_neg l8]
      refine fin ⟨0, g, ?_, Or.inl rfl, ⟨rfl, S.2.2.2.2⟩, FL2.rf⟩
      unfold f_Model_readCistern f_Model_readCistern_b0
      rw [if_pos (s7 _), N_cis t, bI_s, e6, w0, if_pos (by rw [show nc w = 8 by omega]; rfl)]
  have c1' : ¬ cdT b T p = 1015 := c1
  rw [if_neg c1, if_pos rfl, if_pos (s7 _), N_isWord (k := 26) (i := 16) t S (by decide), bI_s, if_neg c1']
  by_cases c2 : cdT b T p = 1000 + 16
  · have c2' : cdT b T p = 1016 := c2
    rw [if_pos c2, if_neg (by decide), if_pos (s7 _), if_neg (show ¬ cdT b T p = 1002 by omega), if_pos c2']
    exact fin (N_poR t (P 16 (by decide) c2) e6 W)
  have c2' : ¬ cdT b T p = 1016 := c2
  rw [if_neg c2, if_pos rfl, if_pos (s7 _), N_isWord (k := 29) (i := 2) t S (by decide), bI_s, if_neg c2']
  by_cases c3 : cdT b T p = 1000 + 2
  · have c3' : cdT b T p = 1002 := c3
    rw [if_pos c3, if_neg (by decide), if_pos (s7 _), if_pos c3']
    exact fin (N_saR t (P 2 (by decide) c3) e6)
  have c3' : ¬ cdT b T p = 1002 := c3
  rw [if_neg c3, if_pos rfl, if_pos (s7 _), N_isWord (k := 30) (i := 19) t S (by decide), bI_s, if_neg c3']
  by_cases c4 : cdT b T p = 1000 + 19
  · have c4' : cdT b T p = 1019 := c4
    rw [if_pos c4, if_neg (by decide), if_pos (s7 _), if_pos c4']
    by_cases l8 : nh w < 8
    · rw [if_pos l8]
      exact fin (N_hoR t (P 19 (by decide) c4) e6 W l8)
    · rw [if_neg l8]
      refine fin ⟨0, g, ?_, Or.inl rfl, ⟨rfl, S.2.2.2.2⟩, FL2.rf⟩
      unfold f_Model_readHouse f_Model_readHouse_b0
      rw [if_pos (s7 _), N_hou t, bI_s, e6, w1, if_pos (by rw [show nh w = 8 by omega]; rfl)]
  have c4' : ¬ cdT b T p = 1019 := c4
  rw [if_neg c4, if_pos rfl, if_pos (s7 _), N_isWord (k := 33) (i := 22) t S (by decide), bI_s, if_neg c4']
  by_cases c5 : cdT b T p = 1000 + 22
  · have c5' : cdT b T p = 1022 := c5
    rw [if_pos c5, if_neg (by decide), if_pos (s7 _), if_pos c5']
    exact fin (N_leR t (P 22 (by decide) c5) e6 w0 n8)
  have c5' : ¬ cdT b T p = 1022 := c5
  rw [if_neg c5, if_pos rfl, if_pos (s7 _), N_isWord (k := 36) (i := 25) t S (by decide), bI_s, if_neg c5']
  by_cases c6 : cdT b T p = 1000 + 25
  · have c6' : cdT b T p = 1025 := c6
    unfold f_Model_readLandLine_b90 f_Model_readLandLine_b100
    rw [if_pos c6, if_neg (by decide), if_neg (by decide), if_pos (s7 _), if_pos c6']
    have := N_seR (s := 1025) t (P 25 (by decide) c6) e6 w0 n8 (Or.inl rfl)
    rw [if_pos rfl] at this
    exact fin2 this
  have c6' : ¬ cdT b T p = 1025 := c6
  rw [if_neg c6, if_pos rfl, if_pos (s7 _), N_isWord (k := 37) (i := 26) t S (by decide), bI_s, if_neg c6']
  by_cases c7 : cdT b T p = 1000 + 26
  · have c7' : cdT b T p = 1026 := c7
    unfold f_Model_readLandLine_b90 f_Model_readLandLine_b100
    rw [if_pos c7, if_neg (by decide), if_pos rfl, if_pos (s7 _), if_pos c7']
    have := N_seR (s := 1026) t (P 26 (by decide) c7) e6 w0 n8 (Or.inr rfl)
    rw [if_neg (by decide)] at this
    exact fin2 this
  have c7' : ¬ cdT b T p = 1026 := c7
  rw [if_neg c7, if_pos rfl, if_neg c7']
  exact ⟨0, g, rfl, Or.inl rfl, ⟨rfl, S.2.2.2.2⟩, FL2.rf⟩
/-- what the reference has read of a land -/
def NLw (r : Nat ⊕ List (Nat × Nat × Nat × Nat)) (w : Nat → Int32) (n : Nat) (v : Int32) (g : Nat → Nat → Int32) : Prop := match r with
  | .inl q => v = -1 ∧ g 755 12 = nI q
  | .inr l => v = nI (n + l.length) ∧ g 756 = landW w l ∧ LOs w l ∧ n + l.length ≤ 14
theorem N_dread_L (t : TSr h) : ∀ (m n p : Nat) (g : Nat → Nat → Int32) (w : Nat → Int32), n + m = 14 → RS g b T p → g 756 = w → WF M w → ∀ q, ∃ v g', f_Model_readAll_L28 (q + m + 1) (uI h g) 755 1 (nI n) = some (v, uI h g') ∧ NLw (laD b T m (nc w) (nh w) p) w n v g' ∧ FL2 g g' := by
  have s7 : ∀ g, hS (uI h g) 755 = 11 := fun g => t.1
  intro m
  induction m with
  | zero =>
    intro n p g w hm R e6 W q
    obtain ⟨g1, a1, a2, a3⟩ := N_letters t R
    refine ⟨-1, g1, ?_, ⟨rfl, a2.2.2.2.2⟩, a3.l2⟩
    show f_Model_readAll_b28 (f_Model_readAll_L28 q) (uI h g) 755 1 (nI n) = _
    unfold f_Model_readAll_b28 f_Model_readLine f_Model_readLine_b0 f_Model_readLine_b16
    rw [if_pos (s7 _), if_pos (s7 _), a1, bV_s, if_neg (by decide), if_pos (show (14 : Int32) ≤ nI n from nI_le (a := 14) (by omega) (by omega)), bI_s, if_pos rfl]
  | succ m ih =>
    intro n p g w hm R e6 W q
    obtain ⟨g1, a1, a2, a3⟩ := N_letters t R
    obtain ⟨v2, g2, b1, b0, b2, b3⟩ := N_dline t a2 (by rw [a3.r6]; exact e6) W
    have E0 : f_Model_readAll_L28 (q + (m + 1) + 1) (uI h g) 755 1 (nI n) = f_Model_readAll_b28 (f_Model_readAll_L28 (q + m + 1)) (uI h g) 755 1 (nI n) := rfl
    rw [E0]
    unfold f_Model_readAll_b28 f_Model_readLine f_Model_readLine_b0 f_Model_readLine_b16 laD
    rw [if_pos (s7 _), if_pos (s7 _), a1, bV_s, if_neg (by decide), if_neg (show ¬ (14 : Int32) ≤ nI n from nI_ge (b := 14) (by omega) (by decide)), if_neg (by decide), if_pos (s7 _), b1, bI_s]
    cases hr : ldP b T (nc w) (nh w) p with
    | inl z =>
      rw [hr] at b2
      rw [b2.1, if_pos rfl, bI_s, if_pos rfl]
      exact ⟨-1, g2, rfl, ⟨rfl, b2.2⟩, a3.l2.tr b3⟩
    | inr u =>
      obtain ⟨z, u⟩ := u
      rw [hr] at b2
      obtain ⟨d1, d2, d3⟩ := b2
      obtain ⟨k1, k2, k3, k4⟩ := ld_ok W.2.1.1 hr
      have k4 : LOl w z := k4
      obtain ⟨W1, n1, h1, -⟩ := W.ln k4
      have hT := d2.1.2.1
      have uT := d2.le
      obtain ⟨g3, m1, m2, m3, m4, m5, m6, m7⟩ := N_semi t d2
      unfold f_Model_readLine_b41
      rw [d1, if_neg (by decide), bI_s, if_neg (by decide), if_pos (s7 _), m1, bV_s, if_pos (s7 _), hI_u, m2, m3, nI_1]
      show ∃ v g', _ ∧ NLw (if cdT b T u = 3000 then .inr [z] else if cdT b T u = 2059 then (match laD b T m (nnU z (nc w)) (hhU z (nh w)) (nx b T u) with
        | .inl z => .inl z
        | .inr l => .inr (z :: l)) else .inl u) w n v g' ∧ FL2 g g'
      by_cases c : cdT b T u = 3000
      · have cu := (cd_3000 d2.1.b8 uT).mp c
        rw [if_pos (by rw [cu]), if_pos c]
        exact ⟨nI (n + 1), g3, rfl, ⟨rfl, by rw [m5.r6]; exact d3, ⟨k4, trivial⟩, by show n + 1 ≤ 14; omega⟩, a3.l2.tr (b3.tr m5.l2)⟩
      · have cu : ¬ nI u = nI T := fun z => c ((cd_3000 d2.1.b8 uT).mpr ((nI_eq (by omega) (by omega)).mp z))
        rw [if_neg cu, if_neg c, m6, bI_s]
        by_cases c2 : cdT b T u = 2059
        · obtain ⟨n1', n2⟩ := m7 c2
          obtain ⟨v, g4, z1, z2, z3⟩ := ih (n + 1) (nx b T u) (up2 g3 755 10 (nI (u + 1))) (lnW w z) (by omega) n2 (by rw [up_row (by decide), m5.r6]; exact d3) W1 q
          rw [if_pos c2, if_neg (by decide), if_pos (s7 _), hI_u, m2, wr_s, sI_u, nI_1, if_pos c2]
          refine ⟨v, g4, z1, ?_, a3.l2.tr (b3.tr (m5.l2.tr ((FB.up (Or.inl rfl)).l2.tr z3)))⟩
          have en : nc (lnW w z) = nnU z (nc w) := n1
          have eh : nh (lnW w z) = hhU z (nh w) := h1
          rw [en, eh] at z2
          cases hl : laD b T m (nnU z (nc w)) (hhU z (nh w)) (nx b T u) with
          | inl z => rw [hl] at z2; exact z2
          | inr l =>
            rw [hl] at z2
            obtain ⟨y1, y2, y3, y4⟩ := z2
            have e0 : n + 1 + l.length = n + (z :: l).length := by show _ = n + (l.length + 1); omega
            rw [e0] at y1 y4
            exact ⟨y1, y2, ⟨k4, y3⟩, y4⟩
        · rw [if_neg c2, if_pos rfl, if_neg c2]
          exact ⟨-1, g3, rfl, ⟨rfl, m4⟩, a3.l2.tr (b3.tr m5.l2)⟩
/-- the reference reads a whole land -/
theorem N_readLand (t : TSr h) (e9 : g 755 9 = nI T) (hT : T ≤ 400) (hb : ∀ k, k < T → BY (g 761 k) (b k)) (e6 : g 756 = w) (W : WF M w) : ∃ v g', f_Model_readAll (uI h g) 755 1 = some (v, uI h g') ∧ NLw (laDT b T (nc w) (nh w)) w 0 v g' ∧ (∀ r, r ≠ 755 → r ≠ 756 → g' r = g r) ∧ g' 755 9 = 0 ∧ g' 755 6 = g 755 6 ∧ g' 755 7 = g 755 7 ∧ g' 755 0 = 0 := by
  have s7 : ∀ g, hS (uI h g) 755 = 11 := fun g => t.1
  have R : RS (up2 (usg g) 755 16 0) b T (bk b T 0) := ⟨⟨by rw [up_k (by decide), us_11]; exact e9, hT, fun k hk => by rw [up_row (by decide), us_r (by decide)]; exact hb k hk⟩, 0, Nat.zero_le _, by rw [up_k (by decide)]; exact us_10, rfl⟩
  have u6 : (up2 (usg g) 755 16 0) 756 = w := by rw [up_row (by decide), us_r (by decide)]; exact e6
  have pk : ∀ G, FL2 (up2 (usg g) 755 16 0) G → (∀ r, r ≠ 755 → r ≠ 756 → G r = g r) ∧ G 755 9 = 0 ∧ G 755 6 = g 755 6 ∧ G 755 7 = g 755 7 ∧ G 755 0 = 0 := fun G F =>
    ⟨fun r h1 h2 => by rw [F.1 r h1 h2, up_row h1, us_r h1], by rw [F.2 9 (by decide) (by decide), up_k (by decide)]; exact us_9, by rw [F.2 6 (by decide) (by decide), up_k (by decide)]; exact us_j (by decide) (by decide) (by decide) (by decide), by rw [F.2 7 (by decide) (by decide), up_k (by decide)]; exact us_j (by decide) (by decide) (by decide) (by decide), by rw [F.2 0 (by decide) (by decide), up_k (by decide)]; exact us_0⟩
  obtain ⟨g1, a1, a2, a3, a4, a5, -, -⟩ := N_semi t R
  have pT := R.le
  unfold f_Model_readAll f_Model_readAll_b0 laDT
  rw [if_pos (s7 _), M_uses t, bV_s, if_pos (s7 _), wr_s, sI_u, a1, bV_s, if_pos (s7 _), hI_u, a2, a3]
  by_cases c : cdT b T (bk b T 0) = 3000
  · have ce := (cd_3000 R.1.b8 pT).mp c
    rw [if_pos (by rw [ce]), if_pos c]
    exact ⟨0, g1, rfl, ⟨rfl, by rw [a5.r6]; exact u6, trivial, by show 0 + 0 ≤ 14; decide⟩, pk g1 a5.l2⟩
  · have ce : ¬ nI (bk b T 0) = nI T := fun z => c ((cd_3000 R.1.b8 pT).mpr ((nI_eq (by omega) (by omega)).mp z))
    rw [if_neg ce, if_neg c]
    have R1 : RS g1 b T (bk b T 0) := ⟨R.1.fb a5, bk b T 0, pT, a2, R.bkk⟩
    obtain ⟨v, g2, z1, z2, z3⟩ := N_dread_L t 14 0 (bk b T 0) g1 w rfl R1 (by rw [a5.r6]; exact u6) W 999985
    exact ⟨v, g2, z1, z2, pk g2 (a5.l2.tr z3)⟩
theorem N_land_2 (t : TSr h) {f : Hp → Nat → Int32 → Option (Int32 × Hp)} : ∀ (j i : Nat) (g : Nat → Nat → Int32), i + j = 1454 → ∀ q, ∃ G, f_Model_land_L2 (q + j + 1) (uI h g) 755 (nI i) = f_Model_land_b2 f (uI h G) 755 (nI 1454) ∧ (∀ k, i ≤ k → k < 1454 → G 758 k = g 756 k) ∧ (∀ k, k < i → G 758 k = g 758 k) ∧ ∀ r, r ≠ 758 → G r = g r := by
  have s7 : ∀ g, hS (uI h g) 755 = 11 := fun g => t.1
  have r1 : ∀ g, hR (uI h g) 755 1 = 756 := fun g => t.2.1.1
  have r3 : ∀ g, hR (uI h g) 755 3 = 758 := fun g => t.2.1.2.2.1
  have sa : ∀ g, hS (uI h g) 756 = 20 := fun g => t.2.2.1.1
  have la' : ∀ g, hL (uI h g) 756 = 2291 := fun g => t.2.2.1.2
  have sb : ∀ g, hS (uI h g) 758 = 20 := fun g => t.2.2.2.2.1.1
  have lb : ∀ g, hL (uI h g) 758 = 1454 := fun g => t.2.2.2.2.1.2
  intro j
  induction j with
  | zero =>
    intro i g hi q
    have hi : i = 1454 := hi
    subst hi
    refine ⟨g, ?_, fun k h1 h2 => by omega, fun k _ => rfl, fun _ _ => rfl⟩
    show f_Model_land_b2 (f_Model_land_L2 q) (uI h g) 755 (nI 1454) = _
    unfold f_Model_land_b2
    rw [if_pos (show (1454 : Int32) ≤ nI 1454 from Int32.le_refl _), if_pos (show (1454 : Int32) ≤ nI 1454 from Int32.le_refl _)]
  | succ j ih =>
    intro i g hi q
    obtain ⟨G, z1, z2, z3, z4⟩ := ih (i + 1) (up2 g 758 i (g 756 i)) (by omega) q
    refine ⟨G, ?_, fun k h1 h2 => ?_, fun k hk => by rw [z3 k (by omega), up_k (by omega)], fun r hr => (z4 r hr).trans (up_row hr)⟩
    · show f_Model_land_b2 (f_Model_land_L2 (q + j + 1)) (uI h g) 755 (nI i) = _
      rw [← z1]
      unfold f_Model_land_b2
      rw [if_neg (show ¬ (1454 : Int32) ≤ nI i from nI_ge (b := 1454) (by omega) (by decide)), if_pos (s7 _), r1, if_pos (sa _), la', if_pos (ib_n (by omega) (by decide)), r3, if_pos (sb _), lb, if_pos (ib_n (by omega) (by decide)), ix_n (by omega), hI_u, wr_s, sI_u, nI_1]
    · by_cases q : k = i
      · subst q; rw [z3 _ (by omega), up_eq]
      · rw [z2 k (by omega) h2, up_r (by decide)]
theorem N_land_92 (t : TSr h) : ∀ (j i : Nat) (g : Nat → Nat → Int32), i + j = 1454 → ∀ q, ∃ G, f_Model_land_L92 (q + j + 1) (uI h g) 755 (nI i) = some (0, uI h G) ∧ (∀ k, i ≤ k → k < 1454 → G 756 k = g 758 k) ∧ (∀ k, k < i → G 756 k = g 756 k) ∧ ∀ r, r ≠ 756 → G r = g r := by
  have s7 : ∀ g, hS (uI h g) 755 = 11 := fun g => t.1
  have r1 : ∀ g, hR (uI h g) 755 1 = 756 := fun g => t.2.1.1
  have r3 : ∀ g, hR (uI h g) 755 3 = 758 := fun g => t.2.1.2.2.1
  have sa : ∀ g, hS (uI h g) 756 = 20 := fun g => t.2.2.1.1
  have la' : ∀ g, hL (uI h g) 756 = 2291 := fun g => t.2.2.1.2
  have sb : ∀ g, hS (uI h g) 758 = 20 := fun g => t.2.2.2.2.1.1
  have lb : ∀ g, hL (uI h g) 758 = 1454 := fun g => t.2.2.2.2.1.2
  intro j
  induction j with
  | zero =>
    intro i g hi q
    have hi : i = 1454 := hi
    refine ⟨g, ?_, fun k h1 h2 => by omega, fun k _ => rfl, fun _ _ => rfl⟩
    show f_Model_land_b92 (f_Model_land_L92 q) (uI h g) 755 (nI i) = _
    unfold f_Model_land_b92
    rw [hi, if_pos (show (1454 : Int32) ≤ nI 1454 from Int32.le_refl _)]
  | succ j ih =>
    intro i g hi q
    obtain ⟨G, z1, z2, z3, z4⟩ := ih (i + 1) (up2 g 756 i (g 758 i)) (by omega) q
    refine ⟨G, ?_, fun k h1 h2 => ?_, fun k hk => by rw [z3 k (by omega), up_k (by omega)], fun r hr => (z4 r hr).trans (up_row hr)⟩
    · show f_Model_land_b92 (f_Model_land_L92 (q + j + 1)) (uI h g) 755 (nI i) = _
      unfold f_Model_land_b92
      rw [if_neg (show ¬ (1454 : Int32) ≤ nI i from nI_ge (b := 1454) (by omega) (by decide)), if_pos (s7 _), r3, if_pos (sb _), lb, if_pos (ib_n (by omega) (by decide)), r1, if_pos (sa _), la', if_pos (ib_n (by omega) (by decide)), ix_n (by omega), hI_u, wr_s, sI_u, nI_1]
      exact z1
    · by_cases q : k = i
      · subst q; rw [z3 _ (by omega), up_eq]
      · rw [z2 k (by omega) h2, up_r (by decide)]
end U75
