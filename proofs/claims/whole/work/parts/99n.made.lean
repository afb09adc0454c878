/-! ===== the cells of a new law ===== -/
section U63
variable {h h' : Hp} {g g' g1 g2 : Nat → Nat → Int32} {w w' : Nat → Int32} {b : Nat → Nat} {T p q n i j k m c s r d S M A a z B : Nat} {e es x E : List (Nat × Nat)} {v y u : Int32} {L l : List (Nat × List (Nat × Nat))} {ts : List Bool} {F : Nat → Int32}
theorem hS_A : hS (hA h s m z) r = if r = hN h + 1 then s else hS h r := rfl
theorem hL_A : hL (hA h s m z) r = if r = hN h + 1 then m else hL h r := rfl
theorem hR_A : hR (hA h s m z) r k = if r = hN h + 1 then 0 else hR h r k := rfl
theorem hN_A : hN (hA h s m z) = hN h + 1 := rfl
theorem hZ_A : hZ (hA h s m z) = hZ h + z := rfl
theorem hS_R : hS (sR h a k n) = hS h := rfl
theorem hL_R : hL (sR h a k n) = hL h := rfl
theorem hN_R : hN (sR h a k n) = hN h := rfl
theorem hZ_R : hZ (sR h a k n) = hZ h := rfl
theorem hR_R : hR (sR h a k n) r j = if r = a ∧ j = k then n else hR h r j := rfl
/-- the arena with a new law behind it, of S steps -/
def lwH (h : Hp) (S : Nat) : Hp := sR (sR (sR (sR (hA (sR (hA (hA (hA (hA (hA h 6 0 (nF 5)) 20 12 12) 20 12 12) 20 S S) 20 9 9) (hN h + 1) 4 (hN h + 1 + 1 + 1 + 1 + 1)) 20 32 32) (hN h + 1) 5 (hN h + 1 + 1 + 1 + 1 + 1 + 1)) (hN h + 1) 1 (hN h + 1 + 1)) (hN h + 1) 2 (hN h + 1 + 1 + 1)) (hN h + 1) 3 (hN h + 1 + 1 + 1 + 1)
/-- the cell r is the same in both -/
def OLD (h h' : Hp) (r : Nat) : Prop := hS h' r = hS h r ∧ hL h' r = hL h r ∧ ∀ k, hR h' r k = hR h r k
theorem OLD.tr {h2 : Hp} (x : OLD h h' r) (y : OLD h' h2 r) : OLD h h2 r := ⟨y.1.trans x.1, y.2.1.trans x.2.1, fun k => (y.2.2 k).trans (x.2.2 k)⟩
theorem OLD.ha (hr : r ≤ hN h) : OLD h (hA h s m z) r := ⟨if_neg (by omega), if_neg (by omega), fun k => if_neg (by omega)⟩
theorem OLD.sr (hr : r ≠ a) : OLD h (sR h a k n) r := ⟨rfl, rfl, fun j => if_neg fun z => hr z.1⟩
theorem lwH_old (hr : r ≤ hN h) : OLD h (lwH h S) r := by
  unfold lwH
  have a1 : OLD h (hA h 6 0 (nF 5)) r := OLD.ha hr
  have a2 := a1.tr (OLD.ha (s := 20) (m := 12) (z := 12) (by show r ≤ hN h + 1; omega))
  have a3 := a2.tr (OLD.ha (s := 20) (m := 12) (z := 12) (by show r ≤ hN h + 1 + 1; omega))
  have a4 := a3.tr (OLD.ha (s := 20) (m := S) (z := S) (by show r ≤ hN h + 1 + 1 + 1; omega))
  have a5 := a4.tr (OLD.ha (s := 20) (m := 9) (z := 9) (by show r ≤ hN h + 1 + 1 + 1 + 1; omega))
  have a6 := a5.tr (OLD.sr (a := hN h + 1) (k := 4) (n := hN h + 1 + 1 + 1 + 1 + 1) (by omega))
  have a7 := a6.tr (OLD.ha (s := 20) (m := 32) (z := 32) (by show r ≤ hN h + 1 + 1 + 1 + 1 + 1; omega))
  have a8 := a7.tr (OLD.sr (a := hN h + 1) (k := 5) (n := hN h + 1 + 1 + 1 + 1 + 1 + 1) (by omega))
  have a9 := a8.tr (OLD.sr (a := hN h + 1) (k := 1) (n := hN h + 1 + 1) (by omega))
  have b1 := a9.tr (OLD.sr (a := hN h + 1) (k := 2) (n := hN h + 1 + 1 + 1) (by omega))
  exact b1.tr (OLD.sr (a := hN h + 1) (k := 3) (n := hN h + 1 + 1 + 1 + 1) (by omega))
theorem lwH_N : hN (lwH h S) = hN h + 6 := rfl
theorem lwH_Z : hZ (lwH h S) = hZ h + nF 5 + 12 + 12 + S + 9 + 32 := rfl
theorem lwH_new : LWs (lwH h S) (hN h + 1) S := by
  unfold lwH LWs AS
  refine ⟨?_, ⟨?_, ?_, ?_, ?_, ?_⟩, ⟨?_, ?_⟩, ⟨?_, ?_⟩, ⟨?_, ?_⟩, ⟨?_, ?_⟩, ?_, ?_⟩ <;> simp [hS_R, hS_A, hL_R, hL_A, hR_R, hR_A, hN_A, hN_R]
theorem hA_uI : hA (uI h g) s m z = uI (hA h s m z) (rs2 g (hN h + 1) fun _ => 0) := rfl
theorem sR_uI : sR (uI h g) a k n = uI (sR h a k n) g := rfl
theorem C_copyOf_all (hs : hS h a = 20) (hl : hL h a = n) (hx : y = nI n) : f_Arrays_copyOf (uI h g) a y = some (hN h + 1, uI (hA h 20 n n) (rs2 g (hN h + 1) (g a))) := by
  unfold f_Arrays_copyOf f_Arrays_copyOf_b0
  rw [if_pos (show hS (uI h g) a = 20 from hs), show hL (uI h g) a = n from hl, hx, if_pos (show nI n = Int32.ofNat n from rfl), hA_uI, wr_s, cI_u]
  have : rs2 (rs2 g (hN h + 1) fun _ => 0) (hN h + 1) (hI (uI h g) a) = rs2 g (hN h + 1) (g a) := by
    funext r j
    by_cases q : r = hN h + 1
    · subst q; rw [rs_eq, rs_eq, hI_u]
    · rw [rs_ne q, rs_ne q, rs_ne q]
  show some (hN h + 1, uI (hA h 20 n n) (rs2 (rs2 g (hN h + 1) fun _ => 0) (hN h + 1) (hI (uI h g) a))) = _
  rw [this]
/-- the first n of a longer row -/
theorem C_copyOf_n (hs : hS h a = 20) (hl : hL h a = m) (ha : a ≤ hN h) (hn : n < m) (hm : m ≤ 1000000) (hx : y = nI n) : ∃ G, f_Arrays_copyOf (uI h g) a y = some (hN h + 1, uI (hA h 20 n n) G) ∧ (∀ i, i < n → G (hN h + 1) i = g a i) ∧ ∀ r, r ≠ hN h + 1 → G r = g r := by
  have s2 : ∀ G, hS (uI (hA h 20 n n) G) a = 20 := fun G => by show hS (hA h 20 n n) a = 20; rw [hS_A, if_neg (by omega)]; exact hs
  have s3 : ∀ G, hS (uI (hA h 20 n n) G) (hN h + 1) = 20 := fun G => by show hS (hA h 20 n n) (hN h + 1) = 20; rw [hS_A, if_pos rfl]
  have l2 : ∀ G, hL (uI (hA h 20 n n) G) a = m := fun G => by show hL (hA h 20 n n) a = m; rw [hL_A, if_neg (by omega)]; exact hl
  have l3 : ∀ G, hL (uI (hA h 20 n n) G) (hN h + 1) = n := fun G => by show hL (hA h 20 n n) (hN h + 1) = n; rw [hL_A, if_pos rfl]
  have i0 : ix (0 : Int32) = 0 := rfl
  refine ⟨rs2 (rs2 g (hN h + 1) fun _ => 0) (hN h + 1) (va_cpy (g a) (fun _ => 0) 0 0 n), ?_, fun i hi => ?_, fun r hr => ?_⟩
  · unfold f_Arrays_copyOf f_Arrays_copyOf_b0
    rw [if_pos (show hS (uI h g) a = 20 from hs), show hL (uI h g) a = m from hl, hx, if_neg (show ¬ nI n = Int32.ofNat m from fun z => by have := (nI_eq (by omega) (by omega)).mp z; omega), if_pos (nI_pos (by omega)), ix_n (by omega), if_pos (by omega), hA_uI, wr_s,
      if_pos (s2 _), l2, show Int32.ofNat m = nI m from rfl, mn_n (by omega) (by omega), bI_s, Nat.min_eq_right (by omega), if_pos (s2 _), show hN (uI h g) + 1 = hN h + 1 from rfl, if_pos (s3 _), if_pos (by decide), if_pos (by decide), if_pos (nI_pos (by omega)), i0, ix_n (by omega), l2, l3, if_pos (show 0 + n ≤ m by omega), if_pos (show 0 + n ≤ n by omega), wr_s, cI_u, hI_u, rs_eq, rs_ne (show a ≠ hN h + 1 by omega)]
  · rw [rs_eq, pk_cpy_in (by omega) (by omega)]
    rw [show 0 + (i - 0) = i from by omega]
  · rw [rs_ne hr, rs_ne hr]
theorem C_linit_L (hs : hS h a = 20) (hl : hL h a = S) (hS4 : S < 1000) (s6 : hS h B = 6) : ∀ (m i : Nat) (x : Int32), i + m = S → (x = 0 ∨ x = 1) → ∀ q, ∃ f : Int32, f_Law_init_L47 (q + m + 1) (uI h g) B a x (nI i) = some (uI h (up2 g B 6 f)) ∧ (f = 0 ∨ f = 1) ∧ (f = 0 → x = 0 ∧ ∀ j, i ≤ j → j < S → g a j ≠ 1004) := by
  have hs' : hS (uI h g) a = 20 := hs
  have hl' : hL (uI h g) a = S := hl
  have s6' : hS (uI h g) B = 6 := s6
  intro m
  induction m with
  | zero =>
    intro i x hi hx q
    refine ⟨x, ?_, hx, fun z => ⟨z, fun j h1 h2 => by omega⟩⟩
    show f_Law_init_b47 (f_Law_init_L47 q) (uI h g) B a x (nI i) = _
    unfold f_Law_init_b47
    rw [if_pos hs', hl', if_pos (show Int32.ofNat S ≤ nI i from nI_le (a := S) (by omega) (by omega)), if_pos s6', if_pos hx, wr_s, sI_u]
  | succ m ih =>
    intro i x hi hx q
    have E : f_Law_init_L47 (q + (m + 1) + 1) (uI h g) B a x (nI i) = f_Law_init_b47 (f_Law_init_L47 (q + m + 1)) (uI h g) B a x (nI i) := rfl
    rw [E]
    unfold f_Law_init_b47
    rw [if_pos hs', hl', if_neg (show ¬ Int32.ofNat S ≤ nI i from nI_ge (b := S) (by omega) (by omega)), if_pos (ib_n (by omega) (by omega)), ix_n (by omega), hI_u]
    by_cases c : g a i = 1004
    · have x1 : x ||| 1 = 1 := by rcases hx with rfl | rfl <;> decide
      obtain ⟨f, z1, z2, z3⟩ := ih (i + 1) 1 (by omega) (Or.inr rfl) q
      refine ⟨f, ?_, z2, fun z => absurd (z3 z).1 (by decide)⟩
      rw [if_pos c]
      unfold f_Law_init_b73
      rw [x1, nI_1]
      exact z1
    · obtain ⟨f, z1, z2, z3⟩ := ih (i + 1) x (by omega) hx q
      refine ⟨f, ?_, z2, fun z => ⟨(z3 z).1, fun j h1 h2 => ?_⟩⟩
      · rw [if_neg c]
        unfold f_Law_init_b73
        rw [Int32.or_zero, nI_1]
        exact z1
      · by_cases q : j = i
        · subst q; exact c
        · exact (z3 z).2 j (by omega) h2
theorem C_made (tw : TSw h) (hn : 765 ≤ hN h) (e2 : g 11 2 = v) (e6 : g 11 6 = nI S) (hS4 : S < 400) : ∃ G, f_LawText_made (uI h g) 11 = some (hN h + 1, uI (lwH h S) G) ∧ (∀ r, r ≤ hN h → G r = g r) ∧ G (hN h + 1) 0 = v ∧ (∀ k, G (hN h + 1 + 1) k = g 12 k) ∧ (∀ k, G (hN h + 1 + 2) k = g 13 k) ∧ (∀ i, i < S → G (hN h + 1 + 3) i = g 14 i) ∧ (G (hN h + 1) 6 = 0 ∨ G (hN h + 1) 6 = 1) ∧ (G (hN h + 1) 6 = 0 → ∀ i, i < S → g 14 i ≠ 1004) := by
  obtain ⟨s11, ⟨q0, q3, q4, q5⟩, ⟨s12, l12⟩, ⟨s13, l13⟩, s14, l14⟩ := tw
  -- the heaps on the way
  obtain ⟨h1, eh1⟩ : ∃ H, H = hA h 6 0 (nF 5) := ⟨_, rfl⟩
  obtain ⟨h2, eh2⟩ : ∃ H, H = hA h1 20 12 12 := ⟨_, rfl⟩
  obtain ⟨h3, eh3⟩ : ∃ H, H = hA h2 20 12 12 := ⟨_, rfl⟩
  obtain ⟨h4, eh4⟩ : ∃ H, H = hA h3 20 S S := ⟨_, rfl⟩
  have N1 : hN h1 = hN h + 1 := by rw [eh1]; rfl
  have N2 : hN h2 = hN h + 1 + 1 := by rw [eh2, hN_A, N1]
  have N3 : hN h3 = hN h + 1 + 1 + 1 := by rw [eh3, hN_A, N2]
  have N4 : hN h4 = hN h + 1 + 1 + 1 + 1 := by rw [eh4, hN_A, N3]
  have o1 : ∀ r, r ≤ hN h → OLD h h1 r := fun r hr => by rw [eh1]; exact OLD.ha hr
  have o2 : ∀ r, r ≤ hN h + 1 → OLD h1 h2 r := fun r hr => by rw [eh2]; exact OLD.ha (by omega)
  have o3 : ∀ r, r ≤ hN h + 1 + 1 → OLD h2 h3 r := fun r hr => by rw [eh3]; exact OLD.ha (by omega)
  have o4 : ∀ r, r ≤ hN h + 1 + 1 + 1 → OLD h3 h4 r := fun r hr => by rw [eh4]; exact OLD.ha (by omega)
  have p2 : ∀ r, r ≤ hN h → OLD h h2 r := fun r hr => (o1 r hr).tr (o2 r (by omega))
  have p3 : ∀ r, r ≤ hN h → OLD h h3 r := fun r hr => (p2 r hr).tr (o3 r (by omega))
  obtain ⟨g1, eg1⟩ : ∃ G, G = rs2 g (hN h + 1) (fun _ => (0 : Int32)) := ⟨_, rfl⟩
  have k1 : ∀ r, r ≤ hN h → g1 r = g r := fun r hr => by rw [eg1, rs_ne (by omega)]
  have c1 := C_copyOf_all (h := h1) (g := g1) (a := 12) (n := 12) (y := 12) ((o1 12 (by omega)).1.trans s12) ((o1 12 (by omega)).2.1.trans l12) rfl
  obtain ⟨g2, eg2⟩ : ∃ G, G = rs2 g1 (hN h1 + 1) (g1 12) := ⟨_, rfl⟩
  rw [← eg2, ← eh2, N1] at c1
  have k2 : ∀ r, r ≤ hN h → g2 r = g r := fun r hr => by rw [eg2, N1, rs_ne (by omega)]; exact k1 r hr
  have c2 := C_copyOf_all (h := h2) (g := g2) (a := 13) (n := 12) (y := 12) ((p2 13 (by omega)).1.trans s13) ((p2 13 (by omega)).2.1.trans l13) rfl
  obtain ⟨g3, eg3⟩ : ∃ G, G = rs2 g2 (hN h2 + 1) (g2 13) := ⟨_, rfl⟩
  rw [← eg3, ← eh3, N2] at c2
  have k3 : ∀ r, r ≤ hN h → g3 r = g r := fun r hr => by rw [eg3, N2, rs_ne (by omega)]; exact k2 r hr
  obtain ⟨g4, c3, d1, d2⟩ := C_copyOf_n (h := h3) (g := g3) (a := 14) (n := S) (m := 400) (y := nI S) ((p3 14 (by omega)).1.trans s14) ((p3 14 (by omega)).2.1.trans l14) (by omega) hS4 (by decide) rfl
  rw [← eh4, N3] at c3
  rw [N3] at d1 d2
  have k4 : ∀ r, r ≤ hN h → g4 r = g r := fun r hr => by rw [d2 r (by omega)]; exact k3 r hr
  have f12 : g4 (hN h + 1 + 1) = g 12 := by
    rw [d2 _ (by omega), eg3, N2, rs_ne (by omega), eg2, N1]
    funext j
    rw [rs_eq, k1 12 (by omega)]
  have f13 : g4 (hN h + 1 + 1 + 1) = g 13 := by
    rw [d2 _ (by omega), eg3, N2]
    funext j
    rw [rs_eq, k2 13 (by omega)]
  have f14 : ∀ i, i < S → g4 (hN h + 1 + 1 + 1 + 1) i = g 14 i := fun i hi => by rw [d1 i hi, k3 14 (by omega)]
  have S7 : ∀ G, hS (uI h1 G) 11 = 7 := fun G => (o1 11 (by omega)).1.trans s11
  have S7b : ∀ G, hS (uI h2 G) 11 = 7 := fun G => (p2 11 (by omega)).1.trans s11
  have S7c : ∀ G, hS (uI h3 G) 11 = 7 := fun G => (p3 11 (by omega)).1.trans s11
  have R3 : ∀ G, hR (uI h1 G) 11 3 = 12 := fun G => ((o1 11 (by omega)).2.2 3).trans q3
  have R4 : ∀ G, hR (uI h2 G) 11 4 = 13 := fun G => ((p2 11 (by omega)).2.2 4).trans q4
  have R5 : ∀ G, hR (uI h3 G) 11 5 = 14 := fun G => ((p3 11 (by omega)).2.2 5).trans q5
  have L1 : OLD h1 h4 (hN h + 1) := ((o2 _ (by omega)).tr (o3 _ (by omega))).tr (o4 _ (by omega))
  have L6 : hS h4 (hN h + 1) = 6 := L1.1.trans (by rw [eh1, hS_A, if_pos rfl])
  -- its facts and its stack
  obtain ⟨h5, eh5⟩ : ∃ H, H = sR (hA h4 20 9 9) (hN h + 1) 4 (hN h + 1 + 1 + 1 + 1 + 1) := ⟨_, rfl⟩
  obtain ⟨h6, eh6⟩ : ∃ H, H = sR (hA h5 20 32 32) (hN h + 1) 5 (hN h + 1 + 1 + 1 + 1 + 1 + 1) := ⟨_, rfl⟩
  have N5 : hN h5 = hN h + 1 + 1 + 1 + 1 + 1 := by rw [eh5, hN_R, hN_A, N4]
  have z4 : hS (hA h4 20 9 9) (hN h + 1) = 6 := by rw [hS_A, if_neg (by omega)]; exact L6
  have z5 : hS h5 (hN h + 1) = 6 := by rw [eh5, hS_R]; exact z4
  have z6 : hS (hA h5 20 32 32) (hN h + 1) = 6 := by rw [hS_A, if_neg (by omega)]; exact z5
  have z6' : hS h6 (hN h + 1) = 6 := by rw [eh6, hS_R]; exact z6
  have t4 : hS h4 (hN h + 1 + 1 + 1 + 1) = 20 := by rw [eh4, hS_A, N3, if_pos rfl]
  have u4 : hL h4 (hN h + 1 + 1 + 1 + 1) = S := by rw [eh4, hL_A, N3, if_pos rfl]
  have t6 : hS h6 (hN h + 1 + 1 + 1 + 1) = 20 := by
    rw [eh6, hS_R, hS_A, if_neg (by omega), eh5, hS_R, hS_A, if_neg (by omega)]
    exact t4
  have u6 : hL h6 (hN h + 1 + 1 + 1 + 1) = S := by
    rw [eh6, hL_R, hL_A, if_neg (by omega), eh5, hL_R, hL_A, if_neg (by omega)]
    exact u4
  obtain ⟨g5, eg5⟩ : ∃ G, G = rs2 (rs2 g4 (hN h4 + 1) (fun _ => (0 : Int32))) (hN h5 + 1) (fun _ => 0) := ⟨_, rfl⟩
  have k5 : ∀ r, r ≤ hN h4 → g5 r = g4 r := fun r hr => by rw [eg5, rs_ne (by omega), rs_ne (by omega)]
  obtain ⟨f, y1, y2, y3⟩ := C_linit_L (h := sR (sR (sR h6 (hN h + 1) 1 (hN h + 1 + 1)) (hN h + 1) 2 (hN h + 1 + 1 + 1)) (hN h + 1) 3 (hN h + 1 + 1 + 1 + 1)) (g := up2 g5 (hN h + 1) 0 v) (a := hN h + 1 + 1 + 1 + 1) (B := hN h + 1) (S := S) t6 u6 (by omega) z6' S 0 0 (by omega) (Or.inl rfl) (999999 - S)
  rw [← FU_mm (by omega)] at y1
  have init : f_Law_init (uI h4 g4) (hN h + 1) v (hN h + 1 + 1) (hN h + 1 + 1 + 1) (hN h + 1 + 1 + 1 + 1) = some (uI (lwH h S) (up2 (up2 g5 (hN h + 1) 0 v) (hN h + 1) 6 f)) := by
    unfold f_Law_init f_Law_init_b0
    have i9 : ix (9 : Int32) = 9 := rfl
    have i32 : ix (32 : Int32) = 32 := rfl
    have w4 : ∀ G, hS (uI (hA h4 20 9 9) G) (hN h + 1) = 6 := fun G => z4
    have w6 : ∀ G, hS (uI (hA h5 20 32 32) G) (hN h + 1) = 6 := fun G => z6
    have n4 : ∀ G, hN (uI h4 G) + 1 = hN h + 1 + 1 + 1 + 1 + 1 := fun G => by show hN h4 + 1 = _; rw [N4]
    have n5 : ∀ G, hN (uI h5 G) + 1 = hN h + 1 + 1 + 1 + 1 + 1 + 1 := fun G => by show hN h5 + 1 = _; rw [N5]
    rw [if_pos (show hS (uI h4 g4) (hN h + 1) = 6 from L6), i9, i32, hA_uI, wr_s, if_pos (w4 _), sR_uI, n4, ← eh5, wr_s, hA_uI, wr_s, if_pos (w6 _), sR_uI, n5, ← eh6, ← eg5, wr_s, sI_u, wr_s, sR_uI, wr_s, sR_uI, wr_s, sR_uI, wr_s]
    have e : lwH h S = sR (sR (sR h6 (hN h + 1) 1 (hN h + 1 + 1)) (hN h + 1) 2 (hN h + 1 + 1 + 1)) (hN h + 1) 3 (hN h + 1 + 1 + 1 + 1) := by
      unfold lwH
      rw [eh6, eh5, eh4, eh3, eh2, eh1]
    rw [e]
    exact y1
  refine ⟨up2 (up2 g5 (hN h + 1) 0 v) (hN h + 1) 6 f, ?_, fun r hr => ?_, ?_, fun k => ?_, fun k => ?_, fun i hi => ?_, ?_, fun z i hi => ?_⟩
  · have m0 : ∀ G, f_Math_max (uI h3 G) (0 : Int32) (nI S) = some (nI S, uI h3 G) := fun G => by
      rw [show (0 : Int32) = nI 0 from rfl, mx_n (by decide) (by omega), Nat.max_eq_right (Nat.zero_le _)]
    have w46 : ∀ G, hS (uI h4 G) (hN h + 1) = 6 := fun G => L6
    unfold f_LawText_made f_LawText_made_b0
    rw [hA_uI, wr_s, ← eh1, ← eg1, if_pos (S7 _), R3, c1, bI_s, if_pos (S7b _), R4, c2, bI_s, if_pos (S7c _), hI_u, k3 11 (by omega), e6, m0, bI_s, R5, c3, bI_s, show hN (uI h g) = hN h from rfl, if_pos (w46 _), hI_u, k1 11 (by omega), e2, init, bV_s]
  · rw [up_row (by omega), up_row (by omega), k5 r (by omega)]; exact k4 r hr
  · rw [up_k (by decide), up_eq]
  · rw [up_row (by omega), up_row (by omega), k5 _ (by omega), f12]
  · rw [show hN h + 1 + 2 = hN h + 1 + 1 + 1 from by omega, up_row (by omega), up_row (by omega), k5 _ (by omega), f13]
  · rw [show hN h + 1 + 3 = hN h + 1 + 1 + 1 + 1 from by omega, up_row (by omega), up_row (by omega), k5 _ (by omega), f14 i hi]
  · rw [up_eq]; exact y2
  · rw [up_eq] at z
    have := (y3 z).2 i (Nat.zero_le _) hi
    rw [up_row (by omega), k5 _ (by omega), f14 i hi] at this
    exact this
end U63
