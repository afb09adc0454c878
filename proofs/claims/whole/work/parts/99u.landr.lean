/-! ===== a land's text: what it says, and the class reads it ===== -/
section U70
variable {h h' : Hp} {g g' g1 g2 G : Nat → Nat → Int32} {w w' : Nat → Int32} {b : Nat → Nat} {T p q n i j k m c s r d S M A a z B N K y lo hi e nn hh : Nat} {v u x : Int32} {L l : List (Nat × Nat × Nat × Nat)}
/-- a number from lo on, below hi, and what stands behind it -/
def nuC (b : Nat → Nat) (T lo hi p : Nat) (f : Nat → Nat → Nat ⊕ ((Nat × Nat × Nat × Nat) × Nat)) : Nat ⊕ ((Nat × Nat × Nat × Nat) × Nat) := if lo ≤ cdT b T p ∧ cdT b T p < hi then f (cdT b T p) (nx b T p) else .inl p
def tkC (b : Nat → Nat) (T c p : Nat) (f : Nat → Nat ⊕ ((Nat × Nat × Nat × Nat) × Nat)) : Nat ⊕ ((Nat × Nat × Nat × Nat) × Nat) := if cdT b T p = c then f (nx b T p) else .inl p
def ciR (b : Nat → Nat) (T q : Nat) : Nat ⊕ ((Nat × Nat × Nat × Nat) × Nat) := nuC b T 1 1000 q fun n r => if cdT b T r = 1005 then .inr ((1015, n, 1, 0), nx b T r) else if cdT b T r = 1006 then .inr ((1015, n, 2, 0), nx b T r) else if cdT b T r = 1007 then .inr ((1015, n, 3, 0), nx b T r) else .inr ((1015, n, 0, 0), r)
def poR (b : Nat → Nat) (T nn q : Nat) : Nat ⊕ ((Nat × Nat × Nat × Nat) × Nat) := nuC b T 0 1000 q fun n r => tkC b T 1017 r fun s => nuC b T 0 30 s fun y u => tkC b T 1018 u fun z => nuC b T 0 nn z fun c e => .inr ((1016, n, y, c), e)
def saR (b : Nat → Nat) (T q : Nat) : Nat ⊕ ((Nat × Nat × Nat × Nat) × Nat) := nuC b T 0 30 q fun y r => nuC b T 0 100 r fun s e => .inr ((1002, y, s, 0), e)
def hoR (b : Nat → Nat) (T nn q : Nat) : Nat ⊕ ((Nat × Nat × Nat × Nat) × Nat) := nuC b T 0 100 q fun n r => tkC b T 1020 r fun s => nuC b T 0 nn s fun c u => if cdT b T u = 1021 then nuC b T 0 100 (nx b T u) (fun l e => .inr ((1019, n, c, l), e)) else .inr ((1019, n, c, 99), u)
def leR (b : Nat → Nat) (T nn q : Nat) : Nat ⊕ ((Nat × Nat × Nat × Nat) × Nat) := nuC b T 0 nn q fun c r => if cdT b T r = 1024 then nuC b T 0 100 (nx b T r) (fun n e => .inr ((1022, c, 8, n), e)) else tkC b T 1023 r fun s => if cdT b T s = c then .inl s else nuC b T 0 nn s fun d u => nuC b T 0 100 u fun n e => .inr ((1022, c, d, n), e)
def seR (b : Nat → Nat) (T nn v q : Nat) : Nat ⊕ ((Nat × Nat × Nat × Nat) × Nat) := nuC b T 0 nn q fun c e => .inr ((v, c, 0, 0), e)
/-- a line of a land of nn cisterns and hh houses -/
def ldP (b : Nat → Nat) (T nn hh p : Nat) : Nat ⊕ ((Nat × Nat × Nat × Nat) × Nat) := if cdT b T p = 1002 then saR b T (nx b T p) else if cdT b T p = 1015 then (if nn < 8 then ciR b T (nx b T p) else .inl p) else if cdT b T p = 1016 then poR b T nn (nx b T p) else if cdT b T p = 1019 then (if hh < 8 then hoR b T nn (nx b T p) else .inl p) else if cdT b T p = 1022 then leR b T nn (nx b T p) else if cdT b T p = 1025 then seR b T nn 1025 (nx b T p) else if cdT b T p = 1026 then seR b T nn 1026 (nx b T p) else .inl p
/-- no more than the place and a field of the text have changed -/
def F6c (j : Nat) (g g' : Nat → Nat → Int32) : Prop := (∀ r, r ≠ 2 → r ≠ 6 → g' r = g r) ∧ ∀ k, k ≠ j → g' 6 k = g 6 k
/-- what a line may change -/
def F6l (g g' : Nat → Nat → Int32) : Prop := (∀ r, r ≠ 2 → r ≠ 6 → g' r = g r) ∧ ∀ k, k = 1 ∨ k = 2 → g' 6 k = g 6 k
theorem F6l.rf : F6l g g := ⟨fun _ _ _ => rfl, fun _ _ => rfl⟩
theorem F6l.tr (x : F6l g g1) (y : F6l g1 g') : F6l g g' := ⟨fun r h1 h2 => (y.1 r h1 h2).trans (x.1 r h1 h2), fun k hk => (y.2 k hk).trans (x.2 k hk)⟩
theorem F6c.ll (x : F6c j g g') (hj : 7 ≤ j) : F6l g g' := ⟨x.1, fun k hk => x.2 k (by omega)⟩
theorem FT.l6 (x : FT g g') : F6l g g' := ⟨fun r h1 _ => x r h1, fun k _ => by rw [x 6 (by decide)]⟩
theorem FT.c6 (x : FT g g') : g' 6 = g 6 := x 6 (by decide)
theorem C_isOne (t : TSt h) (tl : TSl h) (A : CA g b T p) (hh' : hi ≤ 1000) {x y : Int32} (hx : x = nI lo) (hl : lo < 5000) (hy : y = nI hi - 1) : (lo ≤ cdT b T p ∧ cdT b T p < hi ∧ p < T ∧ ∃ g', f_LandText_isOne (uI h g) 6 x y = some (1, uI h g') ∧ CA g' b T (nx b T p) ∧ g' 6 9 = nI (cdT b T p) ∧ F6c 9 g g') ∨ (¬ (lo ≤ cdT b T p ∧ cdT b T p < hi) ∧ ∃ g', f_LandText_isOne (uI h g) 6 x y = some (0, uI h g') ∧ g' 2 5 = nI p ∧ F6c 9 g g') := by
  have s2 : ∀ g, hS (uI h g) 2 = 9 := fun g => t.1
  have s6 : ∀ g, hS (uI h g) 6 = 5 := fun g => tl.1
  have r0 : ∀ g, hR (uI h g) 6 0 = 2 := fun g => tl.2.1.1
  rcases C_number t A hh' hx hl hy with ⟨c1, c2, hp, g1, a1, a2, a3⟩ | ⟨c, g1, a1, a2, a3⟩
  · refine Or.inl ⟨c1, c2, hp, up2 g1 6 9 (nI (cdT b T p)), ?_, a2.fr fun r hr => up_row (by omega), up_eq, fun r h1 h2 => (up_row h2).trans (a3 r h1), fun k hk => (up_k hk).trans (by rw [a3 6 (by decide)])⟩
    unfold f_LandText_isOne f_LandText_isOne_b0
    rw [if_pos (s6 _), r0, if_pos (s2 _), a1, bI_s, if_pos (s6 _), wr_s, sI_u, hI_u, up_eq, if_neg (fun z => by
      have := neg_lt (n := cdT b T p) (by omega)
      rw [z] at this
      exact Int32.lt_irrefl this)]
  · refine Or.inr ⟨c, up2 g1 6 9 (-1), ?_, (by rw [up_r (by decide)]; exact a2), fun r h1 h2 => (up_row h2).trans (a3 r h1), fun k hk => (up_k hk).trans (by rw [a3 6 (by decide)])⟩
    unfold f_LandText_isOne f_LandText_isOne_b0
    rw [if_pos (s6 _), r0, if_pos (s2 _), a1, bI_s, if_pos (s6 _), wr_s, sI_u, hI_u, up_eq, if_pos rfl]
theorem C_isTwo (t : TSt h) (tl : TSl h) (A : CA g b T p) (hh' : hi ≤ 1000) {x y : Int32} (hx : x = nI lo) (hl : lo < 5000) (hy : y = nI hi - 1) : (lo ≤ cdT b T p ∧ cdT b T p < hi ∧ p < T ∧ ∃ g', f_LandText_isTwo (uI h g) 6 x y = some (1, uI h g') ∧ CA g' b T (nx b T p) ∧ g' 6 10 = nI (cdT b T p) ∧ F6c 10 g g') ∨ (¬ (lo ≤ cdT b T p ∧ cdT b T p < hi) ∧ ∃ g', f_LandText_isTwo (uI h g) 6 x y = some (0, uI h g') ∧ g' 2 5 = nI p ∧ F6c 10 g g') := by
  have s2 : ∀ g, hS (uI h g) 2 = 9 := fun g => t.1
  have s6 : ∀ g, hS (uI h g) 6 = 5 := fun g => tl.1
  have r0 : ∀ g, hR (uI h g) 6 0 = 2 := fun g => tl.2.1.1
  rcases C_number t A hh' hx hl hy with ⟨c1, c2, hp, g1, a1, a2, a3⟩ | ⟨c, g1, a1, a2, a3⟩
  · refine Or.inl ⟨c1, c2, hp, up2 g1 6 10 (nI (cdT b T p)), ?_, a2.fr fun r hr => up_row (by omega), up_eq, fun r h1 h2 => (up_row h2).trans (a3 r h1), fun k hk => (up_k hk).trans (by rw [a3 6 (by decide)])⟩
    unfold f_LandText_isTwo f_LandText_isTwo_b0
    rw [if_pos (s6 _), r0, if_pos (s2 _), a1, bI_s, if_pos (s6 _), wr_s, sI_u, hI_u, up_eq, if_neg (fun z => by
      have := neg_lt (n := cdT b T p) (by omega)
      rw [z] at this
      exact Int32.lt_irrefl this)]
  · refine Or.inr ⟨c, up2 g1 6 10 (-1), ?_, (by rw [up_r (by decide)]; exact a2), fun r h1 h2 => (up_row h2).trans (a3 r h1), fun k hk => (up_k hk).trans (by rw [a3 6 (by decide)])⟩
    unfold f_LandText_isTwo f_LandText_isTwo_b0
    rw [if_pos (s6 _), r0, if_pos (s2 _), a1, bI_s, if_pos (s6 _), wr_s, sI_u, hI_u, up_eq, if_pos rfl]
theorem C_isThree (t : TSt h) (tl : TSl h) (A : CA g b T p) (hh' : hi ≤ 1000) {x y : Int32} (hx : x = nI lo) (hl : lo < 5000) (hy : y = nI hi - 1) : (lo ≤ cdT b T p ∧ cdT b T p < hi ∧ p < T ∧ ∃ g', f_LandText_isThree (uI h g) 6 x y = some (1, uI h g') ∧ CA g' b T (nx b T p) ∧ g' 6 11 = nI (cdT b T p) ∧ F6c 11 g g') ∨ (¬ (lo ≤ cdT b T p ∧ cdT b T p < hi) ∧ ∃ g', f_LandText_isThree (uI h g) 6 x y = some (0, uI h g') ∧ g' 2 5 = nI p ∧ F6c 11 g g') := by
  have s2 : ∀ g, hS (uI h g) 2 = 9 := fun g => t.1
  have s6 : ∀ g, hS (uI h g) 6 = 5 := fun g => tl.1
  have r0 : ∀ g, hR (uI h g) 6 0 = 2 := fun g => tl.2.1.1
  rcases C_number t A hh' hx hl hy with ⟨c1, c2, hp, g1, a1, a2, a3⟩ | ⟨c, g1, a1, a2, a3⟩
  · refine Or.inl ⟨c1, c2, hp, up2 g1 6 11 (nI (cdT b T p)), ?_, a2.fr fun r hr => up_row (by omega), up_eq, fun r h1 h2 => (up_row h2).trans (a3 r h1), fun k hk => (up_k hk).trans (by rw [a3 6 (by decide)])⟩
    unfold f_LandText_isThree f_LandText_isThree_b0
    rw [if_pos (s6 _), r0, if_pos (s2 _), a1, bI_s, if_pos (s6 _), wr_s, sI_u, hI_u, up_eq, if_neg (fun z => by
      have := neg_lt (n := cdT b T p) (by omega)
      rw [z] at this
      exact Int32.lt_irrefl this)]
  · refine Or.inr ⟨c, up2 g1 6 11 (-1), ?_, (by rw [up_r (by decide)]; exact a2), fun r h1 h2 => (up_row h2).trans (a3 r h1), fun k hk => (up_k hk).trans (by rw [a3 6 (by decide)])⟩
    unfold f_LandText_isThree f_LandText_isThree_b0
    rw [if_pos (s6 _), r0, if_pos (s2 _), a1, bI_s, if_pos (s6 _), wr_s, sI_u, hI_u, up_eq, if_pos rfl]
/-- what the class has read of a line -/
def CLd (r : Nat ⊕ ((Nat × Nat × Nat × Nat) × Nat)) (nn hh : Nat) (v : Int32) (g : Nat → Nat → Int32) (b : Nat → Nat) (T : Nat) : Prop := match r with
  | .inl q => v = 0 ∧ g 2 5 = nI q
  | .inr (z, q) => v = 1 ∧ CA g b T q ∧ g 6 9 = nI z.2.1 ∧ (z.1 < 1025 → g 6 10 = twI z.1 z.2.2.1) ∧ ((z.1 = 1016 ∨ z.1 = 1019 ∨ z.1 = 1022) → g 6 11 = nI z.2.2.2) ∧ g 6 7 = nI (if z.1 = 1015 then nn + 1 else nn) ∧ g 6 8 = nI (if z.1 = 1019 then hh + 1 else hh)
theorem nuC_y {f : Nat → Nat → Nat ⊕ ((Nat × Nat × Nat × Nat) × Nat)} (c1 : lo ≤ cdT b T p) (c2 : cdT b T p < hi) : nuC b T lo hi p f = f (cdT b T p) (nx b T p) := if_pos ⟨c1, c2⟩
theorem nuC_n {f : Nat → Nat → Nat ⊕ ((Nat × Nat × Nat × Nat) × Nat)} (c : ¬ (lo ≤ cdT b T p ∧ cdT b T p < hi)) : nuC b T lo hi p f = .inl p := if_neg c
theorem tkC_y {f : Nat → Nat ⊕ ((Nat × Nat × Nat × Nat) × Nat)} (e : cdT b T p = c) : tkC b T c p f = f (nx b T p) := if_pos e
theorem tkC_n {f : Nat → Nat ⊕ ((Nat × Nat × Nat × Nat) × Nat)} (e : cdT b T p ≠ c) : tkC b T c p f = .inl p := if_neg e
theorem C_seR (t : TSt h) (tl : TSl h) (A : CA g b T p) (e7 : g 6 7 = nI nn) (e8 : g 6 8 = nI hh) (n8 : nn ≤ 8) (hv : s = 1025 ∨ s = 1026) : ∃ v g', f_LandText_isRest (uI h g) 6 (nI s) = some (v, uI h g') ∧ CLd (seR b T nn s p) nn hh v g' b T ∧ F6l g g' := by
  have s6 : ∀ g, hS (uI h g) 6 = 5 := fun g => tl.1
  have go : f_LandText_isRest (uI h g) 6 (nI s) = bI (f_LandText_isOne (uI h g) 6 0 (nI nn - 1)) fun v61 h62 => if v61 = 0 ∨ v61 = 1 then some (v61, h62) else none := by
    unfold f_LandText_isRest f_LandText_isRest_b0
    rcases hv with rfl | rfl
    · rw [if_neg (by decide), if_neg (by decide), if_neg (by decide), if_neg (by decide), if_neg (by decide), if_pos (s6 _), hI_u, e7]
    · rw [if_neg (by decide), if_neg (by decide), if_neg (by decide), if_neg (by decide), if_neg (by decide), if_pos (s6 _), hI_u, e7]
  rw [go]
  unfold seR
  rcases C_isOne (x := 0) (y := nI nn - 1) (lo := 0) (hi := nn) t tl A (by omega) rfl (by decide) rfl with ⟨c1, c2, hp, g1, a1, a2, a3, a4⟩ | ⟨c, g1, a1, a2, a3⟩
  · refine ⟨1, g1, by rw [a1, bI_s, if_pos (Or.inr rfl)], ?_, a4.ll (by decide)⟩
    rw [nuC_y c1 c2]
    have h1 : ¬ s = 1015 := by omega
    have h2 : ¬ s = 1019 := by omega
    exact ⟨rfl, a2, a3, fun z => by have z : s < 1025 := z; omega, fun z => by have z : s = 1016 ∨ s = 1019 ∨ s = 1022 := z; omega, by show g1 6 7 = nI (if s = 1015 then nn + 1 else nn); rw [if_neg h1, a4.2 7 (by decide)]; exact e7, by show g1 6 8 = nI (if s = 1019 then hh + 1 else hh); rw [if_neg h2, a4.2 8 (by decide)]; exact e8⟩
  · refine ⟨0, g1, by rw [a1, bI_s, if_pos (Or.inl rfl)], ?_, a3.ll (by decide)⟩
    rw [nuC_n c]
    exact ⟨rfl, a2⟩
theorem C_saR (t : TSt h) (tl : TSl h) (A : CA g b T p) (e7 : g 6 7 = nI nn) (e8 : g 6 8 = nI hh) : ∃ v g', f_LandText_isRest (uI h g) 6 1002 = some (v, uI h g') ∧ CLd (saR b T p) nn hh v g' b T ∧ F6l g g' := by
  have s6 : ∀ g, hS (uI h g) 6 = 5 := fun g => tl.1
  unfold f_LandText_isRest f_LandText_isRest_b0 saR
  rw [if_pos rfl, if_pos (s6 _)]
  rcases C_isOne (x := 0) (y := 29) (lo := 0) (hi := 30) t tl A (by decide) rfl (by decide) (by decide) with ⟨c1, c2, hp, g1, a1, a2, a3, a4⟩ | ⟨c, g1, a1, a2, a3⟩
  · rw [a1, bI_s, if_neg (by decide), if_pos (s6 _), nuC_y c1 c2]
    rcases C_isTwo (x := 0) (y := 99) (lo := 0) (hi := 100) t tl a2 (by decide) rfl (by decide) (by decide) with ⟨d1, d2, hp2, g2, b1, b2, b3, b4⟩ | ⟨d, g2, b1, b2, b3⟩
    · refine ⟨1, g2, by rw [b1, bI_s, if_neg (by decide)], ?_, (a4.ll (by decide)).tr (b4.ll (by decide))⟩
      rw [nuC_y d1 d2]
      exact ⟨rfl, b2, by rw [b4.2 9 (by decide)]; exact a3, fun _ => b3, fun z => by have z : (1002 : Nat) = 1016 ∨ (1002 : Nat) = 1019 ∨ (1002 : Nat) = 1022 := z; omega, by rw [b4.2 7 (by decide), a4.2 7 (by decide)]; exact e7, by rw [b4.2 8 (by decide), a4.2 8 (by decide)]; exact e8⟩
    · refine ⟨0, g2, by rw [b1, bI_s, if_pos rfl], ?_, (a4.ll (by decide)).tr (b3.ll (by decide))⟩
      rw [nuC_n d]
      exact ⟨rfl, b2⟩
  · refine ⟨0, g1, by rw [a1, bI_s, if_pos rfl], ?_, a3.ll (by decide)⟩
    rw [nuC_n c]
    exact ⟨rfl, a2⟩
theorem C_poR (t : TSt h) (tl : TSl h) (A : CA g b T p) (e7 : g 6 7 = nI nn) (e8 : g 6 8 = nI hh) (n8 : nn ≤ 8) : ∃ v g', f_LandText_isRest (uI h g) 6 1016 = some (v, uI h g') ∧ CLd (poR b T nn p) nn hh v g' b T ∧ F6l g g' := by
  have s2 : ∀ g, hS (uI h g) 2 = 9 := fun g => t.1
  have s6 : ∀ g, hS (uI h g) 6 = 5 := fun g => tl.1
  have r0 : ∀ g, hR (uI h g) 6 0 = 2 := fun g => tl.2.1.1
  unfold f_LandText_isRest f_LandText_isRest_b0 poR
  rw [if_neg (by decide), if_neg (by decide), if_pos rfl, if_pos (s6 _)]
  rcases C_isOne (x := 0) (y := 999) (lo := 0) (hi := 1000) t tl A (by decide) rfl (by decide) (by decide) with ⟨c1, c2, hp, g1, a1, a2, a3, a4⟩ | ⟨c, g1, a1, a2, a3⟩
  · have F1 := a4.ll (by decide)
    rw [a1, bI_s, if_neg (by decide), if_pos (s6 _), r0, if_pos (s2 _), nuC_y c1 c2]
    rcases C_takes (x := 1017) (c := 1017) t a2 (by decide) rfl with ⟨d, hp2, g2, b1, b2, b3⟩ | ⟨d, g2, b1, b2, b3⟩
    · have F2 := F1.tr b3.l6
      rw [b1, bI_s, if_neg (by decide), if_pos (s6 _), tkC_y d]
      rcases C_isTwo (x := 0) (y := 29) (lo := 0) (hi := 30) t tl b2 (by decide) rfl (by decide) (by decide) with ⟨k1, k2, hp3, g3, m1, m2, m3, m4⟩ | ⟨k, g3, m1, m2, m3⟩
      · have F3 := F2.tr (m4.ll (by decide))
        rw [m1, bI_s, if_neg (by decide), if_pos (s6 _), r0, if_pos (s2 _), nuC_y k1 k2]
        rcases C_takes (x := 1018) (c := 1018) t m2 (by decide) rfl with ⟨f, hp4, g4, n1, n2, n3⟩ | ⟨f, g4, n1, n2, n3⟩
        · have F4 := F3.tr n3.l6
          have f7 : g4 6 7 = nI nn := by rw [n3.c6, m4.2 7 (by decide), b3.c6, a4.2 7 (by decide)]; exact e7
          have f8 : g4 6 8 = nI hh := by rw [n3.c6, m4.2 8 (by decide), b3.c6, a4.2 8 (by decide)]; exact e8
          rw [n1, bI_s, if_neg (by decide), if_pos (s6 _), hI_u, f7, tkC_y f]
          rcases C_isThree (x := 0) (y := nI nn - 1) (lo := 0) (hi := nn) t tl n2 (by omega) rfl (by decide) rfl with ⟨o1, o2, hp5, g5, q1, q2, q3, q4⟩ | ⟨o, g5, q1, q2, q3⟩
          · refine ⟨1, g5, by rw [q1, bI_s, if_neg (by decide)], ?_, F4.tr (q4.ll (by decide))⟩
            rw [nuC_y o1 o2]
            exact ⟨rfl, q2, by rw [q4.2 9 (by decide), n3.c6, m4.2 9 (by decide), b3.c6]; exact a3, fun _ => by rw [q4.2 10 (by decide), n3.c6]; exact m3, fun _ => q3, by rw [q4.2 7 (by decide)]; exact f7, by rw [q4.2 8 (by decide)]; exact f8⟩
          · refine ⟨0, g5, by rw [q1, bI_s, if_pos rfl], ?_, F4.tr (q3.ll (by decide))⟩
            rw [nuC_n o]
            exact ⟨rfl, q2⟩
        · refine ⟨0, g4, by rw [n1, bI_s, if_pos rfl], ?_, F3.tr n3.l6⟩
          rw [tkC_n f]
          exact ⟨rfl, n2⟩
      · refine ⟨0, g3, by rw [m1, bI_s, if_pos rfl], ?_, F2.tr (m3.ll (by decide))⟩
        rw [nuC_n k]
        exact ⟨rfl, m2⟩
    · refine ⟨0, g2, by rw [b1, bI_s, if_pos rfl], ?_, F1.tr b3.l6⟩
      rw [tkC_n d]
      exact ⟨rfl, b2⟩
  · refine ⟨0, g1, by rw [a1, bI_s, if_pos rfl], ?_, a3.ll (by decide)⟩
    rw [nuC_n c]
    exact ⟨rfl, a2⟩
end U70
