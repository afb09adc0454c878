/-! ===== a Land of the class holds a world; its leaks ===== -/
section U6
variable {h : Hp} {g g' g1 : Nat → Nat → Int32} {w w' : Nat → Int32} {A c d k n l y j m q s i F r z : Nat} {v x : Int32} {f p : Nat → Nat}
def nc (w : Nat → Int32) : Nat := ix (w 0)
def nh (w : Nat → Int32) : Nat := ix (w 1)
def nd (w : Nat → Int32) : Nat := ix (w 10)
def RLs (g : Nat → Nat → Int32) (A : Nat) (w : Nat → Int32) : Prop := g A 0 = w 0 ∧ g A 1 = w 1 ∧ g A 2 = w 10 ∧ g A 9 = w 2 ∧ g A 10 = w 4 ∧ g A 11 = w 5 ∧ g A 12 = w 6 ∧ g A 13 = w 7 ∧ g A 14 = w 8 ∧ g A 15 = w 9
def RLc (g : Nat → Nat → Int32) (A : Nat) (w : Nat → Int32) (c : Nat) : Prop := (∀ j, j < 5 → g (A + 6 + 2 * c) j = w (65 + 35 * c + j)) ∧ (∀ y, y < 30 → g (A + 6 + 2 * c + 1) y = w (70 + 35 * c + y)) ∧ g (A + 6 + 2 * c) 5 = nI (ms w c)
def RLh (g : Nat → Nat → Int32) (A : Nat) (w : Nat → Int32) (k : Nat) : Prop := (∀ j, j < 4 → g (A + 22 + 2 * k) j = w (345 + 34 * k + j)) ∧ (∀ y, y < 30 → g (A + 22 + 2 * k + 1) y = w (349 + 34 * k + y))
def RLd (g : Nat → Nat → Int32) (A : Nat) (w : Nat → Int32) (d : Nat) : Prop := ∀ j, j < 3 → g (A + 38 + d) j = w (11 + 3 * d + j)
def RLy (g : Nat → Nat → Int32) (A : Nat) (w : Nat → Int32) : Prop := ∀ y, y < 30 → g (A + 4) y = w (35 + y)
/-- the Land at A holds the world w (its law aside) -/
def RLa (g : Nat → Nat → Int32) (A : Nat) (w : Nat → Int32) : Prop := RLs g A w ∧ (∀ c, c < nc w → RLc g A w c) ∧ (∀ k, k < nh w → RLh g A w k) ∧ (∀ d, d < nd w → RLd g A w d) ∧ RLy g A w
/-- nothing but the Land at A has changed -/
def FA (A : Nat) (g g' : Nat → Nat → Int32) : Prop := ∀ r, (r < A ∨ A + 45 < r) → g' r = g r
theorem FA.rf : FA A g g := fun _ _ => rfl
theorem FA.tr (x : FA A g g1) (y : FA A g1 g') : FA A g g' := fun r hr => (y r hr).trans (x r hr)
theorem ix_b {b : Nat} (e : x = nI b) (h : b < 2 ^ 31) : ix x = b := by rw [e, ix_n h]
theorem ms_c (O : OKL w c) (hu : m ≤ ms w c) : ms (mvW w c d m s) c = ms w c - m := by
  have hm : ms w c = smN (ly w c) 30 := rfl
  have sm := drN_sum (f := ly w c) (n := m) (by omega)
  have e : ms (mvW w c d m s) c = smN (drN (ly w c) m) 30 := smN_congr fun y hy => ix_b (mv_c hy) (by have := (O y hy).2; have := drN_le (f := ly w c) (n := m) (y := y); omega)
  rw [e]; omega
theorem ms_d (O : OKL w c) (D : OKL w d) (e1 : d ≠ c) (hd : d < 8) (hs : s ≤ ms w c) : ms (mvW w c d m s) d = ms w d + s := by
  have e : ms (mvW w c d m s) d = smN (fun y => ly w d y + shF (ly w c) s y) 30 := smN_congr fun y hy => by
    refine ix_b (by rw [mv_d e1 hd hy, (D y hy).1, nI_add]) ?_
    have := (D y hy).2
    have := (O y hy).2
    have := shF_le (f := ly w c) (n := s) (y := y)
    omega
  rw [e, smN_add, shF_sum hs]
  rfl
theorem ms_o (h1 : z ≠ c) (h2 : z ≠ d) : ms (mvW w c d m s) z = ms w z := ms_eq fun y hy => mv_l h1 h2 hy
/-- where it is -/
def ca (A d : Nat) : Nat := if d < 8 then A + 6 + 2 * d else 0
theorem RLa.mv (R : RLa g A w) (hA : 6 ≤ A) (hc : c < nc w) (h8 : nc w ≤ 8) (hk8 : nh w ≤ 8) (hd8 : nd w ≤ 8) (hd : d < 8 → d < nc w ∧ d ≠ c) (O : ∀ c, c < nc w → OKL w c) (hu : m ≤ ms w c) (hs : s ≤ m) (M : MV g g' A (A + 6 + 2 * c) (ca A d) (ly w c) m s) : RLa g' A (mvW w c d m s) ∧ FA A g g' := by
  obtain ⟨⟨s0, s1, s2, s3, s4, s5, s6, s7, s8, s9⟩, Rc, Rh, Rd, Ry⟩ := R
  obtain ⟨m1, m2, m3, m4, m5⟩ := M
  have ci : ∀ d, d < 8 → ca A d = A + 6 + 2 * d := fun d hd => if_pos hd
  have c0 : ca A d = 0 ∨ (d < 8 ∧ ca A d = A + 6 + 2 * d) := by
    by_cases e : d < 8
    · exact Or.inr ⟨e, ci d e⟩
    · exact Or.inl (if_neg e)
  have T : ∀ r k, ¬ (r = A + 6 + 2 * c ∧ k = 5) → ¬ (r = A + 6 + 2 * c + 1) → (d < 8 → ¬ (r = A + 6 + 2 * d ∧ k = 5) ∧ ¬ (r = A + 6 + 2 * d + 1)) → ¬ (r = A ∧ k = 12) → g' r k = g r k := by
    intro r k h1 h2 h3 h4
    refine m5 r k (fun z => h2 z.1) h1 (fun z => ?_) h4
    rcases c0 with q | ⟨q, q2⟩
    · exact absurd q z
    · rw [q2]
      exact ⟨fun z => (h3 q).2 z.1, (h3 q).1⟩
  have SC : ∀ k, k ≠ 12 → g' A k = g A k := fun k hk => T A k (fun z => by have := z.1; omega) (by omega) (fun _ => ⟨fun z => by have := z.1; omega, by omega⟩) (fun z => hk z.2)
  have lo : ∀ k, k < 65 → k ≠ 6 → mvW w c d m s k = w k := fun k h1 h2 => mv_o (by omega) (by omega) h2
  have hi : ∀ k, 345 ≤ k → mvW w c d m s k = w k := fun k h1 => mv_o (by omega) (by omega) (by omega)
  have n0 : nc (mvW w c d m s) = nc w := congrArg ix (lo 0 (by decide) (by decide))
  have n1 : nh (mvW w c d m s) = nh w := congrArg ix (lo 1 (by decide) (by decide))
  have n2 : nd (mvW w c d m s) = nd w := congrArg ix (lo 10 (by decide) (by decide))
  refine ⟨⟨⟨?_, ?_, ?_, ?_, ?_, ?_, ?_, ?_, ?_, ?_⟩, ?_, ?_, ?_, ?_⟩, ?_⟩
  · rw [SC 0 (by decide), lo 0 (by decide) (by decide)]; exact s0
  · rw [SC 1 (by decide), lo 1 (by decide) (by decide)]; exact s1
  · rw [SC 2 (by decide), lo 10 (by decide) (by decide)]; exact s2
  · rw [SC 9 (by decide), lo 2 (by decide) (by decide)]; exact s3
  · rw [SC 10 (by decide), lo 4 (by decide) (by decide)]; exact s4
  · rw [SC 11 (by decide), lo 5 (by decide) (by decide)]; exact s5
  · rw [m4, mv_6, s6]
  · rw [SC 13 (by decide), lo 7 (by decide) (by decide)]; exact s7
  · rw [SC 14 (by decide), lo 8 (by decide) (by decide)]; exact s8
  · rw [SC 15 (by decide), lo 9 (by decide) (by decide)]; exact s9
  · intro c' hc'
    rw [n0] at hc'
    obtain ⟨r1, r2, r3⟩ := Rc c' hc'
    refine ⟨fun j hj => ?_, ?_, ?_⟩
    · rw [mv_h hj, T _ _ (fun z => by have := z.2; omega) (by omega) (fun _ => ⟨fun z => by have := z.2; omega, by omega⟩) (fun z => by have := z.1; omega)]
      exact r1 j hj
    · intro y hy
      by_cases e1 : c' = c
      · subst e1
        rw [m1 y hy, mv_c hy]
      · by_cases e2 : c' = d
        · subst e2
          have e3 := ci c' (by omega)
          obtain ⟨m6, -⟩ := m3 (by omega)
          rw [e3] at m6
          rw [m6 y hy, mv_d e1 (by omega) hy, r2 y hy]
        · rw [mv_l e1 e2 hy, T _ _ (fun z => by have := z.1; omega) (by omega) (fun _ => ⟨fun z => by have := z.1; omega, by omega⟩) (fun z => by have := z.1; omega)]
          exact r2 y hy
    · by_cases e1 : c' = c
      · subst e1
        rw [m2, ms_c (O c' hc) hu]
        rfl
      · by_cases e2 : c' = d
        · subst e2
          have e3 := ci c' (by omega)
          obtain ⟨-, m6⟩ := m3 (by omega)
          rw [e3] at m6
          rw [m6, ms_d (O c hc) (O c' hc') e1 (by omega) (by omega), r3, nI_add]
        · rw [ms_o e1 e2, T _ _ (fun z => by have := z.1; omega) (by omega) (fun _ => ⟨fun z => by have := z.1; omega, by omega⟩) (fun z => by have := z.1; omega)]
          exact r3
  · intro k hk
    rw [n1] at hk
    refine ⟨fun j hj => ?_, fun y hy => ?_⟩
    · rw [hi _ (by omega), T _ _ (fun z => by have := z.1; omega) (by omega) (fun _ => ⟨fun z => by have := z.1; omega, by omega⟩) (fun z => by have := z.1; omega)]
      exact (Rh k hk).1 j hj
    · rw [hi _ (by omega), T _ _ (fun z => by have := z.1; omega) (by omega) (fun _ => ⟨fun z => by have := z.1; omega, by omega⟩) (fun z => by have := z.1; omega)]
      exact (Rh k hk).2 y hy
  · intro k hk
    rw [n2] at hk
    intro j hj
    rw [lo _ (by omega) (by omega), T _ _ (fun z => by have := z.1; omega) (by omega) (fun _ => ⟨fun z => by have := z.1; omega, by omega⟩) (fun z => by have := z.1; omega)]
    exact Rd k hk j hj
  · intro y hy
    rw [lo _ (by omega) (by omega), T _ _ (fun z => by have := z.1; omega) (by omega) (fun _ => ⟨fun z => by have := z.1; omega, by omega⟩) (fun z => by have := z.1; omega)]
    exact Ry y hy
  · intro r hr
    funext k
    exact T _ _ (fun z => by have := z.1; omega) (by omega) (fun _ => ⟨fun z => by have := z.1; omega, by omega⟩) (fun z => by have := z.1; omega)
/-! the class -/
theorem LDs.iu (t : LDs h A) : LDs (uI h g) A := t
theorem C_has (t : LDs h A) (e0 : g A 0 = nI n) (hn : n ≤ 8) (hd : d = 8 ∨ d < n) : f_Land_hasCistern (uI h g) A (tI d) = some (if d < 8 then 1 else 0, uI h g) := by
  have s := (t.iu (g := g)).1
  unfold f_Land_hasCistern f_Land_hasCistern_b0
  by_cases e : d < 8
  · have T : tI d = nI d := if_pos e
    rw [T, if_neg (nI_pos (by omega)), if_pos s, hI_u, e0, if_neg (nI_ge (by omega) (by omega)), show (8 : Int32) = nI 8 from rfl, if_neg (nI_nlt hn (by omega)), if_pos e]
  · have T : tI d = -1 := if_neg e
    rw [T, if_pos (by decide), if_neg e]
theorem LDs.cr (t : LDs h A) (hc : c < 8) : hR h (A + 1) c = A + 6 + 2 * c ∧ hS h (A + 6 + 2 * c) = 1 ∧ hR h A 3 = A + 1 ∧ hS h (A + 1) = 23 ∧ hL h (A + 1) = 8 := by
  obtain ⟨-, ⟨r3, -⟩, ⟨a1, a2⟩, -, -, -, -, xc, -⟩ := t
  exact ⟨(xc c hc).1, (xc c hc).2.1, r3, a1, a2⟩
/-- how a Land, its world and its cisterns stand -/
def WFn (w : Nat → Int32) : Prop := w 0 = nI (nc w) ∧ nc w ≤ 8 ∧ nh w ≤ 8 ∧ nd w ≤ 8 ∧ ∀ c, c < nc w → WFC w (nc w) c
theorem C_drip (t : LDs h A) (hA : 6 ≤ A) (R : RLa g A w) (W : WFn w) (hc : c < nc w) (d : Nat) (hd : d < 8 → d < nc w ∧ d ≠ c) (hn : n < 2 ^ 20) :
    ∃ g', f_Land_moveMost (uI h g) A (A + 6 + 2 * c) (ca A d) (nI n) = some (uI h g') ∧ RLa g' A (mvW w c d (min n (ms w c)) (if d < 8 then min (min n (ms w c)) (rm w d - ms w d) else 0)) ∧ FA A g g' := by
  obtain ⟨W0, W1, W2, W3, W4⟩ := W
  have Wc := W4 c hc
  obtain ⟨r1, r2, r3⟩ := R.2.1 c hc
  have hm : ms w c = smN (ly w c) 30 := rfl
  have c0 : (d < 8 → ca A d = A + 6 + 2 * d) ∧ (¬ d < 8 → ca A d = 0) := ⟨fun e => if_pos e, fun e => if_neg e⟩
  have T : isT h (A + 6 + 2 * c) (ca A d) := by
    by_cases e : d < 8
    · have := (hd e).2
      rw [c0.1 e]
      exact Or.inr ⟨t.cs e, by omega, by omega, by omega⟩
    · exact Or.inl (c0.2 e)
  obtain ⟨g', q1, q2⟩ := C_move (h := h) (g := g) (A := A) (a := A + 6 + 2 * c) (T := ca A d) (n := n) (f := ly w c) (q := rm w d) (m := ms w d) t.1 (t.cs (by omega)) T (by omega) (by omega) (by unfold ca; split <;> omega) (by unfold ca; split <;> omega)
    (fun y hy => by rw [r2 y hy]; exact (Wc.1 y hy).1) (fun y hy => (Wc.1 y hy).2) r3 (by omega) (fun z => by
      by_cases e : d < 8
      · have D := W4 d (hd e).1
        have D2 := D.ms_lt
        have D3 := D.2.1
        obtain ⟨x1, -, x3⟩ := R.2.1 d (hd e).1
        rw [c0.1 e]
        have x1' : g (A + 6 + 2 * d) 0 = w (65 + 35 * d) := x1 0 (by decide)
        rw [D3.1] at x1'
        exact ⟨x1', x3, by omega, by omega⟩
      · exact absurd (c0.2 e) z)
  have e9 : (if ca A d = 0 then 0 else min (min n (smN (ly w c) 30)) (rm w d - ms w d)) = (if d < 8 then min (min n (ms w c)) (rm w d - ms w d) else 0) := by
    by_cases e : d < 8
    · rw [if_pos e, c0.1 e, if_neg (by omega), hm]
    · rw [if_neg e, c0.2 e, if_pos rfl]
  rw [e9, ← hm] at q2
  refine ⟨g', q1, RLa.mv R hA hc W1 W2 W3 hd (fun c hc => (W4 c hc).1) (Nat.min_le_right _ _) ?_ q2⟩
  split <;> omega
theorem C_leak_32 (t : LDs h A) (hA : 6 ≤ A) (R : RLa g A w) (W : WFn w) (hc : c < nc w) {k2 : Hp → Nat → Int32 → Option Hp} :
    ∃ g', f_Land_leakAll_b32 k2 (uI h g) A (nI c) (A + 6 + 2 * c) = k2 (uI h g') A (nI (c + 1)) ∧ RLa g' A (dripW w c) ∧ FA A g g' := by
  obtain ⟨W0, W1, W2, W3, W4⟩ := id W
  have Wc := W4 c hc
  obtain ⟨-, -, -, -, ⟨L1, L2⟩, T1, T2, T3⟩ := Wc
  obtain ⟨r1, r2, r3⟩ := R.2.1 c hc
  have e4 := r1 4 (by decide)
  have e3 := r1 3 (by decide)
  rw [show 65 + 35 * c + 4 = 69 + 35 * c from by omega, T1] at e4
  rw [show 65 + 35 * c + 3 = 68 + 35 * c from by omega, L1] at e3
  have s4 : ∀ g, hS (uI h g) A = 4 := fun g => t.1
  have s1 : ∀ g, hS (uI h g) (A + 6 + 2 * c) = 1 := fun g => (t.cr (c := c) (by omega)).2.1
  obtain ⟨g', q1, q2, q3⟩ := C_drip t hA R W hc (tw w c) (fun e => ⟨by omega, T3⟩) (n := lk w c) (by omega)
  unfold f_Land_leakAll_b32
  rw [if_pos (s1 _), if_pos (s4 _), hI_u, e4, C_has t (by rw [R.1.1]; exact W0) W1 T2, bI_s]
  have fin : ∃ g', f_Land_leakAll_b58 k2 (uI h g) A (nI c) (A + 6 + 2 * c) A (A + 6 + 2 * c) (ca A (tw w c)) = k2 (uI h g') A (nI (c + 1)) ∧ RLa g' A (dripW w c) ∧ FA A g g' := by
    unfold f_Land_leakAll_b58
    rw [if_pos (s1 _), if_pos (s4 _), hI_u, e3, q1, bV_s, nI_1]
    exact ⟨g', rfl, q2, q3⟩
  by_cases e : tw w c < 8
  · obtain ⟨a1, a2, a3, a4, a5⟩ := (t.iu (g := g)).cr e
    have cc : ca A (tw w c) = A + 6 + 2 * tw w c := if_pos e
    have tt : tI (tw w c) = nI (tw w c) := if_pos e
    rw [if_pos e, if_neg (by decide), if_pos (s4 _), if_pos (s1 _), a3, if_pos a4, a5, hI_u, e4, tt, if_pos (ib_n e (by decide)), ix_n (by omega), a1, ← cc]
    exact fin
  · have cc : ca A (tw w c) = 0 := if_neg e
    rw [if_neg e, if_pos rfl, ← cc]
    exact fin
theorem nc_crack : nc (crackW w c) = nc w := by
  unfold crackW
  split
  · exact congrArg ix (mv_o (by omega) (by omega) (by decide))
  · rfl
theorem C_leak (t : LDs h A) (hA : 6 ≤ A) (R : RLa g A w) (W : WFn w) (hc : c < nc w) {k2 : Hp → Nat → Int32 → Option Hp} :
    ∃ g', f_Land_leakAll_b2 k2 (uI h g) A (nI c) = k2 (uI h g') A (nI (c + 1)) ∧ RLa g' A (leakW w c) ∧ FA A g g' := by
  obtain ⟨W0, W1, W2, W3, W4⟩ := id W
  have Wc := W4 c hc
  obtain ⟨a1, a2, a3, a4, a5⟩ := (t.iu (g := g)).cr (c := c) (by omega)
  have s4 : ∀ g, hS (uI h g) A = 4 := fun g => t.1
  obtain ⟨r1, r2, r3⟩ := R.2.1 c hc
  have e1 := r1 1 (by decide)
  rw [show 65 + 35 * c + 1 = 66 + 35 * c from by omega] at e1
  unfold f_Land_leakAll_b2
  rw [if_pos (s4 _), hI_u, R.1.1, W0, if_neg (nI_ge hc (by omega)), a3, if_pos a4, a5, if_pos (ib_n (by omega) (by decide)), ix_n (by omega), a1, if_pos a2, e1]
  by_cases e : w (66 + 35 * c) = 3
  · rw [if_pos e]
    obtain ⟨g1, q1, q2, q3⟩ := C_drip t hA R W hc 8 (fun z => absurd z (Nat.lt_irrefl _)) (n := 1) (by decide)
    rw [if_neg (Nat.lt_irrefl 8)] at q2
    have q1' : f_Land_moveMost (uI h g) A (A + 6 + 2 * c) 0 1 = some (uI h g1) := q1
    rw [q1', bV_s]
    have q2' : RLa g1 A (crackW w c) := by
      unfold crackW
      by_cases e2 : 0 < ms w c
      · rw [if_pos ⟨e, e2⟩]
        rw [show min 1 (ms w c) = 1 from by omega] at q2
        exact q2
      · rw [if_neg (fun z => e2 z.2)]
        rw [show min 1 (ms w c) = 0 from by omega] at q2
        rw [mv_00 Wc.1 (fun z => absurd z (Nat.lt_irrefl _))] at q2
        exact q2
    have ncr := nc_crack (w := w) (c := c)
    have lo : ∀ k, k < 65 → k ≠ 6 → crackW w c k = w k := fun k h1 h2 => by
      unfold crackW
      split
      · exact mv_o (by omega) (by omega) h2
      · rfl
    have W' : WFn (crackW w c) := by
      refine ⟨?_, ?_, ?_, ?_, ?_⟩
      · rw [ncr, lo 0 (by decide) (by decide)]; exact W0
      · rw [ncr]; exact W1
      · show ix (crackW w c 1) ≤ 8; rw [lo 1 (by decide) (by decide)]; exact W2
      · show ix (crackW w c 10) ≤ 8; rw [lo 10 (by decide) (by decide)]; exact W3
      · rw [ncr]; exact fun c' hc' => Wc.crack (by omega) (W4 c' hc')
    obtain ⟨g2, p1, p2, p3⟩ := C_leak_32 t hA q2' W' (c := c) (by rw [ncr]; exact hc) (k2 := k2)
    exact ⟨g2, p1, p2, q3.tr p3⟩
  · rw [if_neg e]
    have cr : crackW w c = w := if_neg fun z => e z.1
    obtain ⟨g2, p1, p2, p3⟩ := C_leak_32 t hA R W hc (k2 := k2)
    refine ⟨g2, p1, ?_, p3⟩
    unfold leakW
    rw [cr]
    exact p2
theorem nc_leak : nc (leakW w c) = nc w := congrArg ix (leak_lo (by decide) (by decide))
theorem WFn.leak (W : WFn w) (hc : c < nc w) : WFn (leakW w c) := by
  obtain ⟨W0, W1, W2, W3, W4⟩ := W
  refine ⟨?_, ?_, ?_, ?_, ?_⟩
  · rw [nc_leak, leak_lo (by decide) (by decide)]; exact W0
  · rw [nc_leak]; exact W1
  · show ix (leakW w c 1) ≤ 8; rw [leak_lo (by decide) (by decide)]; exact W2
  · show ix (leakW w c 10) ≤ 8; rw [leak_lo (by decide) (by decide)]; exact W3
  · rw [nc_leak]; exact WF_leak W1 hc W4
theorem C_leaks_L (t : LDs h A) (hA : 6 ≤ A) : ∀ (j i : Nat) (g : Nat → Nat → Int32) (w w0 : Nat → Int32), i + j = nc w → RLa g A w → WFn w → w = leaksW w0 i → ∀ m,
    ∃ g', f_Land_leakAll_L2 (m + j + 1) (uI h g) A (nI i) = some (uI h g') ∧ RLa g' A (leaksW w0 (nc w)) ∧ FA A g g' := by
  intro j
  induction j with
  | zero =>
    intro i g w w0 hi R W e m
    have E : f_Land_leakAll_L2 (m + 0 + 1) (uI h g) A (nI i) = f_Land_leakAll_b2 (f_Land_leakAll_L2 m) (uI h g) A (nI i) := rfl
    have s4 : hS (uI h g) A = 4 := t.1
    rw [E]
    unfold f_Land_leakAll_b2
    have hi' : i = nc w := hi
    rw [if_pos s4, hI_u, R.1.1, W.1, ← hi', if_pos (Int32.le_refl _)]
    refine ⟨g, rfl, ?_, FA.rf⟩
    rw [← e]
    exact R
  | succ j ih =>
    intro i g w w0 hi R W e m
    have E : f_Land_leakAll_L2 (m + (j + 1) + 1) (uI h g) A (nI i) = f_Land_leakAll_b2 (f_Land_leakAll_L2 (m + j + 1)) (uI h g) A (nI i) := rfl
    rw [E]
    obtain ⟨g1, q1, q2, q3⟩ := C_leak t hA R W (c := i) (by omega) (k2 := f_Land_leakAll_L2 (m + j + 1))
    rw [q1]
    obtain ⟨g2, p1, p2, p3⟩ := ih (i + 1) g1 (leakW w i) w0 (by rw [nc_leak]; omega) q2 (W.leak (by omega)) (by rw [e]; rfl) m
    rw [nc_leak] at p2
    exact ⟨g2, p1, p2, q3.tr p3⟩
theorem C_leaks (t : LDs h A) (hA : 6 ≤ A) (R : RLa g A w) (W : WFn w) :
    ∃ g', f_Land_leakAll (uI h g) A = some (uI h g') ∧ RLa g' A (leaksW w (nc w)) ∧ FA A g g' := by
  have := W.2.1
  unfold f_Land_leakAll f_Land_leakAll_b0
  rw [FU_mm (k := nc w) (by omega)]
  exact C_leaks_L t hA (nc w) 0 g w w (by omega) R W rfl _
end U6
