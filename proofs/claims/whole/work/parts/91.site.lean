/-! ===== a new cistern ===== -/
section U41
variable {h h1 h0 : Hp} {g g' g1 g2 g0 : Nat → Nat → Int32} {w w' w0 u : Nat → Int32} {A B L S c d k n l y j m q s i r z E N M M' o T R V : Nat} {v x a b p1 p2 p3 p4 p5 : Int32} {Q : Nat → Nat → Int32}
/-- w with one more cistern, of room v and kind b -/
def newC (w : Nat → Int32) (v b : Int32) : Nat → Int32 := fun k => if k = 0 then w 0 + 1 else if 65 + 35 * nc w ≤ k ∧ k < 100 + 35 * nc w then (if k = 65 + 35 * nc w then v else if k = 66 + 35 * nc w then b else if k = 69 + 35 * nc w then -1 else 0) else w k
theorem nw_o (hk : k ≠ 0) (e : ¬ (65 + 35 * nc w ≤ k ∧ k < 100 + 35 * nc w)) : newC w v b k = w k := (if_neg hk).trans (if_neg e)
theorem nw_0 : newC w v b 0 = w 0 + 1 := if_pos rfl
theorem nw_r : newC w v b (65 + 35 * nc w) = v := by
  unfold newC
  rw [if_neg (by omega), if_pos (by omega), if_pos rfl]
theorem nw_b : newC w v b (66 + 35 * nc w) = b := by
  unfold newC
  rw [if_neg (by omega), if_pos (by omega), if_neg (by omega), if_pos rfl]
theorem nw_t : newC w v b (69 + 35 * nc w) = -1 := by
  unfold newC
  rw [if_neg (by omega), if_pos (by omega), if_neg (by omega), if_neg (by omega), if_pos rfl]
theorem nw_z (h1 : 67 + 35 * nc w ≤ k) (h2 : k < 100 + 35 * nc w) (h3 : k ≠ 69 + 35 * nc w) : newC w v b k = 0 := by
  unfold newC
  rw [if_neg (by omega), if_pos (by omega), if_neg (by omega), if_neg (by omega), if_neg h3]
theorem nw_cn (w0 : w 0 = nI (nc w)) (h8 : nc w < 8) : nc (newC w v b) = nc w + 1 := by
  have e : newC w v b 0 = nI (nc w + 1) := by rw [nw_0, w0, nI_1]
  show ix (newC w v b 0) = _
  rw [e]
  exact ix_n (by omega)
theorem nw_ms (h8 : nc w < 8) : ms (newC w v b) (nc w) = 0 := by
  have z : ∀ n, n ≤ 30 → smN (ly (newC w v b) (nc w)) n = 0 := by
    intro n
    induction n with
    | zero => intro _; rfl
    | succ n ih =>
      intro hn
      have l0 : ly (newC w v b) (nc w) n = 0 := by
        show ix (newC w v b (70 + 35 * nc w + n)) = 0
        rw [nw_z (by omega) (by omega) (by omega)]
        rfl
      show smN (ly (newC w v b) (nc w)) n + ly (newC w v b) (nc w) n = 0
      rw [ih (by omega), l0]
  exact z 30 (Nat.le_refl _)
theorem C_fill0_L (s20 : hS h r = 20) (l30 : hL h r = 30) : ∀ (j i : Nat) (g : Nat → Nat → Int32), i + j = 30 → (∀ k, k < i → g r k = 0) → ∀ q, ∃ g', f_Arrays_fill_L5 (q + j + 1) (uI h g) r 0 (nI i) (nI 30) = some (uI h g') ∧ (∀ k, k < 30 → g' r k = 0) ∧ ∀ b, b ≠ r → g' b = g b := by
  have s : ∀ g, hS (uI h g) r = 20 := fun g => s20
  have l : ∀ g, hL (uI h g) r = 30 := fun g => l30
  intro j
  induction j with
  | zero =>
    intro i g hi hz q
    have hi' : i = 30 := hi
    subst hi'
    refine ⟨g, ?_, hz, fun _ _ => rfl⟩
    show f_Arrays_fill_b5 (f_Arrays_fill_L5 q) (uI h g) r 0 (nI 30) (nI 30) = _
    unfold f_Arrays_fill_b5
    rw [if_pos (Int32.le_refl _)]
  | succ j ih =>
    intro i g hi hz q
    have E : f_Arrays_fill_L5 (q + (j + 1) + 1) (uI h g) r 0 (nI i) (nI 30) = f_Arrays_fill_b5 (f_Arrays_fill_L5 (q + j + 1)) (uI h g) r 0 (nI i) (nI 30) := rfl
    obtain ⟨g', z1, z2, z3⟩ := ih (i + 1) (up2 g r i 0) (by omega) (fun k hk => by
      by_cases e : k = i
      · subst e; exact up_eq
      · rw [up_k e]; exact hz k (by omega)) q
    refine ⟨g', ?_, z2, fun b hb => (z3 b hb).trans (up_row hb)⟩
    rw [E]
    unfold f_Arrays_fill_b5
    rw [if_neg (nI_ge (by omega) (by decide)), if_pos (s _), l, if_pos (ib_n (by omega) (by decide)), ix_n (by omega), wr_s, sI_u, nI_1]
    exact z1
theorem C_fill0 (s20 : hS h r = 20) (l30 : hL h r = 30) : ∃ g', f_Arrays_fill (uI h g) r 0 = some (uI h g') ∧ (∀ k, k < 30 → g' r k = 0) ∧ ∀ b, b ≠ r → g' b = g b := by
  have s : ∀ g, hS (uI h g) r = 20 := fun g => s20
  have l : ∀ g, hL (uI h g) r = 30 := fun g => l30
  obtain ⟨g', z1, z2⟩ := C_fill0_L s20 l30 30 0 g rfl (fun k hk => absurd hk (Nat.not_lt_zero _)) 999969
  refine ⟨g', ?_, z2⟩
  unfold f_Arrays_fill f_Arrays_fill_b0
  rw [if_pos (s _), l]
  exact z1
theorem C_begin (t : CS h r) : ∃ g', f_Cistern_begin (uI h g) r v b = some (uI h g') ∧ (g' r 0 = v ∧ g' r 1 = b ∧ g' r 2 = 0 ∧ g' r 3 = 0 ∧ g' r 4 = -1 ∧ g' r 5 = 0) ∧ (∀ k, k < 30 → g' (r + 1) k = 0) ∧ ∀ c, c ≠ r → c ≠ r + 1 → g' c = g c := by
  obtain ⟨s1, r6, s20, l30⟩ := t
  have r6 : ∀ g, hR (uI h g) r 6 = r + 1 := fun g => r6
  obtain ⟨g', z1, z2, z3⟩ := C_fill0 (g := up2 (up2 (up2 (up2 (up2 (up2 g r 0 v) r 1 b) r 2 0) r 3 0) r 4 (-1)) r 5 0) s20 l30
  have zr := z3 r (by omega)
  refine ⟨g', ?_, ⟨?_, ?_, ?_, ?_, ?_, ?_⟩, z2, fun c h1 h2 => (z3 c h2).trans ?_⟩
  · unfold f_Cistern_begin f_Cistern_begin_b0
    rw [if_pos (show hS (uI h g) r = 1 from s1), wr_s, sI_u, wr_s, sI_u, wr_s, sI_u, wr_s, sI_u, wr_s, sI_u, wr_s, sI_u, r6, z1, bV_s]
  · rw [zr, up_k (by decide), up_k (by decide), up_k (by decide), up_k (by decide), up_k (by decide), up_eq]
  · rw [zr, up_k (by decide), up_k (by decide), up_k (by decide), up_k (by decide), up_eq]
  · rw [zr, up_k (by decide), up_k (by decide), up_k (by decide), up_eq]
  · rw [zr, up_k (by decide), up_k (by decide), up_eq]
  · rw [zr, up_k (by decide), up_eq]
  · rw [zr, up_eq]
  · rw [up_row h1, up_row h1, up_row h1, up_row h1, up_row h1, up_row h1]
theorem C_addC (t : LDs h A) (R : RLa g A w) (B : WFb w) (w0 : w 0 = nI (nc w)) (h8 : nc w < 8) : ∃ g', f_Land_addCistern (uI h g) A v b = some (uI h g') ∧ RLa g' A (newC w v b) ∧ FA A g g' := by
  obtain ⟨B1, B2, B3⟩ := B
  obtain ⟨⟨s0, s1, s2, s3, s4, s5, s6, s7, s8, s9⟩, Rc, Rh, Rd, Ry⟩ := R
  have e0 : g A 0 = nI (nc w) := s0.trans w0
  have st : ∀ g, hS (uI h g) A = 4 := fun g => t.1
  obtain ⟨a1, a2, a3, a4, a5⟩ := (t.iu (g := g)).cr (c := nc w) h8
  obtain ⟨g', z1, ⟨k0, k1, k2, k3, k4, k5⟩, z3, z4⟩ := C_begin (g := g) (v := v) (b := b) (t.cs h8)
  have gA : g' A = g A := z4 A (by omega) (by omega)
  have fr : ∀ r, r ≠ A → r ≠ A + 6 + 2 * nc w → r ≠ A + 6 + 2 * nc w + 1 → up2 g' A 0 (nI (nc w + 1)) r = g r := fun r x y z => (up_row x).trans (z4 r y z)
  have kk : ∀ k, k ≠ 0 → up2 g' A 0 (nI (nc w + 1)) A k = g A k := fun k hk => by rw [up_k hk, gA]
  have n1 : nh (newC w v b) = nh w := congrArg ix (nw_o (by decide) (by omega))
  have n2 : nd (newC w v b) = nd w := congrArg ix (nw_o (by decide) (by omega))
  refine ⟨up2 g' A 0 (nI (nc w + 1)), ?_, ⟨⟨?_, ?_, ?_, ?_, ?_, ?_, ?_, ?_, ?_, ?_⟩, fun c hc => ?_, fun k hk => ?_, fun d hd => ?_, fun y hy => ?_⟩, fun r hr => fr r (by omega) (by omega) (by omega)⟩
  · unfold f_Land_addCistern f_Land_addCistern_b0
    rw [if_pos (st _), hI_u, e0, if_neg (show ¬ (8 : Int32) ≤ nI (nc w) from nI_ge (b := 8) h8 (by decide)), a3, if_pos a4, a5, if_pos (ib_n h8 (by decide)), ix_n (by omega), a1, if_pos a2, z1, bV_s, if_pos (st _), hI_u, gA, e0, nI_1, wr_s, sI_u]
  · rw [up_eq, nw_0, w0, nI_1]
  · rw [kk 1 (by decide), nw_o (by decide) (by omega)]; exact s1
  · rw [kk 2 (by decide), nw_o (by decide) (by omega)]; exact s2
  · rw [kk 9 (by decide), nw_o (by decide) (by omega)]; exact s3
  · rw [kk 10 (by decide), nw_o (by decide) (by omega)]; exact s4
  · rw [kk 11 (by decide), nw_o (by decide) (by omega)]; exact s5
  · rw [kk 12 (by decide), nw_o (by decide) (by omega)]; exact s6
  · rw [kk 13 (by decide), nw_o (by decide) (by omega)]; exact s7
  · rw [kk 14 (by decide), nw_o (by decide) (by omega)]; exact s8
  · rw [kk 15 (by decide), nw_o (by decide) (by omega)]; exact s9
  · rw [nw_cn w0 h8] at hc
    by_cases q : c = nc w
    · subst q
      refine ⟨fun j hj => ?_, fun y hy => ?_, ?_⟩
      · rw [up_r (by omega)]
        have : j = 0 ∨ j = 1 ∨ j = 2 ∨ j = 3 ∨ j = 4 := by omega
        rcases this with rfl | rfl | rfl | rfl | rfl
        · rw [k0]; exact nw_r.symm
        · rw [k1, show 65 + 35 * nc w + 1 = 66 + 35 * nc w from by omega]; exact nw_b.symm
        · rw [k2, nw_z (by omega) (by omega) (by omega)]
        · rw [k3, nw_z (by omega) (by omega) (by omega)]
        · rw [k4, show 65 + 35 * nc w + 4 = 69 + 35 * nc w from by omega]; exact nw_t.symm
      · rw [up_r (by omega), z3 y hy, nw_z (by omega) (by omega) (by omega)]
      · rw [up_r (by omega), k5, nw_ms h8]; rfl
    · obtain ⟨r1, r2, r3⟩ := Rc c (by omega)
      refine ⟨fun j hj => ?_, fun y hy => ?_, ?_⟩
      · rw [fr _ (by omega) (by omega) (by omega), nw_o (by omega) (by omega)]; exact r1 j hj
      · rw [fr _ (by omega) (by omega) (by omega), nw_o (by omega) (by omega)]; exact r2 y hy
      · rw [fr _ (by omega) (by omega) (by omega), r3]
        exact congrArg nI (ms_eq fun y hy => nw_o (by omega) (by omega)).symm
  · rw [n1] at hk
    obtain ⟨r1, r2⟩ := Rh k hk
    refine ⟨fun j hj => ?_, fun y hy => ?_⟩
    · rw [fr _ (by omega) (by omega) (by omega), nw_o (by omega) (by omega)]; exact r1 j hj
    · rw [fr _ (by omega) (by omega) (by omega), nw_o (by omega) (by omega)]; exact r2 y hy
  · rw [n2] at hd
    intro j hj
    rw [fr _ (by omega) (by omega) (by omega), nw_o (by omega) (by omega)]; exact Rd d hd j hj
  · rw [fr _ (by omega) (by omega) (by omega), nw_o (by omega) (by omega)]; exact Ry y hy
/-- .. into which c leaks -/
def siW (w : Nat → Int32) (v : Int32) (c : Nat) : Nat → Int32 := up1 (newC w v 0) (69 + 35 * c) (nI (nc w))
theorem si_nc (w0 : w 0 = nI (nc w)) (h8 : nc w < 8) : nc (siW w v c) = nc w + 1 := by
  have : nc (siW w v c) = nc (newC w v 0) := congrArg ix (up1_ne (by omega))
  rw [this, nw_cn w0 h8]
theorem WFC.up (W : WFC w n c) (hb : n ≤ m) : WFC w m c := by
  obtain ⟨O, R, K, S, L, T1, T2, T3⟩ := W
  exact ⟨O, R, K, S, L, T1, T2.imp id (fun z => by omega), T3⟩
theorem si_wf (W : WFn w) (h8 : nc w < 8) (hV : V ≤ 999) (hc : c < nc w) : WFn (siW w (nI V) c) := by
  obtain ⟨W0, W1, W2, W3, W4⟩ := W
  have e0 := si_nc (v := nI V) (c := c) W0 h8
  have n1 : nh (siW w (nI V) c) = nh w := congrArg ix ((up1_ne (by omega)).trans (nw_o (by decide) (by omega)))
  have n2 : nd (siW w (nI V) c) = nd w := congrArg ix ((up1_ne (by omega)).trans (nw_o (by decide) (by omega)))
  refine ⟨?_, by rw [e0]; omega, by rw [n1]; exact W2, by rw [n2]; exact W3, fun c' hc' => ?_⟩
  · rw [e0]
    show up1 (newC w (nI V) 0) (69 + 35 * c) (nI (nc w)) 0 = _
    rw [up1_ne (by omega), nw_0, W0, nI_1]
  · rw [e0] at hc' ⊢
    by_cases q : c' = nc w
    · subst q
      have u : ∀ k, 65 + 35 * nc w ≤ k → siW w (nI V) c k = newC w (nI V) 0 k := fun k hk => up1_ne (by omega)
      have hrm : rm (siW w (nI V) c) (nc w) = V := by
        show ix (siW w (nI V) c (65 + 35 * nc w)) = V
        rw [u _ (by omega), nw_r]
        exact ix_n (by omega)
      have hms : ms (siW w (nI V) c) (nc w) = 0 := (ms_eq fun y hy => u _ (by omega)).trans (nw_ms h8)
      have htw : tw (siW w (nI V) c) (nc w) = 8 := by
        unfold tw
        rw [u _ (by omega), nw_t, if_pos rfl]
      have z0 : ∀ k, 67 + 35 * nc w ≤ k → k < 100 + 35 * nc w → k ≠ 69 + 35 * nc w → siW w (nI V) c k = 0 := fun k h1 h2 h3 => (u k (by omega)).trans (nw_z h1 h2 h3)
      have hlk : lk (siW w (nI V) c) (nc w) = 0 := by
        show ix (siW w (nI V) c (68 + 35 * nc w)) = 0
        rw [z0 _ (by omega) (by omega) (by omega)]
        rfl
      refine ⟨fun y hy => ?_, ⟨?_, by rw [hrm]; exact hV, by rw [hms]; exact Nat.zero_le _⟩, ⟨0, ?_, by decide⟩, ⟨0, ?_, by decide⟩, ⟨?_, by rw [hlk]; decide⟩, ?_, by rw [htw]; exact Or.inl rfl, by rw [htw]; omega⟩
      · have z := z0 (70 + 35 * nc w + y) (by omega) (by omega) (by omega)
        have l0 : ly (siW w (nI V) c) (nc w) y = 0 := by
          show ix (siW w (nI V) c (70 + 35 * nc w + y)) = 0
          rw [z]; rfl
        rw [l0, z]
        exact ⟨rfl, by decide⟩
      · rw [hrm, u _ (by omega)]; exact nw_r
      · rw [u _ (by omega)]; exact nw_b
      · exact z0 _ (by omega) (by omega) (by omega)
      · rw [hlk]; exact z0 _ (by omega) (by omega) (by omega)
      · rw [htw, u _ (by omega)]; exact nw_t
    · have old : ∀ k, 65 + 35 * c' ≤ k → k < 100 + 35 * c' → newC w (nI V) 0 k = w k := fun k h1 h2 => nw_o (by omega) (by omega)
      by_cases q2 : c' = c
      · subst q2
        obtain ⟨O, ⟨R1, R2, R3⟩, K, S, ⟨L1, L2⟩, T1, T2, T3⟩ := W4 c' hc
        have s : ∀ k, 65 + 35 * c' ≤ k → k < 100 + 35 * c' → k ≠ 69 + 35 * c' → siW w (nI V) c' k = w k := fun k h1 h2 h3 => (up1_ne h3).trans (old k h1 h2)
        have r1 : rm (siW w (nI V) c') c' = rm w c' := congrArg ix (s _ (by omega) (by omega) (by omega))
        have k1 : lk (siW w (nI V) c') c' = lk w c' := congrArg ix (s _ (by omega) (by omega) (by omega))
        have m1 : ms (siW w (nI V) c') c' = ms w c' := ms_eq fun y hy => s _ (by omega) (by omega) (by omega)
        have tv : siW w (nI V) c' (69 + 35 * c') = nI (nc w) := up1_eq
        have t1 : tw (siW w (nI V) c') c' = nc w := by
          unfold tw
          rw [tv, if_neg (fun z => nI_pos (n := nc w) (by omega) (by rw [z]; decide))]
          exact ix_n (by omega)
        refine ⟨fun y hy => ?_, ⟨by rw [r1, s _ (by omega) (by omega) (by omega)]; exact R1, by rw [r1]; exact R2, by rw [r1, m1]; exact R3⟩, by rw [s _ (by omega) (by omega) (by omega)]; exact K, by rw [s _ (by omega) (by omega) (by omega)]; exact S, ⟨by rw [k1, s _ (by omega) (by omega) (by omega)]; exact L1, by rw [k1]; exact L2⟩, ?_, Or.inr (by rw [t1]; omega), by rw [t1]; omega⟩
        · have ll : ly (siW w (nI V) c') c' y = ly w c' y := congrArg ix (s _ (by omega) (by omega) (by omega))
          rw [ll, s _ (by omega) (by omega) (by omega)]; exact O y hy
        · rw [tv, t1]
          exact (if_pos h8).symm
      · have s : ∀ k, 65 + 35 * c' ≤ k → k < 100 + 35 * c' → siW w (nI V) c k = w k := fun k h1 h2 => (up1_ne (by omega)).trans (old k h1 h2)
        have W' := (W4 c' (by omega)).up (Nat.le_succ (nc w))
        exact W'.of (b := ly w c') (fun y hy => (s _ (by omega) (by omega)).trans (W'.1 y hy).1) W'.2.1.2.2 (fun j hj => s _ (by omega) (by omega))
end U41
