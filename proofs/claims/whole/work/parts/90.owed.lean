/-! ===== owed (wip/whole/gen/g90.py) ===== -/
section U40
variable {h h1 h0 : Hp} {g g' g1 g2 g0 : Nat → Nat → Int32} {w w' w0 u : Nat → Int32} {A B L S c d k n l y j m q s i r z E N M M' o T R : Nat} {v x a b p1 p2 p3 p4 p5 : Int32} {Q : Nat → Nat → Int32}
/-- the measures of y in the cisterns of b -/
def suF (w : Nat → Int32) (y : Nat) (b : Int32) : Int32 → Nat → Nat → Int32
  | a, _, 0 => a
  | a, i, j + 1 => suF w y b (if (jshr b (nI i)) &&& (1 : Int32) = (1 : Int32) then a + w (70 + 35 * i + y) else a) (i + 1) j
theorem C_meas_L (t : LDs h A) (R : RLa g A w) (W : WF M w) (hy : y < 30) : ∀ (j i : Nat) (a : Int32), i + j = nc w → ∀ q, f_Land_measuresOf_L5 (q + j + 1) (uI h g) A (nI y) b a (nI i) = some (suF w y b a i j, uI h g) := by
  have s4 : hS (uI h g) A = 4 := t.1
  have e1 : g A 0 = nI (nc w) := R.1.1.trans W.1.1
  have h8 := W.2.1.1
  intro j
  induction j with
  | zero =>
    intro i a hi q
    have hi' : i = nc w := hi
    subst hi'
    show f_Land_measuresOf_b5 (f_Land_measuresOf_L5 q) (uI h g) A (nI y) b a (nI (nc w)) = _
    unfold f_Land_measuresOf_b5
    rw [if_pos s4, hI_u, e1, if_pos (Int32.le_refl _)]
    rfl
  | succ j ih =>
    intro i a hi q
    obtain ⟨a1, a2, a3, a4, a5⟩ := (t.iu (g := g)).cr (c := i) (by omega)
    obtain ⟨-, b2, b3, b4⟩ := (t.cs (c := i) (by omega)).un (g := g)
    obtain ⟨-, r2, -⟩ := R.2.1 i (by omega)
    have E : f_Land_measuresOf_L5 (q + (j + 1) + 1) (uI h g) A (nI y) b a (nI i) = f_Land_measuresOf_b5 (f_Land_measuresOf_L5 (q + j + 1)) (uI h g) A (nI y) b a (nI i) := rfl
    have F : suF w y b a i (j + 1) = suF w y b (if (jshr b (nI i)) &&& (1 : Int32) = (1 : Int32) then a + w (70 + 35 * i + y) else a) (i + 1) j := rfl
    rw [E, F]
    unfold f_Land_measuresOf_b5 f_Land_measuresOf_b49
    rw [if_pos s4, hI_u, e1, if_neg (nI_ge (by omega) (by omega)), if_neg (nI_pos (by omega)), if_neg (show ¬ (30 : Int32) ≤ nI y from nI_ge (b := 30) hy (by decide)), a3, if_pos a4, a5, if_pos (ib_n (by omega) (by decide)), ix_n (by omega), a1, if_pos a2, b2, if_pos b3, b4, if_pos (ib_n hy (by decide)), ix_n (by omega), r2 y hy, nI_1]
    by_cases e : (jshr b (nI i)) &&& (1 : Int32) = (1 : Int32)
    · rw [if_pos e, if_pos e]; exact ih (i + 1) _ (by omega) q
    · rw [if_neg e, if_neg e]; exact ih (i + 1) _ (by omega) q
theorem C_measOf (t : LDs h A) (R : RLa g A w) (W : WF M w) (hy : y < 30) : f_Land_measuresOf (uI h g) A (nI y) b = some (suF w y b 0 0 (nc w), uI h g) := by
  have h8 := W.2.1.1
  unfold f_Land_measuresOf f_Land_measuresOf_b0
  rw [FU_mm (k := nc w) (by omega)]
  exact C_meas_L t R W hy (nc w) 0 0 (by omega) _
def bcv (x : Int32) : Int32 := match f_Integer_bitCount default x with
  | some (v, _) => v
  | none => 0
theorem bc_eq (H : Hp) : f_Integer_bitCount H x = some (bcv x, H) := rfl
/-- the better of two -/
def nbS (w : Nat → Int32) (y : Nat) (p : Int32) (a b : Int32) : Int32 := if suF w y b 0 0 (nc w) < p then a else if a < 0 then b else if bcv a ≤ bcv b then a else b
def owF (w : Nat → Int32) (y : Nat) (p : Int32) : Int32 → Nat → Nat → Int32
  | a, _, 0 => a
  | a, k, j + 1 => owF w y p (nbS w y p a (nI k)) (k + 1) j
theorem N_owe65 {f : Hp → Nat → Int32 → Int32 → Int32 → Int32 → Option (Int32 × Hp)} (t : TSr h) (e6 : g 756 = w) (W : WF M w) (hy : y < 30) : ∀ (j i : Nat) (s : Int32), i + j = nc w → ∀ q, f_Model_owed_L65 f (q + j + 1) (uI h g) 755 (nI y) p2 a b s (nI i) = (if suF w y b s i j < p2 then f (uI h g) 755 (nI y) p2 a (b + 1) else if a < 0 then f (uI h g) 755 (nI y) p2 b (b + 1) else if bcv a ≤ bcv b then f (uI h g) 755 (nI y) p2 a (b + 1) else f (uI h g) 755 (nI y) p2 b (b + 1)) := by
  have s7 : hS (uI h g) 755 = 11 := t.1
  have h8 := W.2.1.1
  have w0 : w 0 = nI (nc w) := W.1.1
  intro j
  induction j with
  | zero =>
    intro i s hi q
    have hi' : i = nc w := hi
    subst hi'
    show f_Model_owed_b65 f (f_Model_owed_L65 f q) (uI h g) 755 (nI y) p2 a b s (nI (nc w)) = _
    unfold f_Model_owed_b65 f_Model_owed_b129 f_Model_owed_b132
    rw [if_pos s7, N_cis t, bI_s, e6, w0, if_pos (Int32.le_refl _), bc_eq, bI_s, bc_eq, bI_s]
    rfl
  | succ j ih =>
    intro i s hi q
    have E : f_Model_owed_L65 f (q + (j + 1) + 1) (uI h g) 755 (nI y) p2 a b s (nI i) = f_Model_owed_b65 f (f_Model_owed_L65 f (q + j + 1)) (uI h g) 755 (nI y) p2 a b s (nI i) := rfl
    have F : suF w y b s i (j + 1) = suF w y b (if (jshr b (nI i)) &&& (1 : Int32) = (1 : Int32) then s + w (70 + 35 * i + y) else s) (i + 1) j := rfl
    rw [E, F]
    unfold f_Model_owed_b65 f_Model_owed_b98
    rw [if_pos s7, N_cis t, bI_s, e6, w0, if_neg (nI_ge (by omega) (by omega)), if_pos s7, N_layer t (by omega) hy, bI_s, e6, nI_1, show s + (0 : Int32) = s from Int32.add_zero s]
    by_cases e : (jshr b (nI i)) &&& (1 : Int32) = (1 : Int32)
    · rw [if_pos e, if_pos e]; exact ih (i + 1) _ (by omega) q
    · rw [if_neg e, if_neg e]; exact ih (i + 1) _ (by omega) q
theorem sh1 : ∀ n, n < 9 → jshl (1 : Int32) (nI n) = nI (2 ^ n) ∧ 2 ^ n ≤ 256 := by decide
theorem N_owe_L (t : TSr h) (e6 : g 756 = w) (W : WF M w) (hy : y < 30) : ∀ (j k : Nat) (a : Int32), k + j = 2 ^ nc w → ∀ q, f_Model_owed_L48 (q + j + 1) (uI h g) 755 (nI y) p2 a (nI k) = some (owF w y p2 a k j, uI h g) := by
  have s7 : hS (uI h g) 755 = 11 := t.1
  have h8 := W.2.1.1
  have w0 : w 0 = nI (nc w) := W.1.1
  obtain ⟨e2, l2⟩ := sh1 (nc w) (by omega)
  intro j
  induction j with
  | zero =>
    intro k a hi q
    have hi' : k = 2 ^ nc w := hi
    subst hi'
    show f_Model_owed_b48 (f_Model_owed_L48 q) (uI h g) 755 (nI y) p2 a (nI (2 ^ nc w)) = _
    unfold f_Model_owed_b48
    rw [if_pos s7, N_cis t, bI_s, e6, w0, e2, if_pos (Int32.le_refl _)]
    rfl
  | succ j ih =>
    intro k a hi q
    have E : f_Model_owed_L48 (q + (j + 1) + 1) (uI h g) 755 (nI y) p2 a (nI k) = f_Model_owed_b48 (f_Model_owed_L48 (q + j + 1)) (uI h g) 755 (nI y) p2 a (nI k) := rfl
    have F : owF w y p2 a k (j + 1) = owF w y p2 (nbS w y p2 a (nI k)) (k + 1) j := rfl
    rw [E, F]
    unfold f_Model_owed_b48
    rw [if_pos s7, N_cis t, bI_s, e6, w0, e2, if_neg (nI_ge (by omega) (by omega)), FU_mm (k := nc w) (by omega), show (0 : Int32) = nI 0 from rfl, N_owe65 t e6 W hy (nc w) 0 (nI 0) (by omega), nI_1]
    unfold nbS
    rw [show (0 : Int32) = nI 0 from rfl]
    by_cases c1 : suF w y (nI k) (nI 0) 0 (nc w) < p2
    · rw [if_pos c1, if_pos c1]; exact ih (k + 1) _ (by omega) q
    · rw [if_neg c1, if_neg c1]
      by_cases c2 : a < nI 0
      · rw [if_pos c2, if_pos c2]; exact ih (k + 1) _ (by omega) q
      · rw [if_neg c2, if_neg c2]
        by_cases c3 : bcv a ≤ bcv (nI k)
        · rw [if_pos c3, if_pos c3]; exact ih (k + 1) _ (by omega) q
        · rw [if_neg c3, if_neg c3]; exact ih (k + 1) _ (by omega) q
theorem C_owe_L (t : TS h) (R : RLa g 569 w) (W : WF M w) (hy : y < 30) : ∀ (j k : Nat) (a : Int32), k + j = 2 ^ nc w → (a = -1 ∨ ¬ a < 0) → ∀ q, f_Water_owed_L32 (q + j + 1) (uI h g) 1 (nI y) p2 a (nI k) = some (.inl (owF w y p2 a k j), uI h g) := by
  obtain ⟨⟨w1, -, -, -, -, w5, -⟩, w6, -⟩ := WTR (g := g) t
  have h8 := W.2.1.1
  have e0 : g 569 0 = nI (nc w) := R.1.1.trans W.1.1
  obtain ⟨e2, l2⟩ := sh1 (nc w) (by omega)
  intro j
  induction j with
  | zero =>
    intro k a hi _ q
    have hi' : k = 2 ^ nc w := hi
    subst hi'
    show f_Water_owed_b32 (f_Water_owed_L32 q) (uI h g) 1 (nI y) p2 a (nI (2 ^ nc w)) = _
    unfold f_Water_owed_b32
    rw [if_pos w1, w5, if_pos w6, hI_u, e0, e2, if_pos (Int32.le_refl _)]
    rfl
  | succ j ih =>
    intro k a hi ha q
    have kp : ¬ nI k < 0 := nI_pos (by omega)
    have E : f_Water_owed_L32 (q + (j + 1) + 1) (uI h g) 1 (nI y) p2 a (nI k) = f_Water_owed_b32 (f_Water_owed_L32 (q + j + 1)) (uI h g) 1 (nI y) p2 a (nI k) := rfl
    have F : owF w y p2 a k (j + 1) = owF w y p2 (nbS w y p2 a (nI k)) (k + 1) j := rfl
    have one : f_Water_owed_b68 (f_Water_owed_L32 (q + j + 1)) (uI h g) 1 (nI y) p2 a (nI k) (1 : Int32) = some (.inl (owF w y p2 (if suF w y (nI k) 0 0 (nc w) < p2 then a else nI k) (k + 1) j), uI h g) := by
      unfold f_Water_owed_b68 f_Water_owed_b92
      rw [if_neg (by decide), if_pos w1, w5, if_pos w6, C_measOf t.l9 R W hy, bI_s, nI_1]
      by_cases c1 : suF w y (nI k) 0 0 (nc w) < p2
      · rw [if_pos c1, if_pos c1]; exact ih (k + 1) _ (by omega) ha q
      · rw [if_neg c1, if_neg c1]; exact ih (k + 1) _ (by omega) (Or.inr kp) q
    rw [E, F]
    unfold f_Water_owed_b32 f_Water_owed_b63 nbS
    rw [if_pos w1, w5, if_pos w6, hI_u, e0, e2, if_neg (nI_ge (by omega) (by omega)), one]
    by_cases c2 : a = -1
    · rw [if_pos c2, if_pos (show a < 0 by rw [c2]; decide)]
    · rw [if_neg c2, if_neg (ha.resolve_left c2), bc_eq, bI_s, bc_eq, bI_s]
      by_cases c3 : bcv a ≤ bcv (nI k)
      · rw [if_pos c3, if_pos c3]
        unfold f_Water_owed_b68 f_Water_owed_b92
        rw [if_pos rfl, nI_1, ite_self]
        exact ih (k + 1) _ (by omega) ha q
      · rw [if_neg c3, if_neg c3]; exact one
theorem sp_owed : LSp M (fun H => f_Lw_owed H 1 p1 p2 765) (fun H => f_Model_owed H 755 p1 p2) := by
  intro H I
  obtain ⟨h, g, rfl⟩ : ∃ h g, H = uI h g := ⟨H, hI H, rfl⟩
  have I : INV M h g := I
  obtain ⟨t, W, R, Lr, e0, e1, e2, n8, nh8, nd8⟩ := I.us
  obtain ⟨⟨w1, wr0, wr1, wr2, wr3, w5, wr5, wr6, wr7, wr8, wr9⟩, w6, w7⟩ := WTR (g := g) t
  have s7 : ∀ (h : Hp) (g : Nat → Nat → Int32), TS h → hS (uI h g) 755 = 11 := fun h g t => t.td.1.1
  have s56 : ∀ (h : Hp) (g : Nat → Nat → Int32), TS h → hR (uI h g) 755 1 = 756 ∧ hS (uI h g) 756 = 20 ∧ hL (uI h g) 756 = 2291 := fun h g t => ⟨t.td.1.2.1.1, t.td.1.2.2.1.1, t.td.1.2.2.1.2⟩
  have l9 := t.l9
  rcases bad_or p1 (n := 30) (by decide) with bd | ⟨y, hy, rfl⟩
  · refine cl_r (h := h) (g := g) (fl := fun H => f_Lw_owed H 1 p1 p2 765) (fm := fun H => f_Model_owed H 755 p1 p2) I (lw_owed_1 (H := uI h g) t ?_) (by decide) (fun h' g' t' x' => ⟨0, thr g' 1, ?_, thr_c, REF.thr⟩)
    · unfold f_Water_owed f_Water_owed_b0
      rw [if_pos w1, C_needY.1 bd, bX_r]
    · show f_Model_owed_b0 (uI h' g') 755 p1 p2 = _
      unfold f_Model_owed_b0
      rw [if_pos (s7 _ _ t'), wr_s, sI_u, N_noY.1 bd, bI_s, if_pos (s7 _ _ t'), N_thr1 t'.td.1, bI_s, if_neg (by decide)]
      rfl
  by_cases lo : p2 < 0
  · refine cl_r (h := h) (g := g) (fl := fun H => f_Lw_owed H 1 (nI y) p2 765) (fm := fun H => f_Model_owed H 755 (nI y) p2) I (lw_owed_2 (H := uI h g) t ?_) (by decide) (fun h' g' t' x' => ⟨0, thr g' 2, ?_, thr_c, REF.thr⟩)
    · unfold f_Water_owed f_Water_owed_b0 f_Water_owed_b16
      rw [if_pos w1, (C_needY (x := 0)).2 y hy, bX_l, if_pos lo]
    · show f_Model_owed_b0 (uI h' g') 755 (nI y) p2 = _
      unfold f_Model_owed_b0 f_Model_owed_b34
      rw [if_pos (s7 _ _ t'), wr_s, sI_u, (N_noY (x := 0)).2 y hy, bI_s, if_pos (s7 _ _ t'), N_thr0 t'.td.1, bI_s, if_pos rfl, N_in, bI_s, if_pos lo, if_pos rfl, if_pos (s7 _ _ t'), N_thr1 t'.td.1, bI_s, if_neg (by decide)]
      rfl
  by_cases hi : p2 ≤ 999
  · have hi' : ¬ (999 : Int32) < p2 := Int32.not_lt.mpr hi
    obtain ⟨-, l2⟩ := sh1 (nc (g 756)) (by omega)
    have FUe : FU = 999999 - 2 ^ nc (g 756) + 2 ^ nc (g 756) + 1 := by unfold FU; omega
    have cc := C_owe_L (p2 := p2) t R W hy (2 ^ nc (g 756)) 0 (-1) (by omega) (Or.inl rfl) (999999 - 2 ^ nc (g 756))
    refine cl_l (h := h) (g := g) (fl := fun H => f_Lw_owed H 1 (nI y) p2 765) (fm := fun H => f_Model_owed H 755 (nI y) p2) (h1 := h) (g1 := g) (v := (owF (g 756) y p2 (-1) 0 (2 ^ nc (g 756)))) (lw_owed (H := uI h g) (H1 := uI h (g)) t t ?_) t (fun h' t' => ⟨up2 g 755 0 0, ?_, up_eq, I.th⟩) (by omega) (by omega)
    · unfold f_Water_owed f_Water_owed_b0
      rw [if_pos w1, (C_needY (x := 0)).2 y hy, bX_l, if_neg lo, if_pos hi, FUe]
      exact cc
    · show f_Model_owed_b0 (uI h' (g)) 755 (nI y) p2 = _
      unfold f_Model_owed_b0 f_Model_owed_b34
      rw [if_pos (s7 _ _ t'), wr_s, sI_u, (N_noY (x := 0)).2 y hy, bI_s, if_pos (s7 _ _ t'), N_thr0 t'.td.1, bI_s, if_pos rfl, N_in, bI_s, if_neg lo, if_neg hi', if_neg (by decide), if_pos (s7 _ _ t'), N_thr0 t'.td.1, bI_s, if_pos rfl, FUe]
      exact N_owe_L (h := h') t'.td.1 (up_row (by decide)) W hy (2 ^ nc (g 756)) 0 (-1) (by omega) _
  · have hi' : (999 : Int32) < p2 := Int32.not_le.mp hi
    refine cl_r (h := h) (g := g) (fl := fun H => f_Lw_owed H 1 (nI y) p2 765) (fm := fun H => f_Model_owed H 755 (nI y) p2) I (lw_owed_2 (H := uI h g) t ?_) (by decide) (fun h' g' t' x' => ⟨0, thr g' 2, ?_, thr_c, REF.thr⟩)
    · unfold f_Water_owed f_Water_owed_b0 f_Water_owed_b16
      rw [if_pos w1, (C_needY (x := 0)).2 y hy, bX_l, if_neg lo, if_neg hi]
    · show f_Model_owed_b0 (uI h' g') 755 (nI y) p2 = _
      unfold f_Model_owed_b0 f_Model_owed_b34
      rw [if_pos (s7 _ _ t'), wr_s, sI_u, (N_noY (x := 0)).2 y hy, bI_s, if_pos (s7 _ _ t'), N_thr0 t'.td.1, bI_s, if_pos rfl, N_in, bI_s, if_neg lo, if_pos hi', if_pos rfl, if_pos (s7 _ _ t'), N_thr1 t'.td.1, bI_s, if_neg (by decide)]
      rfl
end U40
