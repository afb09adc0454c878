/-! ===== fewest: the call ===== -/
section U44
variable {h h1 h0 : Hp} {g g' g1 g2 g0 : Nat → Nat → Int32} {w w' w0 u : Nat → Int32} {A B L S c d k n l y j m q s i r z E N M M' o T R : Nat} {v x a b e f p1 p2 p3 p4 p5 : Int32} {Q : Nat → Nat → Int32}
/-- the reference's search -/
def rv1 (d : Nat → Int32) (a : Int32) (y : Nat) : Option Int32 := if d y = a then some (jshl (1 : Int32) (nI y)) else none
def rv2i (d : Nat → Int32) (a : Int32) (y z : Nat) : Option Int32 := if d y ||| d z = a then some (jshl (1 : Int32) (nI y) ||| jshl (1 : Int32) (nI z)) else none
def rv2 (d : Nat → Int32) (a : Int32) (y : Nat) : Option Int32 := fsO (rv2i d a y) 0 y
def rv3i (d : Nat → Int32) (a : Int32) (y z t : Nat) : Option Int32 := if (d y ||| d z) ||| d t = a then some ((jshl (1 : Int32) (nI y) ||| jshl (1 : Int32) (nI z)) ||| jshl (1 : Int32) (nI t)) else none
def rv3j (d : Nat → Int32) (a : Int32) (y z : Nat) : Option Int32 := fsO (rv3i d a y z) 0 z
def rv3 (d : Nat → Int32) (a : Int32) (y : Nat) : Option Int32 := fsO (rv3j d a y) 1 (y - 1)
theorem rv1_n {d : Nat → Int32} (h : rv1 d a y = none) : d y ≠ a := fun z => by
  unfold rv1 at h; rw [if_pos z] at h; cases h
theorem rv2_n {d : Nat → Int32} (h : rv2i d a y z = none) : d y ||| d z ≠ a := fun q => by
  unfold rv2i at h; rw [if_pos q] at h; cases h
theorem ly_1 {D d : Nat → Int32} (h0 : a ≠ 0) (hD : ∀ y, y < 30 → D y = DD a (d y)) (hy : y < 30) : lyP D 0 a y = rv1 d a y := by
  show (if (a &&& (D y ^^^ (-1 : Int32))) = 0 then some (jshl (1 : Int32) (nI y)) else none) = if d y = a then some (jshl (1 : Int32) (nI y)) else none
  rw [hD y hy]
  have : (a &&& (DD a (d y) ^^^ (-1 : Int32))) = 0 ↔ d y = a := sb_iff.trans ((sb_eq dd_sb).trans (dd_1 h0))
  by_cases q : d y = a
  · rw [if_pos q, if_pos (this.mpr q)]
  · rw [if_neg q, if_neg (fun z => q (this.mp z))]
theorem ly_2 {D d : Nat → Int32} (h0 : a ≠ 0) (hD : ∀ y, y < 30 → D y = DD a (d y)) (n1 : ∀ y, y < 30 → d y ≠ a) (hy : y < 30) : lyP D 1 a y = rv2 d a y := by
  show (fsO (lyP D 0 (a &&& (D y ^^^ (-1 : Int32)))) 0 y).map (fun v => v ||| jshl (1 : Int32) (nI y)) = fsO (rv2i d a y) 0 y
  rw [fs_m]
  refine fs_c y 0 fun z _ hz => ?_
  have hz' : z < 30 := by omega
  show ((if ((a &&& (D y ^^^ (-1 : Int32))) &&& (D z ^^^ (-1 : Int32))) = 0 then some (jshl (1 : Int32) (nI z)) else none)).map (fun v => v ||| jshl (1 : Int32) (nI y)) = if d y ||| d z = a then some (jshl (1 : Int32) (nI y) ||| jshl (1 : Int32) (nI z)) else none
  rw [hD y hy, hD z hz', and_xm]
  have : (a &&& ((DD a (d y) ||| DD a (d z)) ^^^ (-1 : Int32))) = 0 ↔ d y ||| d z = a := sb_iff.trans ((sb_eq (sb_or.mpr ⟨dd_sb, dd_sb⟩)).trans (dd_2 h0 (n1 y hy) (n1 z hz')))
  by_cases q : d y ||| d z = a
  · rw [if_pos q, if_pos (this.mpr q), or_comm' (x := jshl (1 : Int32) (nI y))]
    rfl
  · rw [if_neg q, if_neg (fun z => q (this.mp z))]
    rfl
theorem ly_3 {D d : Nat → Int32} (h0 : a ≠ 0) (hD : ∀ y, y < 30 → D y = DD a (d y)) (n1 : ∀ y, y < 30 → d y ≠ a) (n2 : ∀ y z, y < 30 → z < y → d y ||| d z ≠ a) (hy : y < 30) (hy2 : 2 ≤ y) : lyP D 2 a y = rv3 d a y := by
  show (fsO (lyP D 1 (a &&& (D y ^^^ (-1 : Int32)))) 0 y).map (fun v => v ||| jshl (1 : Int32) (nI y)) = fsO (rv3j d a y) 1 (y - 1)
  rw [fs_m]
  obtain ⟨m, rfl⟩ : ∃ m, y = m + 1 := ⟨y - 1, by omega⟩
  show (none : Option Int32).or (fsO _ 1 m) = fsO _ 1 m
  rw [Option.none_or]
  refine fs_c m 1 fun z hz1 hz => ?_
  have hz' : z < 30 := by omega
  show ((fsO (lyP D 0 ((a &&& (D (m + 1) ^^^ (-1 : Int32))) &&& (D z ^^^ (-1 : Int32)))) 0 z).map (fun v => v ||| jshl (1 : Int32) (nI z))).map (fun v => v ||| jshl (1 : Int32) (nI (m + 1))) = fsO (rv3i d a (m + 1) z) 0 z
  rw [fs_m, fs_m]
  refine fs_c z 0 fun t _ ht => ?_
  have ht' : t < 30 := by omega
  show ((((if (((a &&& (D (m + 1) ^^^ (-1 : Int32))) &&& (D z ^^^ (-1 : Int32))) &&& (D t ^^^ (-1 : Int32))) = 0 then some (jshl (1 : Int32) (nI t)) else none)).map (fun v => v ||| jshl (1 : Int32) (nI z)))).map (fun v => v ||| jshl (1 : Int32) (nI (m + 1))) = if (d (m + 1) ||| d z) ||| d t = a then some ((jshl (1 : Int32) (nI (m + 1)) ||| jshl (1 : Int32) (nI z)) ||| jshl (1 : Int32) (nI t)) else none
  rw [hD (m + 1) hy, hD z hz', hD t ht', and_xm, and_xm, ← or_assoc' (x := DD a (d (m + 1)))]
  have : (a &&& (((DD a (d (m + 1)) ||| DD a (d z)) ||| DD a (d t)) ^^^ (-1 : Int32))) = 0 ↔ (d (m + 1) ||| d z) ||| d t = a := sb_iff.trans ((sb_eq (sb_or.mpr ⟨sb_or.mpr ⟨dd_sb, dd_sb⟩, dd_sb⟩)).trans (dd_3 h0 (n1 _ hy) (n1 z hz') (n1 t ht') (n2 _ z hy (by omega)) (n2 _ t hy (by omega)) (n2 z t hz' (by omega))))
  by_cases q : (d (m + 1) ||| d z) ||| d t = a
  · rw [if_pos q, if_pos (this.mpr q)]
    show some ((jshl (1 : Int32) (nI t) ||| jshl (1 : Int32) (nI z)) ||| jshl (1 : Int32) (nI (m + 1))) = some ((jshl (1 : Int32) (nI (m + 1)) ||| jshl (1 : Int32) (nI z)) ||| jshl (1 : Int32) (nI t))
    rw [or_comm' (x := jshl (1 : Int32) (nI (m + 1))), or_assoc', or_comm' (x := jshl (1 : Int32) (nI t)), or_assoc']
  · rw [if_neg q, if_neg (fun z => q (this.mp z))]
    rfl
def rvA (d : Nat → Int32) (a : Int32) : Option Int32 := (fsO (rv1 d a) 0 30).or ((fsO (rv2 d a) 1 29).or (fsO (rv3 d a) 2 28))
theorem ly_A {D d : Nat → Int32} (h0 : a ≠ 0) (hD : ∀ y, y < 30 → D y = DD a (d y)) : (fsO (lyP D 0 a) 0 30).or ((fsO (lyP D 1 a) 0 30).or (fsO (lyP D 2 a) 0 30)) = rvA d a := by
  unfold rvA
  have E1 : fsO (lyP D 0 a) 0 30 = fsO (rv1 d a) 0 30 := fs_c 30 0 fun y _ hy => ly_1 h0 hD (by omega)
  rw [E1]
  cases q1 : fsO (rv1 d a) 0 30 with
  | some v => rfl
  | none =>
    rw [Option.none_or, Option.none_or]
    have n1 : ∀ y, y < 30 → d y ≠ a := fun y hy => rv1_n (fs_n 30 0 q1 y (by omega) (by omega))
    have E2 : fsO (lyP D 1 a) 0 30 = fsO (rv2 d a) 1 29 := by
      show (none : Option Int32).or (fsO (lyP D 1 a) 1 29) = _
      rw [Option.none_or]
      exact fs_c 29 1 fun y _ hy => ly_2 h0 hD n1 (by omega)
    rw [E2]
    cases q2 : fsO (rv2 d a) 1 29 with
    | some v => rfl
    | none =>
      rw [Option.none_or, Option.none_or]
      have n2 : ∀ y z, y < 30 → z < y → d y ||| d z ≠ a := fun y z hy hz => rv2_n (fs_n y 0 (fs_n 29 1 q2 y (by omega) (by omega)) z (by omega) (by omega))
      show (none : Option Int32).or ((none : Option Int32).or (fsO (lyP D 2 a) 2 28)) = _
      rw [Option.none_or, Option.none_or]
      exact fs_c 28 2 fun y h2 hy => ly_3 h0 hD n1 n2 (by omega) h2
/-! the reference's loops -/
def elO (o : Option Int32) (H : Hp) (K : Option (Int32 × Hp)) : Option (Int32 × Hp) := o.elim K fun v => some (v, H)
theorem el_or {o o' : Option Int32} {H : Hp} {K : Option (Int32 × Hp)} : elO (o.or o') H K = elO o H (elO o' H K) := by
  cases o <;> rfl
theorem el_3 {o o' o'' : Option Int32} {H : Hp} {K : Option (Int32 × Hp)} : elO o H (elO o' H (elO o'' H K)) = elO (o.or (o'.or o'')) H K := by
  rw [el_or, el_or]
theorem N_bl1 (t : TSr h) (e6 : g 756 = w) (W : WF M w) (hy : y < 30) : f_Model_isBlamed (uI h g) 755 a (nI y) (-1) (-1) = some (if dksF w y 0 0 (nh w) = a then 1 else 0, uI h g) := by
  have s7 : hS (uI h g) 755 = 11 := t.1
  unfold f_Model_isBlamed f_Model_isBlamed_b0 f_Model_isBlamed_b18 f_Model_isBlamed_b34
  rw [if_pos s7, N_drinkers t e6 W hy, bI_s, if_neg (show ¬ (0 : Int32) ≤ -1 by decide), if_neg (show ¬ (0 : Int32) ≤ -1 by decide), or_z, or_z]
  by_cases q : dksF w y 0 0 (nh w) = a
  · rw [if_pos q, if_pos q]
  · rw [if_neg q, if_neg q]
theorem N_bl2 (t : TSr h) (e6 : g 756 = w) (W : WF M w) (hy : y < 30) (hz : z < 30) : f_Model_isBlamed (uI h g) 755 a (nI y) (nI z) (-1) = some (if dksF w y 0 0 (nh w) ||| dksF w z 0 0 (nh w) = a then 1 else 0, uI h g) := by
  have s7 : hS (uI h g) 755 = 11 := t.1
  unfold f_Model_isBlamed f_Model_isBlamed_b0 f_Model_isBlamed_b18 f_Model_isBlamed_b34
  rw [if_pos s7, N_drinkers t e6 W hy, bI_s, if_pos (nI_pos' (by omega)), if_pos s7, N_drinkers t e6 W hz, bI_s, if_neg (show ¬ (0 : Int32) ≤ -1 by decide), or_z]
  by_cases q : dksF w y 0 0 (nh w) ||| dksF w z 0 0 (nh w) = a
  · rw [if_pos q, if_pos q]
  · rw [if_neg q, if_neg q]
theorem N_bl3 (t : TSr h) (e6 : g 756 = w) (W : WF M w) (hy : y < 30) (hz : z < 30) (hk : k < 30) : f_Model_isBlamed (uI h g) 755 a (nI y) (nI z) (nI k) = some (if (dksF w y 0 0 (nh w) ||| dksF w z 0 0 (nh w)) ||| dksF w k 0 0 (nh w) = a then 1 else 0, uI h g) := by
  have s7 : hS (uI h g) 755 = 11 := t.1
  unfold f_Model_isBlamed f_Model_isBlamed_b0 f_Model_isBlamed_b18 f_Model_isBlamed_b34
  rw [if_pos s7, N_drinkers t e6 W hy, bI_s, if_pos (nI_pos' (by omega)), if_pos s7, N_drinkers t e6 W hz, bI_s, if_pos (nI_pos' (by omega)), if_pos s7, N_drinkers t e6 W hk, bI_s]
  by_cases q : (dksF w y 0 0 (nh w) ||| dksF w z 0 0 (nh w)) ||| dksF w k 0 0 (nh w) = a
  · rw [if_pos q, if_pos q]
  · rw [if_neg q, if_neg q]
/-- who drank of each year -/
def dkY (w : Nat → Int32) (y : Nat) : Int32 := dksF w y 0 0 (nh w)
theorem N_few121 (t : TSr h) (e6 : g 756 = w) (W : WF M w) (hy : y < 30) (hz : z < 30) {K : Hp → Nat → Int32 → Int32 → Int32 → Option (Int32 × Hp)} : ∀ (j i : Nat), i + j = z → ∀ q, f_Model_fewest_L121 K (q + j + 1) (uI h g) 755 a (nI y) (nI z) (nI i) = elO (fsO (rv3i (dkY w) a y z) i j) (uI h g) (K (uI h g) 755 a (nI y) (nI (z + 1))) := by
  have s7 : hS (uI h g) 755 = 11 := t.1
  intro j
  induction j with
  | zero =>
    intro i hi q
    have hi' : i = z := hi
    subst hi'
    show f_Model_fewest_b121 K (f_Model_fewest_L121 K q) (uI h g) 755 a (nI y) (nI i) (nI i) = _
    unfold f_Model_fewest_b121
    rw [if_pos (Int32.le_refl _), nI_1]
    rfl
  | succ j ih =>
    intro i hi q
    have E : f_Model_fewest_L121 K (q + (j + 1) + 1) (uI h g) 755 a (nI y) (nI z) (nI i) = f_Model_fewest_b121 K (f_Model_fewest_L121 K (q + j + 1)) (uI h g) 755 a (nI y) (nI z) (nI i) := rfl
    have F : fsO (rv3i (dkY w) a y z) i (j + 1) = (rv3i (dkY w) a y z i).or (fsO (rv3i (dkY w) a y z) (i + 1) j) := rfl
    rw [E, F, el_or, ← ih (i + 1) (by omega) q]
    unfold f_Model_fewest_b121 rv3i dkY
    rw [if_neg (nI_ge (by omega) (by omega)), if_pos s7, N_bl3 t e6 W hy hz (by omega), bI_s, nI_1]
    by_cases q : (dksF w y 0 0 (nh w) ||| dksF w z 0 0 (nh w)) ||| dksF w i 0 0 (nh w) = a
    · rw [if_pos q, if_pos q, if_neg (by decide)]; rfl
    · rw [if_neg q, if_neg q, if_pos rfl]; rfl
theorem N_few112 (t : TSr h) (e6 : g 756 = w) (W : WF M w) (hy : y < 30) {K : Hp → Nat → Int32 → Int32 → Option (Int32 × Hp)} : ∀ (j i : Nat), i + j = y → ∀ q, f_Model_fewest_L112 K (q + j + 1) (uI h g) 755 a (nI y) (nI i) = elO (fsO (rv3j (dkY w) a y) i j) (uI h g) (K (uI h g) 755 a (nI (y + 1))) := by
  intro j
  induction j with
  | zero =>
    intro i hi q
    have hi' : i = y := hi
    subst hi'
    show f_Model_fewest_b112 K (f_Model_fewest_L112 K q) (uI h g) 755 a (nI i) (nI i) = _
    unfold f_Model_fewest_b112
    rw [if_pos (Int32.le_refl _), nI_1]
    rfl
  | succ j ih =>
    intro i hi q
    have E : f_Model_fewest_L112 K (q + (j + 1) + 1) (uI h g) 755 a (nI y) (nI i) = f_Model_fewest_b112 K (f_Model_fewest_L112 K (q + j + 1)) (uI h g) 755 a (nI y) (nI i) := rfl
    have F : fsO (rv3j (dkY w) a y) i (j + 1) = (rv3j (dkY w) a y i).or (fsO (rv3j (dkY w) a y) (i + 1) j) := rfl
    rw [E, F, el_or, ← ih (i + 1) (by omega) q]
    unfold f_Model_fewest_b112
    rw [if_neg (nI_ge (by omega) (by omega)), FU_mm (k := i) (by omega)]
    exact N_few121 t e6 W hy (by omega) i 0 (by omega) _
theorem N_few103 (t : TSr h) (e6 : g 756 = w) (W : WF M w) : ∀ (j y : Nat), y + j = 30 → 1 ≤ y → ∀ q, f_Model_fewest_L103 (q + j + 1) (uI h g) 755 a (nI y) = elO (fsO (rv3 (dkY w) a) y j) (uI h g) (some (-1, uI h g)) := by
  intro j
  induction j with
  | zero =>
    intro y hy _ q
    have hy' : y = 30 := hy
    subst hy'
    show f_Model_fewest_b103 (f_Model_fewest_L103 q) (uI h g) 755 a (nI 30) = _
    unfold f_Model_fewest_b103
    rw [if_pos (show (30 : Int32) ≤ nI 30 by decide)]
    rfl
  | succ j ih =>
    intro y hy h1 q
    have E : f_Model_fewest_L103 (q + (j + 1) + 1) (uI h g) 755 a (nI y) = f_Model_fewest_b103 (f_Model_fewest_L103 (q + j + 1)) (uI h g) 755 a (nI y) := rfl
    have F : fsO (rv3 (dkY w) a) y (j + 1) = (rv3 (dkY w) a y).or (fsO (rv3 (dkY w) a) (y + 1) j) := rfl
    rw [E, F, el_or, ← ih (y + 1) (by omega) (by omega) q]
    unfold f_Model_fewest_b103
    rw [if_neg (show ¬ (30 : Int32) ≤ nI y from nI_ge (b := 30) (by omega) (by decide)), FU_mm (k := y - 1) (by omega)]
    exact N_few112 t e6 W (by omega) (y - 1) 1 (by omega) _
theorem N_few62 (t : TSr h) (e6 : g 756 = w) (W : WF M w) (hy : y < 30) {K : Hp → Nat → Int32 → Int32 → Option (Int32 × Hp)} : ∀ (j i : Nat), i + j = y → ∀ q, f_Model_fewest_L62 K (q + j + 1) (uI h g) 755 a (nI y) (nI i) = elO (fsO (rv2i (dkY w) a y) i j) (uI h g) (K (uI h g) 755 a (nI (y + 1))) := by
  have s7 : hS (uI h g) 755 = 11 := t.1
  intro j
  induction j with
  | zero =>
    intro i hi q
    have hi' : i = y := hi
    subst hi'
    show f_Model_fewest_b62 K (f_Model_fewest_L62 K q) (uI h g) 755 a (nI i) (nI i) = _
    unfold f_Model_fewest_b62
    rw [if_pos (Int32.le_refl _), nI_1]
    rfl
  | succ j ih =>
    intro i hi q
    have E : f_Model_fewest_L62 K (q + (j + 1) + 1) (uI h g) 755 a (nI y) (nI i) = f_Model_fewest_b62 K (f_Model_fewest_L62 K (q + j + 1)) (uI h g) 755 a (nI y) (nI i) := rfl
    have F : fsO (rv2i (dkY w) a y) i (j + 1) = (rv2i (dkY w) a y i).or (fsO (rv2i (dkY w) a y) (i + 1) j) := rfl
    rw [E, F, el_or, ← ih (i + 1) (by omega) q]
    unfold f_Model_fewest_b62 rv2i dkY
    rw [if_neg (nI_ge (by omega) (by omega)), if_pos s7, N_bl2 t e6 W hy (by omega), bI_s, nI_1]
    by_cases q : dksF w y 0 0 (nh w) ||| dksF w i 0 0 (nh w) = a
    · rw [if_pos q, if_pos q, if_neg (by decide)]; rfl
    · rw [if_neg q, if_neg q, if_pos rfl]; rfl
theorem N_few53 (t : TSr h) (e6 : g 756 = w) (W : WF M w) : ∀ (j y : Nat), y + j = 30 → 1 ≤ y → ∀ q, f_Model_fewest_L53 (q + j + 1) (uI h g) 755 a (nI y) = elO (fsO (rv2 (dkY w) a) y j) (uI h g) (elO (fsO (rv3 (dkY w) a) 2 28) (uI h g) (some (-1, uI h g))) := by
  intro j
  induction j with
  | zero =>
    intro y hy _ q
    have hy' : y = 30 := hy
    subst hy'
    show f_Model_fewest_b53 (f_Model_fewest_L53 q) (uI h g) 755 a (nI 30) = _
    unfold f_Model_fewest_b53
    rw [if_pos (show (30 : Int32) ≤ nI 30 by decide), FU_mm (k := 28) (by decide)]
    exact N_few103 t e6 W 28 2 (by decide) (by decide) _
  | succ j ih =>
    intro y hy h1 q
    have E : f_Model_fewest_L53 (q + (j + 1) + 1) (uI h g) 755 a (nI y) = f_Model_fewest_b53 (f_Model_fewest_L53 (q + j + 1)) (uI h g) 755 a (nI y) := rfl
    have F : fsO (rv2 (dkY w) a) y (j + 1) = (rv2 (dkY w) a y).or (fsO (rv2 (dkY w) a) (y + 1) j) := rfl
    rw [E, F, el_or, ← ih (y + 1) (by omega) (by omega) q]
    unfold f_Model_fewest_b53
    rw [if_neg (show ¬ (30 : Int32) ≤ nI y from nI_ge (b := 30) (by omega) (by decide)), FU_mm (k := y) (by omega)]
    exact N_few62 t e6 W (by omega) y 0 (by omega) _
theorem N_few24 (t : TSr h) (e6 : g 756 = w) (W : WF M w) : ∀ (j y : Nat), y + j = 30 → ∀ q, f_Model_fewest_L24 (q + j + 1) (uI h g) 755 a (nI y) = elO (fsO (rv1 (dkY w) a) y j) (uI h g) (elO (fsO (rv2 (dkY w) a) 1 29) (uI h g) (elO (fsO (rv3 (dkY w) a) 2 28) (uI h g) (some (-1, uI h g)))) := by
  have s7 : hS (uI h g) 755 = 11 := t.1
  intro j
  induction j with
  | zero =>
    intro y hy q
    have hy' : y = 30 := hy
    subst hy'
    show f_Model_fewest_b24 (f_Model_fewest_L24 q) (uI h g) 755 a (nI 30) = _
    unfold f_Model_fewest_b24
    rw [if_pos (show (30 : Int32) ≤ nI 30 by decide), FU_mm (k := 29) (by decide)]
    exact N_few53 t e6 W 29 1 (by decide) (by decide) _
  | succ j ih =>
    intro y hy q
    have E : f_Model_fewest_L24 (q + (j + 1) + 1) (uI h g) 755 a (nI y) = f_Model_fewest_b24 (f_Model_fewest_L24 (q + j + 1)) (uI h g) 755 a (nI y) := rfl
    have F : fsO (rv1 (dkY w) a) y (j + 1) = (rv1 (dkY w) a y).or (fsO (rv1 (dkY w) a) (y + 1) j) := rfl
    rw [E, F, el_or, ← ih (y + 1) (by omega) q]
    unfold f_Model_fewest_b24 rv1 dkY
    rw [if_neg (show ¬ (30 : Int32) ≤ nI y from nI_ge (b := 30) (by omega) (by decide)), if_pos s7, N_bl1 t e6 W (by omega), bI_s, nI_1]
    by_cases q : dksF w y 0 0 (nh w) = a
    · rw [if_pos q, if_pos q, if_neg (by decide)]; rfl
    · rw [if_neg q, if_neg q, if_pos rfl]; rfl
/-! the class's loops -/
theorem C_few18 (t : TS h) (W : WF M w) : ∀ (j y : Nat) (g : Nat → Nat → Int32), y + j = 30 → RLa g 569 w → ∀ q, ∃ g1, f_Water_fewest_L18 (q + j + 1) (uI h g) 1 a (nI y) = f_Water_fewest_L63 FU (uI h g1) 1 a 1 ∧ (∀ i, y ≤ i → i < 30 → g1 754 i = DD a (dkY w i)) ∧ (∀ i, i < y → g1 754 i = g 754 i) ∧ ∀ r, r ≠ 754 → g1 r = g r := by
  have w1 : ∀ g, hS (uI h g) 1 = 10 := fun g => t.2.1.1
  have w5 : ∀ g, hR (uI h g) 1 4 = 569 := fun g => t.2.1.2.1.2.2.2.2.1
  have w6 : ∀ g, hS (uI h g) 569 = 4 := fun g => t.l9.1
  have w9 : ∀ g, hR (uI h g) 1 9 = 754 := fun g => t.2.1.2.1.2.2.2.2.2.2.2.2.2
  have s2 : ∀ g, hS (uI h g) 754 = 20 := fun g => t.2.1.2.2.2.1
  have l2 : ∀ g, hL (uI h g) 754 = 30 := fun g => t.2.1.2.2.2.2
  intro j
  induction j with
  | zero =>
    intro y g hy R q
    have hy' : y = 30 := hy
    subst hy'
    refine ⟨g, ?_, fun i h1 h2 => by omega, fun _ _ => rfl, fun _ _ => rfl⟩
    show f_Water_fewest_b18 (f_Water_fewest_L18 q) (uI h g) 1 a (nI 30) = _
    unfold f_Water_fewest_b18
    rw [if_pos (show (30 : Int32) ≤ nI 30 by decide)]
  | succ j ih =>
    intro y g hy R q
    have E : f_Water_fewest_L18 (q + (j + 1) + 1) (uI h g) 1 a (nI y) = f_Water_fewest_b18 (f_Water_fewest_L18 (q + j + 1)) (uI h g) 1 a (nI y) := rfl
    obtain ⟨g1, i1, i2, i3, i4⟩ := ih (y + 1) (up2 g 754 y (DD a (dkY w y))) (by omega) (R.ex W.2.1 fun r _ h2 _ => up_row (by omega)) q
    refine ⟨g1, ?_, fun i h1 h2 => ?_, fun i hi => ?_, fun r hr => (i4 r hr).trans (up_row hr)⟩
    · rw [E, ← i1]
      unfold f_Water_fewest_b18 f_Water_fewest_b54
      rw [if_neg (show ¬ (30 : Int32) ≤ nI y from nI_ge (b := 30) (by omega) (by decide)), if_pos (w1 _), w5, if_pos (w6 _), C_drinkers t.l9 R W (by omega), bI_s, if_pos (w1 _), w9, if_pos (s2 _), l2, if_pos (ib_n (by omega) (by decide)), if_pos (s2 _), if_pos (ib_n (by omega) (by decide)), ix_n (by omega), wr_s, sI_u, wr_s, sI_u, nI_1]
      show (if dkY w y &&& (a ^^^ (-1 : Int32)) = 0 then _ else _) = _
      unfold DD
      by_cases q : dkY w y &&& (a ^^^ (-1 : Int32)) = 0
      · rw [if_pos q, if_pos q]; rfl
      · rw [if_neg q, if_neg q]
    · by_cases e : i = y
      · subst e
        rw [i3 i (by omega), up_eq]
      · exact i2 i (by omega) h2
    · rw [i3 i (by omega), up_k (by omega)]
theorem C_few63 (t : TS h) {D : Nat → Int32} (hD : ∀ y, y < 30 → g 754 y = D y) : f_Water_fewest_L63 FU (uI h g) 1 a 1 = some (oI ((fsO (lyP D 0 a) 0 30).or ((fsO (lyP D 1 a) 0 30).or (fsO (lyP D 2 a) 0 30))), uI h g) := by
  have w1 : hS (uI h g) 1 = 10 := t.2.1.1
  have w9 : hR (uI h g) 1 9 = 754 := t.2.1.2.1.2.2.2.2.2.2.2.2.2
  have s2 : hS h 754 = 20 := t.2.1.2.2.2.1
  have l2 : hL h 754 = 30 := t.2.1.2.2.2.2
  have E : ∀ n s, s < 30 → f_Water_fewest_L63 (n + 1) (uI h g) 1 a (nI (s + 1)) = f_Water_fewest_b63 (f_Water_fewest_L63 n) (uI h g) 1 a (nI (s + 1)) := fun _ _ _ => rfl
  have K : ∀ s n, s < 3 → f_Water_fewest_L63 (n + 1) (uI h g) 1 a (nI (s + 1)) = elO (fsO (lyP D s a) 0 30) (uI h g) (f_Water_fewest_L63 n (uI h g) 1 a (nI (s + 1 + 1))) := by
    intro s n hs
    rw [E n s (by omega)]
    unfold f_Water_fewest_b63
    have ly := C_ly (h := h) (g := g) s2 l2 hD s (by omega) a 30 (39 - s) (by decide)
    rw [show 39 - s + s + 1 = 40 from by omega] at ly
    rw [if_neg (show ¬ (3 : Int32) < nI (s + 1) from nI_nlt (a := 3) (by omega) (by decide)), if_pos w1, w9]
    show bI (f_Least_G 40 (uI h g) 754 a (nI (s + 1)) (nI 30)) _ = _
    rw [ly, bI_s, nI_1]
    cases q : fsO (lyP D s a) 0 30 with
    | none => rw [if_pos (show oI none = -1 from rfl)]; rfl
    | some v =>
      have := fs_s (K := fun v => gb v 31 = false) 30 0 (fun i v _ h2 h3 => ly_31 _ _ i v (by omega) h3) v q
      rw [if_neg (show ¬ oI (some v) = -1 from ne_m1 this)]
      rfl
  show f_Water_fewest_L63 (999996 + 1 + 1 + 1 + 1) (uI h g) 1 a (nI (0 + 1)) = _
  rw [K 0 _ (by decide), K 1 _ (by decide), K 2 _ (by decide)]
  show elO _ _ (elO _ _ (elO _ _ (f_Water_fewest_b63 (f_Water_fewest_L63 999996) (uI h g) 1 a (nI 4)))) = _
  have z : f_Water_fewest_b63 (f_Water_fewest_L63 999996) (uI h g) 1 a (nI 4) = some (-1, uI h g) := by
    unfold f_Water_fewest_b63
    rw [if_pos (show (3 : Int32) < nI 4 by decide)]
  rw [z, el_3]
  cases ((fsO (lyP D 0 a) 0 30).or ((fsO (lyP D 1 a) 0 30).or (fsO (lyP D 2 a) 0 30))) <;> rfl
theorem INV.sc {r0 : Nat} (I : INV M h g) (hr : r0 = 753 ∨ r0 = 754) (x : ∀ r, r ≠ r0 → g' r = g r) : INV M h g' := by
  obtain ⟨t, H, R⟩ := I
  have z : FZ h g g' := fun r h1 _ => x r (by omega)
  have X : ∀ r, r ≤ 765 → r ≠ 753 → r ≠ 754 → g' r = g r := fun r _ h1 h2 => x r (by omega)
  obtain ⟨T1, t1, t2, -⟩ := R.2.2.1
  refine ⟨t, ?_, R.fr (Nat.le_refl _) (fun r hr => by unfold KPT at hr; exact X r (by omega) (by omega) (by omega)) (by rw [X 1 (by decide) (by decide) (by decide)]) ?_ (by rw [X 755 (by decide) (by decide) (by decide)]) (by rw [X 755 (by decide) (by decide) (by decide)]) ?_ (Or.inl (by rw [X 2 (by decide) (by decide) (by decide)])) z⟩
  · rw [X 756 (by decide) (by decide) (by decide)]
    exact H.fz z fun r h1 h2 _ => X r (by omega) (by omega) (by omega)
  · rw [X 1 (by decide) (by decide) (by decide), X 755 (by decide) (by decide) (by decide)]
    exact R.2.2.2.1
  · rw [X 755 (by decide) (by decide) (by decide), X 2 (by decide) (by decide) (by decide), t1, t2]
theorem sp_fewest : VSp M (fun H => f_Water_fewest H 1 p1) (fun H => f_Model_fewest H 755 p1) := by
  intro H I
  obtain ⟨h, g, rfl⟩ : ∃ h g, H = uI h g := ⟨H, hI H, rfl⟩
  have I : INV M h g := I
  obtain ⟨t, W, R, Lr, -, e1, -⟩ := I.us
  obtain ⟨⟨w1, -, -, -, -, w5, -⟩, w6, -⟩ := WTR (g := g) t
  have s7 : ∀ (g : Nat → Nat → Int32), hS (uI h g) 755 = 11 := fun g => t.td.1.1
  by_cases z : p1 &&& (jshl (1 : Int32) (nI (nh (g 756))) - 1) = 0
  · refine cl_v (h := h) (g := g) (fw := fun H => f_Water_fewest H 1 p1) (fm := fun H => f_Model_fewest H 755 p1) (h1 := h) (g1 := g) (g2 := up2 g 755 0 0) (v := 0) ?_ t ?_ I.th (by omega) (by omega)
    · show f_Water_fewest_b0 (uI h g) 1 p1 = _
      unfold f_Water_fewest_b0 f_Land_houseBits f_Land_houseBits_b0
      rw [if_pos w1, w5, if_pos w6, if_pos w6, hI_u, e1, bI_s, if_pos z]
    · show f_Model_fewest_b0 (uI h g) 755 p1 = _
      unfold f_Model_fewest_b0
      rw [if_pos (s7 _), wr_s, sI_u, N_hou t.td.1, bI_s, up_row (by decide), W.1.2.1, if_pos z]
  · obtain ⟨g1, c1, c2, -, c4⟩ := C_few18 (a := p1 &&& (jshl (1 : Int32) (nI (nh (g 756))) - 1)) t W 30 0 g rfl R 999969
    have I1 : INV M h g1 := I.sc (Or.inr rfl) c4
    have q6 : g1 756 = g 756 := c4 756 (by decide)
    have e6 : up2 g1 755 0 0 756 = g 756 := (up_row (by decide)).trans q6
    refine cl_v (h := h) (g := g) (fw := fun H => f_Water_fewest H 1 p1) (fm := fun H => f_Model_fewest H 755 p1) (h1 := h) (g1 := g1) (g2 := up2 g1 755 0 0) (v := oI (rvA (dkY (g 756)) (p1 &&& (jshl (1 : Int32) (nI (nh (g 756))) - 1)))) ?_ t ?_ I1.th (by omega) (by omega)
    · show f_Water_fewest_b0 (uI h g) 1 p1 = _
      unfold f_Water_fewest_b0 f_Land_houseBits f_Land_houseBits_b0
      rw [if_pos w1, w5, if_pos w6, if_pos w6, hI_u, e1, bI_s, if_neg z]
      refine Eq.trans c1 ?_
      rw [C_few63 (D := fun y => DD (p1 &&& (jshl (1 : Int32) (nI (nh (g 756))) - 1)) (dkY (g 756) y)) t (fun y hy => c2 y (by omega) hy), ly_A (d := dkY (g 756)) z (fun y _ => rfl)]
    · show f_Model_fewest_b0 (uI h g1) 755 p1 = _
      unfold f_Model_fewest_b0
      rw [if_pos (s7 _), wr_s, sI_u, N_hou t.td.1, bI_s, e6, W.1.2.1, if_neg z]
      refine (N_few24 t.td.1 e6 W 30 0 rfl 999969).trans ?_
      rw [el_3]
      show elO (rvA _ _) _ _ = _
      cases rvA (dkY (g 756)) (p1 &&& (jshl (1 : Int32) (nI (nh (g 756))) - 1)) <;> rfl
end U44
