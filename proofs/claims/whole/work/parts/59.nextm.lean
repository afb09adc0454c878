/-! ===== placeOf and nextOf of the reference ===== -/
section U9
variable {h : Hp} {g g' g1 : Nat → Nat → Int32} {w w' : Nat → Int32} {A c d k n l y j m q s i F r z : Nat} {v x a b : Int32} {f p : Nat → Nat} {st st' r' : List Int32} {ts ts' : List Bool}
def lwN (w : Nat → Int32) : Nat := ix (w 617)
def lwE (w : Nat → Int32) (n : Nat) : Nat := ix (w (620 + 3 * n))
def lwS (w : Nat → Int32) (n : Nat) : Nat := if n = 0 then 0 else lwE w (n - 1)
/-- a law as it should be -/
def WFL (w : Nat → Int32) : Prop := w 617 = nI (lwN w) ∧ lwN w ≤ 12 ∧ ∀ n, n < lwN w → w (619 + 3 * n) = nI (lwS w n) ∧ w (620 + 3 * n) = nI (lwE w n) ∧ lwS w n ≤ lwE w n ∧ lwE w n ≤ 400 ∧ (w (618 + 3 * n) = -1 ∨ ∃ v, w (618 + 3 * n) = nI v ∧ v ≤ 999) ∧
  (tyR w (lwE w n - lwS w n) (lwS w n) [] = some [] ∨ tyR w (lwE w n - lwS w n) (lwS w n) [] = some [true])
def hdW (w : Nat → Int32) (c y n : Nat) : Int32 := match evR w c y (lwE w n - lwS w n) (lwS w n) [] with
  | some sf => rsW sf
  | none => 0
def plW (w : Nat → Int32) (c y : Nat) : Nat → Nat → Int32 → Int32
  | 0, _, s => s
  | j + 1, n, s => if hdW w c y n = 0 then plW w c y j (n + 1) s else if 0 ≤ w (618 + 3 * n) then plW w c y j (n + 1) (s + w (618 + 3 * n)) else -1
/-- the place of a year in a cistern -/
def pcW (w : Nat → Int32) (c y : Nat) : Int32 := if w (70 + 35 * c + y) = 0 then -1 else if w 3 = 0 then (if w (66 + 35 * c) = 1 then -1 else if w (67 + 35 * c) = 1 then -1 else ageW w y) else plW w c y (lwN w) 0 0
def nxF (P : Nat → Int32) : Nat → Int32 × Int32
  | 0 => (-1, -1)
  | y + 1 => if (nxF P y).2 < P y then (nI y, P y) else nxF P y
/-- the year that would be drunk first -/
def nextW (w : Nat → Int32) (c : Nat) : Int32 := (nxF (pcW w c) 30).1
/-- but for what waits nothing has changed -/
def F3 (g g' : Nat → Nat → Int32) : Prop := ∀ r, r ≠ 763 → g' r = g r
theorem F3.rf : F3 g g := fun _ _ => rfl
theorem F3.tr (x : F3 g g1) (y : F3 g1 g') : F3 g g' := fun r hr => (y r hr).trans (x r hr)
theorem N_holds (t : TSr h) (hc : c < 8) (hy : y < 30) (hk : g 756 (67 + 35 * c) = 0 ∨ g 756 (67 + 35 * c) = 1) (L : WFL (g 756)) (hn : n < lwN (g 756)) :
    ∃ g', f_Model_holdsLine (uI h g) 755 (nI n) (nI c) (nI y) = some (hdW (g 756) c y n, uI h g') ∧ F3 g g' := by
  obtain ⟨L1, L2, L3⟩ := L
  obtain ⟨l1, l2, l3, l4, l5, l6⟩ := L3 n hn
  obtain ⟨s, ⟨r1, -⟩, ⟨b1, b2⟩, -⟩ := t.iu (g := g)
  have l6' : ∃ tf, tyR (g 756) (lwE (g 756) n - lwS (g 756) n) (lwS (g 756) n) [] = some tf ∧ tf.length ≤ 1 := by
    rcases l6 with z | z
    · exact ⟨_, z, Nat.zero_le _⟩
    · exact ⟨_, z, Nat.le_refl _⟩
  obtain ⟨tf, t1, t2⟩ := l6'
  have e : (618 : Int32) + 3 * nI n = nI (618 + 3 * n) := by
    show nI 618 + nI 3 * nI n = _
    rw [nI_mul, nI_add]
  have hq : lwE (g 756) n - lwS (g 756) n < 1000000 := by omega
  obtain ⟨g', sf, p1, p2, p3⟩ := N_hold_L t hc hy hk (n := n) (by omega) l2 l4 t2 (lwE (g 756) n - lwS (g 756) n) (lwS (g 756) n) g [] [] rfl (by omega) t1 (Nat.zero_le _) trivial trivial (999999 - (lwE (g 756) n - lwS (g 756) n))
  refine ⟨g', ?_, p3⟩
  unfold f_Model_holdsLine f_Model_holdsLine_b0
  rw [if_pos s, r1, if_pos b1, b2, e, nI_1, if_pos (ib_n (by omega) (by decide)), ix_n (by omega), hI_u, show 618 + 3 * n + 1 = 619 + 3 * n from by omega, l1, FU_mm hq]
  have z : hdW (g 756) c y n = rsW sf := by unfold hdW; rw [p1]
  rw [z]
  exact p2
theorem N_pl_L (t : TSr h) (hc : c < 8) (hy : y < 30) (hk : w (67 + 35 * c) = 0 ∨ w (67 + 35 * c) = 1) (L : WFL w) : ∀ (j n : Nat) (s : Int32) (g : Nat → Nat → Int32), g 756 = w → n + j = lwN w → ∀ q,
    ∃ g', f_Model_placeOf_L60 (q + j + 1) (uI h g) 755 (nI c) (nI y) s (nI n) = some (plW w c y j n s, uI h g') ∧ F3 g g' := by
  intro j
  induction j with
  | zero =>
    intro n s g hg hn q
    obtain ⟨s1, ⟨r1, -⟩, ⟨b1, b2⟩, -⟩ := t.iu (g := g)
    have E : f_Model_placeOf_L60 (q + 0 + 1) (uI h g) 755 (nI c) (nI y) s (nI n) = f_Model_placeOf_b60 (f_Model_placeOf_L60 q) (uI h g) 755 (nI c) (nI y) s (nI n) := rfl
    have hn' : n = lwN w := hn
    rw [E]
    unfold f_Model_placeOf_b60
    rw [if_pos s1, r1, if_pos b1, b2, show (617 : Int32) = nI 617 from rfl, if_pos (ib_n (by decide) (by decide)), ix_n (by decide), hI_u, hg, L.1, hn', if_pos (Int32.le_refl _)]
    exact ⟨g, rfl, F3.rf⟩
  | succ j ih =>
    intro n s g hg hn q
    obtain ⟨s1, ⟨r1, -⟩, ⟨b1, b2⟩, -⟩ := t.iu (g := g)
    have E : f_Model_placeOf_L60 (q + (j + 1) + 1) (uI h g) 755 (nI c) (nI y) s (nI n) = f_Model_placeOf_b60 (f_Model_placeOf_L60 (q + j + 1)) (uI h g) 755 (nI c) (nI y) s (nI n) := rfl
    have l12 := L.2.1
    obtain ⟨g1, p1, p2⟩ := N_holds t hc hy (g := g) (n := n) (by rw [hg]; exact hk) (by rw [hg]; exact L) (by rw [hg]; omega)
    have e : (618 : Int32) + 3 * nI n = nI (618 + 3 * n) := by
      show nI 618 + nI 3 * nI n = _
      rw [nI_mul, nI_add]
    have hg1 : g1 756 = w := (p2 756 (by decide)).trans hg
    obtain ⟨s2, ⟨r2, -⟩, ⟨c1, c2⟩, -⟩ := t.iu (g := g1)
    rw [hg] at p1
    rw [E]
    unfold f_Model_placeOf_b60
    rw [if_pos s1, r1, if_pos b1, b2, show (617 : Int32) = nI 617 from rfl, if_pos (ib_n (by decide) (by decide)), ix_n (by decide), hI_u, hg, L.1, if_neg (nI_ge (by omega) (by omega)), p1, bI_s]
    have st : ∀ s2, ∃ g', f_Model_placeOf_b114 (f_Model_placeOf_L60 (q + j + 1)) (uI h g1) 755 (nI c) (nI y) s2 (nI n) = some (plW w c y j (n + 1) s2, uI h g') ∧ F3 g g' := fun s2 => by
      unfold f_Model_placeOf_b114
      rw [nI_1]
      obtain ⟨g', q1, q2⟩ := ih (n + 1) s2 g1 hg1 (by omega) q
      exact ⟨g', q1, p2.tr q2⟩
    by_cases e0 : hdW w c y n = 0
    · rw [if_pos e0]
      have z : plW w c y (j + 1) n s = plW w c y j (n + 1) s := if_pos e0
      rw [z]
      exact st s
    · rw [if_neg e0, if_pos s2, r2, if_pos c1, c2, e, if_pos (ib_n (by omega) (by decide)), ix_n (by omega), hI_u, hg1]
      by_cases e1 : 0 ≤ w (618 + 3 * n)
      · rw [if_pos e1]
        have z : plW w c y (j + 1) n s = plW w c y j (n + 1) (s + w (618 + 3 * n)) := (if_neg e0).trans (if_pos e1)
        rw [z]
        exact st _
      · rw [if_neg e1]
        have z : plW w c y (j + 1) n s = -1 := (if_neg e0).trans (if_neg e1)
        rw [z]
        exact ⟨g1, rfl, p2⟩
theorem N_place (t : TSr h) (hc : c < 8) (hy : y < 30) (hk : g 756 (67 + 35 * c) = 0 ∨ g 756 (67 + 35 * c) = 1) (L : ¬ g 756 3 = 0 → WFL (g 756)) :
    ∃ g', f_Model_placeOf (uI h g) 755 (nI c) (nI y) = some (pcW (g 756) c y, uI h g') ∧ F3 g g' := by
  obtain ⟨s, ⟨r1, -⟩, ⟨b1, b2⟩, -⟩ := t.iu (g := g)
  have O1 : f_Model_ofCistern (uI h g) 755 (nI c) (1 : Int32) = some (g 756 (66 + 35 * c), uI h g) := by
    rw [show (1 : Int32) = nI 1 from rfl, N_of t hc (by decide), show 65 + 35 * c + 1 = 66 + 35 * c from by omega]
  have O2 : f_Model_ofCistern (uI h g) 755 (nI c) (2 : Int32) = some (g 756 (67 + 35 * c), uI h g) := by
    rw [show (2 : Int32) = nI 2 from rfl, N_of t hc (by decide), show 65 + 35 * c + 2 = 67 + 35 * c from by omega]
  unfold f_Model_placeOf f_Model_placeOf_b0
  rw [if_pos s, N_layer t hc hy, bI_s]
  by_cases e0 : g 756 (70 + 35 * c + y) = 0
  · have z : pcW (g 756) c y = -1 := if_pos e0
    rw [if_pos e0, z]
    exact ⟨g, rfl, F3.rf⟩
  rw [if_neg e0, if_pos s, r1, if_pos b1, b2, show (3 : Int32) = nI 3 from rfl, if_pos (ib_n (by decide) (by decide)), ix_n (by decide), hI_u]
  by_cases e1 : g 756 3 = 0
  · have z : pcW (g 756) c y = (if g 756 (66 + 35 * c) = 1 then -1 else if g 756 (67 + 35 * c) = 1 then -1 else ageW (g 756) y) := (if_neg e0).trans (if_pos e1)
    rw [if_pos e1, z, O1, bI_s]
    refine ⟨g, ?_, F3.rf⟩
    by_cases e2 : g 756 (66 + 35 * c) = 1
    · rw [if_pos e2, if_pos e2]; rfl
    · rw [if_neg e2, if_neg e2, if_pos s, O2, bI_s]
      by_cases e3 : g 756 (67 + 35 * c) = 1
      · rw [if_pos e3, if_pos e3]; rfl
      · rw [if_neg e3, if_neg e3, if_pos s, N_now t, bI_s, mx_u]
        rfl
  · have z : pcW (g 756) c y = plW (g 756) c y (lwN (g 756)) 0 0 := (if_neg e0).trans (if_neg e1)
    have l12 := (L e1).2.1
    rw [if_neg e1, z, FU_mm (k := lwN (g 756)) (by omega)]
    exact N_pl_L t hc hy hk (L e1) _ 0 0 g rfl (by omega) _
theorem N_next_L (t : TSr h) (hc : c < 8) (hk : w (67 + 35 * c) = 0 ∨ w (67 + 35 * c) = 1) (L : ¬ w 3 = 0 → WFL w) : ∀ (j y : Nat) (g : Nat → Nat → Int32), g 756 = w → y + j = 30 → ∀ q,
    ∃ g', f_Model_nextOf_L7 (q + j + 1) (uI h g) 755 (nI c) (nxF (pcW w c) y).1 (nxF (pcW w c) y).2 (nI y) = some (nextW w c, uI h g') ∧ F3 g g' := by
  intro j
  induction j with
  | zero =>
    intro y g hg hy q
    have hy' : y = 30 := hy
    subst hy'
    have E : f_Model_nextOf_L7 (q + 0 + 1) (uI h g) 755 (nI c) (nxF (pcW w c) 30).1 (nxF (pcW w c) 30).2 (nI 30) = f_Model_nextOf_b7 (f_Model_nextOf_L7 q) (uI h g) 755 (nI c) (nxF (pcW w c) 30).1 (nxF (pcW w c) 30).2 (nI 30) := rfl
    rw [E]
    unfold f_Model_nextOf_b7
    rw [n30, if_pos (Int32.le_refl _)]
    exact ⟨g, rfl, F3.rf⟩
  | succ j ih =>
    intro y g hg hy q
    have s : hS (uI h g) 755 = 11 := (t.iu (g := g)).1
    have E : f_Model_nextOf_L7 (q + (j + 1) + 1) (uI h g) 755 (nI c) (nxF (pcW w c) y).1 (nxF (pcW w c) y).2 (nI y) = f_Model_nextOf_b7 (f_Model_nextOf_L7 (q + j + 1)) (uI h g) 755 (nI c) (nxF (pcW w c) y).1 (nxF (pcW w c) y).2 (nI y) := rfl
    obtain ⟨g1, p1, p2⟩ := N_place t hc (y := y) (by omega) (g := g) (by rw [hg]; exact hk) (by rw [hg]; exact L)
    rw [hg] at p1
    have hg1 : g1 756 = w := (p2 756 (by decide)).trans hg
    obtain ⟨g', q1, q2⟩ := ih (y + 1) g1 hg1 (by omega) q
    rw [E]
    unfold f_Model_nextOf_b7
    rw [n30, if_neg (nI_ge (by omega) (by decide)), if_pos s, p1, bI_s]
    unfold f_Model_nextOf_b38
    rw [nI_1]
    refine ⟨g', ?_, p2.tr q2⟩
    by_cases e : (nxF (pcW w c) y).2 < pcW w c y
    · have z : nxF (pcW w c) (y + 1) = (nI y, pcW w c y) := if_pos e
      rw [z] at q1
      rw [if_pos e]
      exact q1
    · have z : nxF (pcW w c) (y + 1) = nxF (pcW w c) y := if_neg e
      rw [z] at q1
      rw [if_neg e]
      exact q1
theorem N_next (t : TSr h) (hc : c < 8) (hk : g 756 (67 + 35 * c) = 0 ∨ g 756 (67 + 35 * c) = 1) (L : ¬ g 756 3 = 0 → WFL (g 756)) :
    ∃ g', f_Model_nextOf (uI h g) 755 (nI c) = some (nextW (g 756) c, uI h g') ∧ F3 g g' := by
  unfold f_Model_nextOf f_Model_nextOf_b0
  rw [FU_30]
  exact N_next_L t hc hk L 30 0 g rfl rfl 999969
end U9
