/-! ===== order ===== -/
section U49
variable {h h1 h0 : Hp} {g g' g1 g2 g0 : Nat → Nat → Int32} {w w' w0 u u' : Nat → Int32} {A B L S c d k n l y j m q i x r z E N M M' o R V : Nat} {v a b p1 p2 p3 p4 p5 : Int32} {f p : Nat → Nat} {tu : Nat → Nat}
/-- the same but for thirst -/
def TQ (u u' : Nat → Int32) : Prop := ∀ j, (∀ k, k < 8 → j ≠ 348 + 34 * k) → u j = u' j
theorem TQ.nx (x : TQ u u') (hc : c < 8) (Lw : u' 3 = 0 ∨ WFL u') : nextW u c = nextW u' c := by
  unfold nextW
  rw [nx_congr (P := pcW u c) (Q := pcW u' c) fun y hy => by
    have e := x (70 + 35 * c + y) (by omega)
    exact pc_congr (x 3 (by omega)) (x 4 (by omega)) (x _ (by omega)) (x _ (by omega)) (x _ (by omega)) (fun k hk => x k (by omega)) Lw (by rw [e]) (Or.inl e)]
theorem TQ.dn (x : TQ u u') (hc : c < 8) (hk : k < 8) (hy : y < 30) : TQ (drkN u k c y 1) (drkN u' k c y 1) := fun j hj => by
  have e1 : ly u c y = ly u' c y := congrArg ix (x _ (by omega))
  have e2 : u (349 + 34 * k + y) = u' (349 + 34 * k + y) := x _ (by omega)
  unfold drkN tkW up1
  rw [e1, e2, x j hj]
theorem TQ.dk (hc : c < 8) (hk : k < 8) : ∀ (j : Nat) (u u' : Nat → Int32), TQ u u' → (u' 3 = 0 ∨ WFL u') → (dkW k c j u).1 = (dkW k c j u').1 ∧ TQ (dkW k c j u).2 (dkW k c j u').2 := by
  intro j
  induction j with
  | zero => intro u u' x _; exact ⟨rfl, x⟩
  | succ j ih =>
    intro u u' x Lw
    have D : ∀ u, dkW k c (j + 1) u = if nextW u c < 0 then (j + 1, u) else if u (35 + ix (nextW u c)) ≤ u (347 + 34 * k) then dkW k c j (drkN u k c (ix (nextW u c)) 1) else (j + 1, u) := fun _ => rfl
    rw [D u, D u', x.nx hc Lw]
    by_cases c1 : nextW u' c < 0
    · rw [if_pos c1, if_pos c1]; exact ⟨rfl, x⟩
    · obtain ⟨y, hy, ey, -⟩ := next_y Lw c1
      rw [if_neg c1, if_neg c1, ey, ix_n (by omega), x (35 + y) (by omega), x (347 + 34 * k) (by omega)]
      by_cases c2 : u' (35 + y) ≤ u' (347 + 34 * k)
      · rw [if_pos c2, if_pos c2]
        exact ih _ _ (x.dn hc hk hy) (Lw.imp (fun z => (dn_o (by omega) (by omega)).trans z) fun z => z.congr (dn_hi hk hc hy))
      · rw [if_neg c2, if_neg c2]; exact ⟨rfl, x⟩
/-- the houses drink in an order: the class's way, and the reference's, which adds no thirst -/
def orC (r : Nat → Nat) (w : Nat → Int32) : Nat → Nat × (Nat → Int32)
  | 0 => (0, w)
  | i + 1 => ((orC r w i).1 + (drW (orC r w i).2 (r i)).1, dmW (orC r w i).2 (r i))
def orW (r : Nat → Nat) (w : Nat → Int32) : Nat → Nat × (Nat → Int32)
  | 0 => (0, w)
  | i + 1 => ((orW r w i).1 + (drW (orW r w i).2 (r i)).1, (drW (orW r w i).2 (r i)).2)
theorem orC_wf (W : WF M w) (hr : ∀ i, i < nh w → tu i < nh w) : ∀ i, i ≤ nh w → WF M (orC tu w i).2 ∧ CO w (orC tu w i).2 ∧ (orC tu w i).1 ≤ 99 * i := by
  intro i
  induction i with
  | zero => intro _; exact ⟨W, CO.rf, Nat.le_refl _⟩
  | succ i ih =>
    intro hi
    obtain ⟨a1, a2, a3⟩ := ih (by omega)
    have hk : tu i < nh (orC tu w i).2 := by rw [a2.nh]; exact hr i (by omega)
    obtain ⟨b1, b2, b3⟩ := dm_co a1 hk
    refine ⟨a1.dm hk, a2.tr b1, ?_⟩
    show (orC tu w i).1 + (drW (orC tu w i).2 (tu i)).1 ≤ 99 * (i + 1)
    omega
theorem dr_co (W : WF M w) (hk : k < nh w) : CO w (drW w k).2 ∧ WF M (drW w k).2 := by
  have H := W.2.2.2.2.2.2.1 k hk
  have h8 := W.2.1.2.1
  have h8c := W.2.1.1
  obtain ⟨d1, d2, d3⟩ := dk_wf (k := k) (n := nc w) (by omega) (by have := H.2.1.2; omega) (neH w k) w (W.2.2.2.2.2.1 _ H.2.1.2) W.lw
  have C : CO w (drW w k).2 := fun i h1 h2 h3 => d1 i h2 (by omega)
  exact ⟨C, W.co C fun c hc => d2 c (by omega) (W.2.2.2.2.2.1 c hc)⟩
theorem orW_wf (W : WF M w) (hr : ∀ i, i < nh w → tu i < nh w) : ∀ i, i ≤ nh w → WF M (orW tu w i).2 ∧ CO w (orW tu w i).2 ∧ (orW tu w i).1 = (orC tu w i).1 ∧ TQ (orW tu w i).2 (orC tu w i).2 := by
  have h8 := W.2.1.2.1
  have h8c := W.2.1.1
  intro i
  induction i with
  | zero => intro _; exact ⟨W, CO.rf, rfl, fun _ _ => rfl⟩
  | succ i ih =>
    intro hi
    obtain ⟨a1, a2, a3, a4⟩ := ih (by omega)
    obtain ⟨c1, c2, -⟩ := orC_wf W hr i (by omega)
    have hi' := hr i (by omega)
    have hk : tu i < nh (orW tu w i).2 := by rw [a2.nh]; exact hi'
    have hk2 : tu i < nh (orC tu w i).2 := by rw [c2.nh]; exact hi'
    obtain ⟨b1, b2⟩ := dr_co a1 hk
    have e1 : atH (orW tu w i).2 (tu i) = atH (orC tu w i).2 (tu i) := congrArg ix (a4 _ (by omega))
    have e2 : neH (orW tu w i).2 (tu i) = neH (orC tu w i).2 (tu i) := congrArg ix (a4 _ (by omega))
    have H := c1.2.2.2.2.2.2.1 (tu i) hk2
    have hc : atH (orC tu w i).2 (tu i) < 8 := by have := H.2.1.2; rw [c2.nc] at this; omega
    have D := TQ.dk (c := atH (orC tu w i).2 (tu i)) (k := tu i) hc (by omega) (neH (orC tu w i).2 (tu i)) _ _ a4 c1.lw
    refine ⟨b2, a2.tr b1, ?_, ?_⟩
    · show (orW tu w i).1 + (dkW (tu i) (atH (orW tu w i).2 (tu i)) (neH (orW tu w i).2 (tu i)) (orW tu w i).2).1 = (orC tu w i).1 + (drW (orC tu w i).2 (tu i)).1
      rw [e1, e2, D.1, a3]
      rfl
    · show TQ (dkW (tu i) (atH (orW tu w i).2 (tu i)) (neH (orW tu w i).2 (tu i)) (orW tu w i).2).2 (dmW (orC tu w i).2 (tu i))
      rw [e1, e2]
      intro j hj
      unfold dmW thW
      rw [up1_ne (hj _ (by omega))]
      exact D.2 j hj
/-- a row of eight turns -/
def RW (g : Nat → Nat → Int32) (p : Nat → Nat) : Prop := ∀ i, i < 8 → g 753 i = nI (p i) ∧ p i < 8
theorem C_drB_L (t : LDs h A) (hA : 6 ≤ A) (hA2 : A + 45 < 753) (s3 : hS h 753 = 20) (l3 : hL h 753 = 8) (W : WF M w) (hr : ∀ i, i < nh w → tu i < nh w) : ∀ (j i : Nat) (g : Nat → Nat → Int32), i + j = nh w → RLa g A (orC tu w i).2 → LR h g A (orC tu w i).2 → RW g tu → ∀ q,
    ∃ g', f_Land_drinkBy_L4 (q + j + 1) (uI h g) A 753 (nI (orC tu w i).1) (nI i) = some (nI (orC tu w (nh w)).1, uI h g') ∧ FH h A g g' := by
  have s4 : ∀ g, hS (uI h g) A = 4 := fun g => t.1
  have s3' : ∀ g, hS (uI h g) 753 = 20 := fun g => s3
  have l3' : ∀ g, hL (uI h g) 753 = 8 := fun g => l3
  have h8 := W.2.1.2.1
  intro j
  induction j with
  | zero =>
    intro i g hi R Lr rw' q
    have hi' : i = nh w := hi
    subst hi'
    obtain ⟨W1, W2, -⟩ := orC_wf W hr (nh w) (Nat.le_refl _)
    refine ⟨g, ?_, FH.rf⟩
    show f_Land_drinkBy_b4 (f_Land_drinkBy_L4 q) (uI h g) A 753 _ _ = _
    unfold f_Land_drinkBy_b4
    rw [if_pos (s4 _), hI_u, R.1.2.1, W1.1.2.1, W2.nh, if_pos (Int32.le_refl _)]
  | succ j ih =>
    intro i g hi R Lr rw' q
    obtain ⟨W1, W2, -⟩ := orC_wf W hr i (by omega)
    have ht := hr i (by omega)
    have hk : tu i < nh (orC tu w i).2 := by rw [W2.nh]; exact ht
    have H := W1.2.2.2.2.2.2.1 _ hk
    have C2 := (dm_co W1 hk).1
    obtain ⟨x1, x2, x3, x4, -⟩ := t.hr (k := tu i) (by omega)
    have x1' : ∀ g, hR (uI h g) A 4 = A + 2 := fun g => x1
    have x2' : ∀ g, hS (uI h g) (A + 2) = 24 := fun g => x2
    have x3' : ∀ g, hL (uI h g) (A + 2) = 8 := fun g => x3
    have x4' : ∀ g, hR (uI h g) (A + 2) (tu i) = A + 22 + 2 * tu i := fun g => x4
    have e1 : g A 1 = nI (nh w) := by rw [R.1.2.1, W1.1.2.1, W2.nh]
    have E : f_Land_drinkBy_L4 (q + (j + 1) + 1) (uI h g) A 753 (nI (orC tu w i).1) (nI i) = f_Land_drinkBy_b4 (f_Land_drinkBy_L4 (q + j + 1)) (uI h g) A 753 (nI (orC tu w i).1) (nI i) := rfl
    obtain ⟨g1, q1, q2, q3, q4⟩ := C_lack t hA (by omega) R Lr W1.2.1 hk W1.1.1 H (W1.2.2.2.2.2.1 _ H.2.1.2)
    have F1 : FH h A g g1 := q4.1
    obtain ⟨g', z1, z2⟩ := ih (i + 1) g1 (by omega) q2 (LR.congr (Lr.fh (by omega) F1) (C2 3 (by decide) (by decide) (by omega)) C2.hi) (fun k hk => by rw [F1 753 (by omega) (fun q => by omega)]; exact rw' k hk) q
    rw [E]
    unfold f_Land_drinkBy_b4 f_Land_drinkBy_b43
    rw [if_pos (s4 _), hI_u, e1, if_neg (nI_ge (by omega) (by omega)), if_pos (s3' _), l3', show Int32.ofNat 8 = nI 8 from rfl, if_neg (nI_ge (by omega) (by omega)), if_pos (ib_n (by omega) (by decide)), ix_n (by omega), (rw' i (by omega)).1, C_hasH t e1 h8 ht, bI_s, if_neg (by decide), if_pos (s4 _), if_pos (s3' _), l3', if_pos (ib_n (by omega) (by decide)), x1', if_pos (x2' _), hI_u, (rw' i (by omega)).1, x3', if_pos (ib_n (by omega) (by decide)), ix_n (by omega), x4', q1, bI_s, nI_add, nI_1]
    exact ⟨g', z1, F1.tr z2⟩
theorem C_exch (s3 : hS h 753 = 20) (l3 : hL h 753 = 8) (hi : i < 8) (hj : j < 8) (R : RW g p) : ∃ g', f_Water_exchange (uI h g) 753 (nI i) (nI j) = some (uI h g') ∧ RW g' (exF p i j) ∧ ∀ r, r ≠ 753 → g' r = g r := by
  have s3' : ∀ g, hS (uI h g) 753 = 20 := fun g => s3
  have l3' : ∀ g, hL (uI h g) 753 = 8 := fun g => l3
  refine ⟨up2 (up2 g 753 i (nI (p j))) 753 j (nI (p i)), ?_, fun k hk => ?_, fun r hr => (up_row hr).trans (up_row hr)⟩
  · unfold f_Water_exchange f_Water_exchange_b0
    rw [if_neg (nI_pos (by omega)), if_pos (s3' _), l3', show Int32.ofNat 8 = nI 8 from rfl, if_neg (nI_ge hi (by decide)), if_neg (nI_pos (by omega)), if_neg (nI_ge hj (by decide)), if_pos (ib_n hi (by decide)), if_pos (ib_n hj (by decide)), if_pos (ib_n hi (by decide)), wr_s, sI_u, l3', if_pos (ib_n hj (by decide)), wr_s, sI_u, ix_n (by omega), ix_n (by omega), hI_u, (R i hi).1, (R j hj).1]
  · unfold exF
    by_cases c1 : k = j
    · rw [c1, up_eq, if_pos rfl]; exact ⟨rfl, (R i hi).2⟩
    · rw [up_k c1, if_neg c1]
      by_cases c2 : k = i
      · rw [c2, up_eq, if_pos rfl]; exact ⟨rfl, (R j hj).2⟩
      · rw [up_k c2, if_neg c2]; exact R k hk
theorem C_rev_L (s3 : hS h 753 = 20) (l3 : hL h 753 = 8) : ∀ (f i j : Nat) (g : Nat → Nat → Int32) (p : Nat → Nat), j ≤ i + f → j < 8 → i ≤ 8 → RW g p → ∀ q, ∃ g', f_Water_isTurnedOn_L81 (q + f + 1) (uI h g) 753 (nI i) (nI j) = some (1, uI h g') ∧ RW g' (rvF f p i j) ∧ ∀ r, r ≠ 753 → g' r = g r := by
  intro f
  induction f with
  | zero =>
    intro i j g p h1 h2 h3 R q
    refine ⟨g, ?_, R, fun _ _ => rfl⟩
    show f_Water_isTurnedOn_b81 (f_Water_isTurnedOn_L81 q) (uI h g) 753 (nI i) (nI j) = _
    unfold f_Water_isTurnedOn_b81
    rw [if_pos (nI_le (by omega) (by omega))]
  | succ f ih =>
    intro i j g p h1 h2 h3 R q
    have E : f_Water_isTurnedOn_L81 (q + (f + 1) + 1) (uI h g) 753 (nI i) (nI j) = f_Water_isTurnedOn_b81 (f_Water_isTurnedOn_L81 (q + f + 1)) (uI h g) 753 (nI i) (nI j) := rfl
    have D : rvF (f + 1) p i j = if j ≤ i then p else rvF f (exF p i j) (i + 1) (j - 1) := rfl
    rw [E, D]
    unfold f_Water_isTurnedOn_b81
    by_cases c : j ≤ i
    · rw [if_pos (nI_le c (by omega)), if_pos c]; exact ⟨g, rfl, R, fun _ _ => rfl⟩
    · obtain ⟨g1, q1, q2, q3⟩ := C_exch s3 l3 (show i < 8 by omega) h2 R
      obtain ⟨j', rfl⟩ : ∃ j', j = j' + 1 := ⟨j - 1, by omega⟩
      obtain ⟨g', z1, z2, z3⟩ := ih (i + 1) j' g1 (exF p i (j' + 1)) (by omega) (by omega) (by omega) q2 q
      rw [if_neg (nI_ge (by omega) (by omega)), if_neg c, q1, bV_s, nI_1, pk_m1]
      exact ⟨g', z1, z2, fun r hr => (z3 r hr).trans (q3 r hr)⟩
theorem abv_le : ∀ x, abF p r x ≤ x := by
  intro x
  induction x with
  | zero => exact Nat.le_refl _
  | succ x ih =>
    unfold abF
    by_cases c1 : x + 1 ≤ r + 1
    · rw [if_pos c1]; exact Nat.le_refl _
    · rw [if_neg c1]
      by_cases c2 : p r ≤ p (x + 1)
      · rw [if_pos c2]; exact Nat.le_refl _
      · rw [if_neg c2]; omega
theorem rs_le : ∀ x, rsF p x ≤ x := by
  intro x
  induction x with
  | zero => exact Nat.le_refl _
  | succ x ih =>
    unfold rsF
    by_cases c1 : p x ≤ p (x + 1)
    · rw [if_pos c1]; exact Nat.le_refl _
    · rw [if_neg c1]; omega
theorem C_abv_L (s3 : hS h 753 = 20) (l3 : hL h 753 = 8) (R : RW g p) (hr : r < 8) : ∀ x, x < 8 → ∀ q, f_Water_isTurnedOn_L43 (q + x + 1) (uI h g) 753 (nI n) (nI r) (nI x) = f_Water_isTurnedOn_b65 (uI h g) 753 (nI n) (nI r) (nI (abF p r x)) := by
  intro x
  induction x with
  | zero =>
    intro _ q
    show f_Water_isTurnedOn_b43 (f_Water_isTurnedOn_L43 q) (uI h g) 753 (nI n) (nI r) (nI 0) = _
    unfold f_Water_isTurnedOn_b43
    rw [nI_1, if_pos (nI_le (by omega) (by omega))]
    rfl
  | succ x ih =>
    intro hx q
    have E : f_Water_isTurnedOn_L43 (q + (x + 1) + 1) (uI h g) 753 (nI n) (nI r) (nI (x + 1)) = f_Water_isTurnedOn_b43 (f_Water_isTurnedOn_L43 (q + x + 1)) (uI h g) 753 (nI n) (nI r) (nI (x + 1)) := rfl
    have D : abF p r (x + 1) = if x + 1 ≤ r + 1 then x + 1 else if p r ≤ p (x + 1) then x + 1 else abF p r x := rfl
    have b1 := (R r hr).2
    have b2 := (R (x + 1) hx).2
    rw [E, D]
    unfold f_Water_isTurnedOn_b43
    rw [nI_1]
    by_cases c1 : x + 1 ≤ r + 1
    · rw [if_pos (nI_le c1 (by omega)), if_pos c1]
    · rw [if_neg (nI_ge (by omega) (by omega)), if_neg c1, if_pos (show hS (uI h g) 753 = 20 from s3), show hL (uI h g) 753 = 8 from l3, if_pos (ib_n hx (by decide)), if_pos (ib_n hr (by decide)), ix_n (by omega), ix_n (by omega), hI_u, (R r hr).1, (R (x + 1) hx).1]
      by_cases c2 : p r ≤ p (x + 1)
      · rw [if_pos (nI_le c2 (by omega)), if_pos c2]
      · rw [if_neg (nI_ge (by omega) (by omega)), if_neg c2, pk_m1]
        exact ih (by omega) q
theorem C_rise_L (s3 : hS h 753 = 20) (l3 : hL h 753 = 8) (R : RW g p) : ∀ x, x < 8 → ∀ q, f_Water_isTurnedOn_L12 (q + x + 1) (uI h g) 753 (nI n) (zI x) = f_Water_isTurnedOn_b33 (uI h g) 753 (nI n) (zI (rsF p x)) := by
  intro x
  induction x with
  | zero =>
    intro _ q
    show f_Water_isTurnedOn_b12 (f_Water_isTurnedOn_L12 q) (uI h g) 753 (nI n) (zI 0) = f_Water_isTurnedOn_b33 (uI h g) 753 (nI n) (zI 0)
    unfold f_Water_isTurnedOn_b12
    rw [zI_0, if_pos (by decide)]
  | succ x ih =>
    intro hx q
    have E : f_Water_isTurnedOn_L12 (q + (x + 1) + 1) (uI h g) 753 (nI n) (zI (x + 1)) = f_Water_isTurnedOn_b12 (f_Water_isTurnedOn_L12 (q + x + 1)) (uI h g) 753 (nI n) (zI (x + 1)) := rfl
    have D : rsF p (x + 1) = if p x ≤ p (x + 1) then x + 1 else rsF p x := rfl
    have b1 := (R x (by omega)).2
    have b2 := (R (x + 1) hx).2
    rw [E, D]
    unfold f_Water_isTurnedOn_b12
    rw [zI_s, if_neg (nI_pos (by omega)), if_pos (show hS (uI h g) 753 = 20 from s3), show hL (uI h g) 753 = 8 from l3, nI_1, if_pos (ib_n (by omega) (by decide)), if_pos (ib_n hx (by decide)), ix_n (by omega), ix_n (by omega), hI_u, (R x (by omega)).1, (R (x + 1) hx).1]
    by_cases c2 : p x ≤ p (x + 1)
    · rw [if_pos (nI_le c2 (by omega)), if_pos c2, zI_s]
    · rw [if_neg (nI_ge (by omega) (by omega)), if_neg c2]
      exact ih (by omega) q
theorem sub_2 : ∀ n, n < 6 → n ≠ 0 → nI n - (2 : Int32) = zI (n - 1) ∧ nI n - (1 : Int32) = nI (n - 1) := by decide
theorem C_turn (s3 : hS h 753 = 20) (l3 : hL h 753 = 8) (hn : n ≤ 5) (R : RW g p) : (npF n p = none → f_Water_isTurnedOn (uI h g) 753 (nI n) = some (0, uI h g)) ∧ (∀ p', npF n p = some p' → ∃ g', f_Water_isTurnedOn (uI h g) 753 (nI n) = some (1, uI h g') ∧ RW g' p' ∧ ∀ r, r ≠ 753 → g' r = g r) := by
  unfold npF
  unfold f_Water_isTurnedOn f_Water_isTurnedOn_b0
  rw [if_pos (show hS (uI h g) 753 = 20 from s3), show hL (uI h g) 753 = 8 from l3, show Int32.ofNat 8 = nI 8 from rfl, if_pos (nI_le (by omega) (by decide))]
  by_cases n0 : n = 0
  · subst n0
    rw [if_pos (show rsF p (0 - 1) = 0 from rfl)]
    refine ⟨fun _ => ?_, fun p' z => absurd z (by simp)⟩
    show f_Water_isTurnedOn_b12 (f_Water_isTurnedOn_L12 999999) (uI h g) 753 (nI 0) (nI 0 - 2) = _
    unfold f_Water_isTurnedOn_b12 f_Water_isTurnedOn_b33
    rw [if_pos (by decide), if_neg (by decide)]
  · have L := C_rise_L (n := n) s3 l3 R (n - 1) (by omega) (999999 - (n - 1))
    rw [← FU_mm (by omega)] at L
    have le := rs_le (p := p) (n - 1)
    rw [(sub_2 n (by omega) n0).1, L]
    unfold f_Water_isTurnedOn_b33
    by_cases c : rsF p (n - 1) = 0
    · rw [if_pos c, c, zI_0, if_neg (by decide)]
      exact ⟨fun _ => rfl, fun p' z => absurd z (by simp)⟩
    · obtain ⟨r, hr⟩ : ∃ r, rsF p (n - 1) = r + 1 := ⟨rsF p (n - 1) - 1, by omega⟩
      have La := C_abv_L (n := n) s3 l3 R (r := r) (by omega) (n - 1) (by omega) (999999 - (n - 1))
      rw [← FU_mm (by omega)] at La
      have al := abv_le (p := p) (r := r) (n - 1)
      rw [if_neg c, hr, Nat.add_sub_cancel, zI_s, if_pos (nI_pos' (by omega)), (sub_2 n (by omega) n0).2, La]
      refine ⟨fun z => absurd z (by simp), fun p' z => ?_⟩
      obtain ⟨g1, q1, q2, q3⟩ := C_exch s3 l3 (show r < 8 by omega) (show abF p r (n - 1) < 8 by omega) R
      obtain ⟨g', z1, z2, z3⟩ := C_rev_L s3 l3 n (r + 1) (n - 1) g1 _ (by omega) (by omega) (by omega) q2 (999999 - n)
      rw [← FU_mm (by omega)] at z1
      unfold f_Water_isTurnedOn_b65
      rw [q1, bV_s, nI_1, (sub_2 n (by omega) n0).2, z1]
      refine ⟨g', rfl, ?_, fun r hr => (z3 r hr).trans (q3 r hr)⟩
      rw [← Option.some.inj z]
      exact z2
def fgF (p : Nat → Nat) : Nat → Nat
  | 0 => 0
  | i + 1 => 8 * fgF p i + p i
theorem C_fig (s3 : hS h 753 = 20) (l3 : hL h 753 = 8) (R : RW g p) (hn : n ≤ 8) : f_Water_figuresOf (uI h g) 753 (nI n) = some (nI (fgF p n), uI h g) := by
  have L : ∀ j i, i + j = n → ∀ q, f_Water_figuresOf_L4 (q + j + 1) (uI h g) 753 (nI n) (nI (fgF p i)) (nI i) = some (nI (fgF p n), uI h g) := by
    intro j
    induction j with
    | zero =>
      intro i hi q
      have hi' : i = n := hi
      subst hi'
      show f_Water_figuresOf_b4 (f_Water_figuresOf_L4 q) (uI h g) 753 _ _ _ = _
      unfold f_Water_figuresOf_b4
      rw [if_pos (Int32.le_refl _)]
    | succ j ih =>
      intro i hi q
      have E : f_Water_figuresOf_L4 (q + (j + 1) + 1) (uI h g) 753 (nI n) (nI (fgF p i)) (nI i) = f_Water_figuresOf_b4 (f_Water_figuresOf_L4 (q + j + 1)) (uI h g) 753 (nI n) (nI (fgF p i)) (nI i) := rfl
      rw [E]
      unfold f_Water_figuresOf_b4
      rw [if_neg (nI_ge (by omega) (by omega)), if_pos (show hS (uI h g) 753 = 20 from s3), show hL (uI h g) 753 = 8 from l3, show Int32.ofNat 8 = nI 8 from rfl, if_neg (nI_ge (by omega) (by decide)), if_pos (ib_n (by omega) (by decide)), ix_n (by omega), hI_u, (R i (by omega)).1, show (8 : Int32) * nI (fgF p i) = nI (8 * fgF p i) from nI_mul _ _, nI_add, nI_1]
      exact ih (i + 1) (by omega) q
  have := L n 0 (by omega) (999999 - n)
  rw [← FU_mm (by omega)] at this
  exact this
end U49
