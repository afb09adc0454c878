/-! ===== placeIn of the class: the reference's place ===== -/
section U11
variable {h : Hp} {g g' g1 : Nat → Nat → Int32} {w w' : Nat → Int32} {A L S c d k n l y j m q s i F r z E : Nat} {v x a b : Int32} {f p : Nat → Nat} {st st' r' : List Int32} {ts ts' tf : List Bool}
/-- but for the facts and the stack of the law at L nothing has changed -/
def FLw (L : Nat) (g g' : Nat → Nat → Int32) : Prop := ∀ r, r ≠ L + 4 → r ≠ L + 5 → g' r = g r
theorem FLw.rf : FLw L g g := fun _ _ _ => rfl
theorem FLw.tr (x : FLw L g g1) (y : FLw L g1 g') : FLw L g g' := fun r h4 h5 => (y r h4 h5).trans (x r h4 h5)
theorem FLw.up : FLw L g (up2 g (L + 4) k v) := fun r h4 _ => up_row h4
theorem C_holds (t : LWs h L S) (hk : w (67 + 35 * c) = 0 ∨ w (67 + 35 * c) = 1) (W : WFL w) (G : LWg g L S w) (hf : ∀ k, k < 9 → g (L + 4) k = fcK w c y k) (hn : n < lwN w) :
    ∃ g', f_Law_holds (uI h g) L (nI (lwS w n)) (nI (lwE w n)) = some (hdW w c y n, uI h g') ∧ FLw L g g' ∧ g' (L + 4) = g (L + 4) := by
  obtain ⟨W1, W2, W3⟩ := W
  obtain ⟨w1, w2, w3, w4, w5, w6⟩ := W3 n hn
  obtain ⟨-, -, G3, G4, -, G6⟩ := G
  have w6' : ∃ tf, tyR w (lwE w n - lwS w n) (lwS w n) [] = some tf ∧ (tf = [] ∨ tf = [true]) := by
    rcases w6 with z | z
    · exact ⟨_, z, Or.inl rfl⟩
    · exact ⟨_, z, Or.inr rfl⟩
  obtain ⟨tf, t1, t2⟩ := w6'
  obtain ⟨g', sf, p1, p2, p3⟩ := C_hold_L t G6 hk (G3 n hn).2.2 t2 (lwE w n - lwS w n) (lwS w n) g [] [] G4 hf (by omega) t1 (Nat.zero_le _) trivial trivial (999999 - (lwE w n - lwS w n))
  refine ⟨g', ?_, fun r _ h5 => p3 r h5, p3 _ (by omega)⟩
  unfold f_Law_holds f_Law_holds_b0
  rw [FU_mm (k := lwE w n - lwS w n) (by omega)]
  have z : hdW w c y n = rsW sf := by unfold hdW; rw [p1]
  rw [z]
  exact p2
theorem LWg.fl (G : LWg g L S w) (x : FLw L g g') : LWg g' L S w := by
  obtain ⟨G1, G2, G3, G4, G5, G6⟩ := G
  refine ⟨?_, ?_, fun n hn => ?_, fun i hi => ?_, ?_, G6⟩
  · rw [x L (by omega) (by omega)]; exact G1
  · rw [x L (by omega) (by omega)]; exact G2
  · rw [x (L + 1) (by omega) (by omega), x (L + 2) (by omega) (by omega)]; exact G3 n hn
  · rw [x (L + 3) (by omega) (by omega)]; exact G4 i hi
  · rw [x L (by omega) (by omega)]; exact G5
theorem C_pl_L (t : LWs h L S) (hk : w (67 + 35 * c) = 0 ∨ w (67 + 35 * c) = 1) (W : WFL w) : ∀ (j n : Nat) (s : Int32) (g : Nat → Nat → Int32), LWg g L S w → (∀ k, k < 9 → g (L + 4) k = fcK w c y k) → n + j = lwN w → ∀ q,
    ∃ g', f_Law_placeByFacts_L6 (q + j + 1) (uI h g) L s (nI (lwS w n)) (nI n) = some (plW w c y j n s, uI h g') ∧ FLw L g g' := by
  intro j
  induction j with
  | zero =>
    intro n s g G hf hn q
    obtain ⟨s6, -⟩ := t.iu (g := g)
    have E : f_Law_placeByFacts_L6 (q + 0 + 1) (uI h g) L s (nI (lwS w n)) (nI n) = f_Law_placeByFacts_b6 (f_Law_placeByFacts_L6 q) (uI h g) L s (nI (lwS w n)) (nI n) := rfl
    have hn' : n = lwN w := hn
    rw [E]
    unfold f_Law_placeByFacts_b6
    rw [if_pos s6, hI_u, G.1, W.1, ← hn', if_pos (Int32.le_refl _)]
    exact ⟨g, rfl, FLw.rf⟩
  | succ j ih =>
    intro n s g G hf hn q
    have E : f_Law_placeByFacts_L6 (q + (j + 1) + 1) (uI h g) L s (nI (lwS w n)) (nI n) = f_Law_placeByFacts_b6 (f_Law_placeByFacts_L6 (q + j + 1)) (uI h g) L s (nI (lwS w n)) (nI n) := rfl
    have l12 := W.2.1
    have hn' : n < lwN w := by omega
    obtain ⟨s6, ⟨r1, r2, -⟩, ⟨f1, f2⟩, ⟨e1, e2⟩, -⟩ := t.iu (g := g)
    obtain ⟨g3, g4, g5⟩ := G.2.2.1 n hn'
    obtain ⟨w1, w2, w3, w4, w5, w6⟩ := W.2.2 n hn'
    obtain ⟨g1, p1, p2, p3⟩ := C_holds t hk W G hf hn'
    have G1 := G.fl p2
    obtain ⟨s6', ⟨r1', r2', -⟩, ⟨f1', f2'⟩, ⟨e1', e2'⟩, -⟩ := t.iu (g := g1)
    obtain ⟨g3', g4', -⟩ := G1.2.2.1 n hn'
    rw [E]
    unfold f_Law_placeByFacts_b6
    rw [if_pos s6, hI_u, G.1, W.1, if_neg (nI_ge (by omega) (by omega)), r2, if_pos e1, e2, show Int32.ofNat 12 = nI 12 from rfl, if_neg (nI_ge (by omega) (by omega)), r1, if_pos f1, f2, show Int32.ofNat 12 = nI 12 from rfl, if_neg (nI_ge (by omega) (by omega)), if_pos (ib_n (by omega) (by decide)), ix_n (by omega), g4, w2, p1, bI_s]
    have st : ∀ s2, ∃ g', f_Law_placeByFacts_b67 (f_Law_placeByFacts_L6 (q + j + 1)) (uI h g1) L s2 (nI n) = some (plW w c y j (n + 1) s2, uI h g') ∧ FLw L g g' := fun s2 => by
      unfold f_Law_placeByFacts_b67
      rw [if_pos s6', r2', if_pos e1', e2', if_pos (ib_n (by omega) (by decide)), ix_n (by omega), hI_u, g4', w2, nI_1]
      obtain ⟨g', q1, q2⟩ := ih (n + 1) s2 g1 G1 (fun k hk => by rw [p3]; exact hf k hk) (by omega) q
      exact ⟨g', q1, p2.tr q2⟩
    by_cases e0 : hdW w c y n = 0
    · rw [if_pos e0]
      have z : plW w c y (j + 1) n s = plW w c y j (n + 1) s := if_pos e0
      rw [z]
      exact st s
    · rw [if_neg e0, if_pos s6', r1', if_pos f1', f2', if_pos (ib_n (by omega) (by decide)), hI_u, g3']
      rcases w5 with em | ⟨u, eu, hu⟩
      · rw [if_pos em]
        have z : plW w c y (j + 1) n s = -1 := (if_neg e0).trans (if_neg (by rw [em]; decide))
        rw [z]
        exact ⟨g1, rfl, p2⟩
      · have ne : ¬ w (618 + 3 * n) = -1 := by
          rw [eu]
          intro z
          have := nI_pos (n := u) (by omega)
          rw [z] at this
          exact this (by decide)
        rw [if_neg ne, if_pos (ib_n (by omega) (by decide))]
        have z : plW w c y (j + 1) n s = plW w c y j (n + 1) (s + w (618 + 3 * n)) := (if_neg e0).trans (if_pos (by rw [eu]; exact nI_pos' (by omega)))
        rw [z]
        exact st _
theorem C_pl (t : LWs h L S) (hk : w (67 + 35 * c) = 0 ∨ w (67 + 35 * c) = 1) (W : WFL w) (G : LWg g L S w) (hf : ∀ k, k < 9 → g (L + 4) k = fcK w c y k) :
    ∃ g', f_Law_placeByFacts (uI h g) L = some (plW w c y (lwN w) 0 0, uI h g') ∧ FLw L g g' := by
  have := W.2.1
  unfold f_Law_placeByFacts f_Law_placeByFacts_b0
  rw [FU_mm (k := lwN w) (by omega)]
  exact C_pl_L t hk W _ 0 0 g G hf (by omega) _
theorem C_fact (t : LWs h L S) (hk : k < 9) : f_Law_setFact (uI h g) L (nI (1000 + k)) v = some (uI h (up2 g (L + 4) k v)) := by
  obtain ⟨s6, ⟨-, -, -, r4, -⟩, -, -, -, ⟨a1, a2⟩, -⟩ := t.iu (g := g)
  unfold f_Law_setFact f_Law_setFact_b0
  rw [show (1000 : Int32) = nI 1000 from rfl, pk_sub (by omega), show 1000 + k - 1000 = k from by omega, if_neg (nI_pos (by omega)), if_pos s6, r4, if_pos a1, a2, show Int32.ofNat 9 = nI 9 from rfl, if_neg (nI_ge hk (by decide)), if_pos (ib_n hk (by decide)), ix_n (by omega), wr_s]
  rfl
/-- the law of a Land and of a world -/
def LR (h : Hp) (g : Nat → Nat → Int32) (A : Nat) (w : Nat → Int32) : Prop := (w 3 = 0 ∧ hR h A 8 = 0) ∨ (w 3 = 1 ∧ 765 < hR h A 8 ∧ WFL w ∧ ∃ S, LWs h (hR h A 8) S ∧ LWg g (hR h A 8) S w)
/-- but for what the law at A works on nothing has changed -/
def FS (h : Hp) (A : Nat) (g g' : Nat → Nat → Int32) : Prop := ∀ r, (765 < hR h A 8 → r ≠ hR h A 8 + 4 ∧ r ≠ hR h A 8 + 5) → g' r = g r
theorem FS.rf : FS h A g g := fun _ _ => rfl
theorem FS.tr (x : FS h A g g1) (y : FS h A g1 g') : FS h A g g' := fun r hr => (y r hr).trans (x r hr)
theorem FS.lo (x : FS h A g g') (hr : r ≤ 765) : g' r = g r := x r fun z => by omega
theorem LR.fs (R : LR h g A w) (x : FS h A g g') : LR h g' A w := by
  rcases R with z | ⟨z1, z2, z3, S, z4, z5⟩
  · exact Or.inl z
  · exact Or.inr ⟨z1, z2, z3, S, z4, z5.fl fun r h4 h5 => x r fun _ => ⟨h4, h5⟩⟩
theorem RLa.lo (R : RLa g A w) (hA : A + 45 ≤ 765) (hk8 : nh w ≤ 8) (h8 : nc w ≤ 8) (hd8 : nd w ≤ 8) (x : ∀ r, A ≤ r → r ≤ A + 45 → g' r = g r) : RLa g' A w := by
  obtain ⟨R1, R2, R3, R4, R5⟩ := R
  refine ⟨?_, fun c hc => ?_, fun k hk => ?_, fun d hd => ?_, ?_⟩
  · unfold RLs; rw [x A (by omega) (by omega)]; exact R1
  · unfold RLc; rw [x (A + 6 + 2 * c) (by omega) (by omega), x (A + 6 + 2 * c + 1) (by omega) (by omega)]; exact R2 c hc
  · unfold RLh; rw [x (A + 22 + 2 * k) (by omega) (by omega), x (A + 22 + 2 * k + 1) (by omega) (by omega)]; exact R3 k hk
  · unfold RLd; rw [x (A + 38 + d) (by omega) (by omega)]; exact R4 d hd
  · unfold RLy; rw [x (A + 4) (by omega) (by omega)]; exact R5
theorem C_year (t : LDs h A) (e : g A 10 = w 4) : f_Land_yearNow (uI h g) A = some (nowW w, uI h g) := by
  have s : hS (uI h g) A = 4 := t.1
  unfold f_Land_yearNow f_Land_yearNow_b0
  rw [if_pos s, hI_u, e, mn_u]
  rfl
theorem ite_b {α : Type} {P : Prop} [inst : Decidable P] (F : Int32 → α) (u v : Int32) : (if P then F u else F v) = F (if P then u else v) := by
  by_cases e : P
  · rw [if_pos e, if_pos e]
  · rw [if_neg e, if_neg e]
theorem C_place (t : LDs h A) (hA : 6 ≤ A) (hA2 : A + 45 ≤ 765) (R : RLa g A w) (Lr : LR h g A w) (hc : c < nc w) (h8 : nc w ≤ 8) (W : WFC w (nc w) c) (hy : y < 30) :
    ∃ g', f_Land_placeIn (uI h g) A (A + 6 + 2 * c) (nI y) = some (pcW w c y, uI h g') ∧ FS h A g g' := by
  obtain ⟨r1, r2, r3⟩ := R.2.1 c hc
  obtain ⟨O, -, -, ⟨sl, s1, s2⟩, -⟩ := W
  obtain ⟨o1, o2⟩ := O y hy
  have s4 : ∀ g, hS (uI h g) A = 4 := fun g => t.1
  have cs := t.cs (c := c) (by omega)
  have sC : ∀ g, hS (uI h g) (A + 6 + 2 * c) = 1 := fun g => cs.1
  have rC : ∀ g, hR (uI h g) (A + 6 + 2 * c) 6 = A + 6 + 2 * c + 1 := fun g => cs.2.1
  have aC : ∀ g, hS (uI h g) (A + 6 + 2 * c + 1) = 20 := fun g => cs.2.2.1
  have lC : ∀ g, hL (uI h g) (A + 6 + 2 * c + 1) = 30 := fun g => cs.2.2.2
  have k1 := r1 1 (by decide)
  rw [show 65 + 35 * c + 1 = 66 + 35 * c from by omega] at k1
  have k2 := r1 2 (by decide)
  rw [show 65 + 35 * c + 2 = 67 + 35 * c from by omega] at k2
  have hk : w (67 + 35 * c) = 0 ∨ w (67 + 35 * c) = 1 := by
    rw [s1]
    have : sl = 0 ∨ sl = 1 := by omega
    rcases this with rfl | rfl
    · exact Or.inl rfl
    · exact Or.inr rfl
  unfold f_Land_placeIn f_Land_placeIn_b0
  rw [if_neg (nI_pos (by omega)), n30, if_neg (nI_ge hy (by decide)), if_pos (sC _), rC, if_pos (aC _), lC, if_pos (ib_n hy (by decide)), ix_n (by omega), hI_u, r2 y hy, o1]
  by_cases e0 : 0 < ly w c y
  · have p0 : (0 : Int32) < nI (ly w c y) := nI_lt (a := 0) e0 (by omega)
    have q0 : ¬ w (70 + 35 * c + y) = 0 := by rw [o1]; exact nI_ne0 e0 (by omega)
    rw [if_pos p0, if_pos (s4 _), C_year t R.1.2.2.2.2.1, bI_s, mx_u, bI_s, if_pos (s4 _)]
    have ag : (if 0 < nowW w - nI y then nowW w - nI y else 0) = ageW w y := rfl
    rw [ag]
    rcases Lr with ⟨l1, l2⟩ | ⟨l1, l2, l3, S, l4, l5⟩
    · have e8 : ∀ g, hR (uI h g) A 8 = 0 := fun g => l2
      have z : pcW w c y = (if w (66 + 35 * c) = 1 then -1 else if w (67 + 35 * c) = 1 then -1 else ageW w y) := (if_neg q0).trans (if_pos l1)
      rw [e8, if_pos rfl, if_pos (sC _), hI_u, k1, k2, z]
      refine ⟨g, ?_, FS.rf⟩
      by_cases e2 : w (66 + 35 * c) = 1
      · rw [if_pos e2, if_pos e2]; rfl
      · rw [if_neg e2, if_neg e2]
        rcases hk with q | q
        · rw [q, if_pos rfl, if_neg (by decide)]
        · rw [q, if_neg (by decide), if_pos rfl]; rfl
    · have z : pcW w c y = plW w c y (lwN w) 0 0 := (if_neg q0).trans (if_neg (by rw [l1]; decide))
      generalize hL8 : hR h A 8 = L at l2 l4 l5
      have e8 : ∀ g, hR (uI h g) A 8 = L := fun g => hL8
      have s6 : ∀ g, hS (uI h g) L = 6 := fun g => l4.1
      have r6 : ∀ g, hR (uI h g) A 6 = A + 4 := fun g => t.2.1.2.2.2.1
      have aS : ∀ g, hS (uI h g) (A + 4) = 20 := fun g => t.2.2.2.2.2.1.1
      have lS : ∀ g, hL (uI h g) (A + 4) = 30 := fun g => t.2.2.2.2.2.1.2
      have ne : ∀ {r : Nat}, r ≤ 765 → r ≠ L + 4 := fun hr => by omega
      have ld : ∀ g v k, k < 9 → ∀ j, j = 1000 + k → f_Law_setFact (uI h g) L (nI j) v = some (uI h (up2 g (L + 4) k v)) := fun g v k hk j hj => by rw [hj]; exact C_fact l4 hk
      have rw5 := R.2.2.2.2 y hy
      rw [e8, if_neg (by omega), if_pos (s6 _), show (1000 : Int32) = nI 1000 from rfl, ld _ _ 0 (by decide) 1000 rfl, bV_s, if_pos (s4 _), e8, if_pos (s6 _),
        show (1001 : Int32) = nI 1001 from rfl, ld _ _ 1 (by decide) 1001 rfl, bV_s, if_pos (s4 _), r6, if_pos (aS _), lS, if_pos (ib_n hy (by decide)), e8, if_pos (s6 _), hI_u, up_r (ne (by omega)), up_r (ne (by omega)), rw5,
        show (1002 : Int32) = nI 1002 from rfl, ld _ _ 2 (by decide) 1002 rfl, bV_s, if_pos (s4 _), e8, if_pos (s6 _), hI_u, up_r (ne (by omega)), up_r (ne (by omega)), up_r (ne (by omega)), R.1.2.2.2.2.1,
        show (1003 : Int32) = nI 1003 from rfl, ld _ _ 3 (by decide) 1003 rfl, bV_s, if_pos (s4 _), if_pos (sC _), rC, if_pos (aC _), lC, if_pos (ib_n hy (by decide)), e8, if_pos (s6 _), hI_u, up_r (ne (by omega)), up_r (ne (by omega)), up_r (ne (by omega)), up_r (ne (by omega)), r2 y hy,
        show (1004 : Int32) = nI 1004 from rfl, ld _ _ 4 (by decide) 1004 rfl, bV_s, if_pos (s4 _), if_pos (sC _), hI_u, up_r (ne (by omega)), up_r (ne (by omega)), up_r (ne (by omega)), up_r (ne (by omega)), up_r (ne (by omega)), k1, e8, ite_b (fun v => f_Land_placeIn_b151 _ A (A + 6 + 2 * c) L (1005 : Int32) v)]
      unfold f_Land_placeIn_b151
      rw [if_pos (s6 _), show (1005 : Int32) = nI 1005 from rfl, ld _ _ 5 (by decide) 1005 rfl, bV_s, if_pos (s4 _), if_pos (sC _), hI_u, up_r (ne (by omega)), up_r (ne (by omega)), up_r (ne (by omega)), up_r (ne (by omega)), up_r (ne (by omega)), up_r (ne (by omega)), k1, e8, ite_b (fun v => f_Land_placeIn_b174 _ A (A + 6 + 2 * c) L (1006 : Int32) v)]
      unfold f_Land_placeIn_b174
      rw [if_pos (s6 _), show (1006 : Int32) = nI 1006 from rfl, ld _ _ 6 (by decide) 1006 rfl, bV_s, if_pos (s4 _), if_pos (sC _), hI_u, up_r (ne (by omega)), up_r (ne (by omega)), up_r (ne (by omega)), up_r (ne (by omega)), up_r (ne (by omega)), up_r (ne (by omega)), up_r (ne (by omega)), k1, e8, ite_b (fun v => f_Land_placeIn_b197 _ A (A + 6 + 2 * c) L (1007 : Int32) v)]
      unfold f_Land_placeIn_b197
      rw [if_pos (s6 _), show (1007 : Int32) = nI 1007 from rfl, ld _ _ 7 (by decide) 1007 rfl, bV_s, if_pos (s4 _), if_pos (sC _), hI_u, up_r (ne (by omega)), up_r (ne (by omega)), up_r (ne (by omega)), up_r (ne (by omega)), up_r (ne (by omega)), up_r (ne (by omega)), up_r (ne (by omega)), up_r (ne (by omega)), k2, e8, ite_b (fun v => f_Land_placeIn_b219 _ A L (1008 : Int32) v)]
      unfold f_Land_placeIn_b219
      rw [if_pos (s6 _), show (1008 : Int32) = nI 1008 from rfl, ld _ _ 8 (by decide) 1008 rfl, bV_s, if_pos (s4 _), e8, if_pos (s6 _)]
      obtain ⟨G, hG⟩ : ∃ G, G = up2 (up2 (up2 (up2 (up2 (up2 (up2 (up2 (up2 g (L + 4) 0 (nI y)) (L + 4) 1 (ageW w y)) (L + 4) 2 (w (35 + y))) (L + 4) 3 (jrem (w 4) 12)) (L + 4) 4 (w (70 + 35 * c + y))) (L + 4) 5 (if w (66 + 35 * c) = 1 then 1 else 0)) (L + 4) 6 (if w (66 + 35 * c) = 2 then 1 else 0)) (L + 4) 7 (if w (66 + 35 * c) = 3 then 1 else 0)) (L + 4) 8 (if w (67 + 35 * c) = 0 then 0 else 1) := ⟨_, rfl⟩
      rw [← hG]
      have F : FLw L g G := by rw [hG]; exact ((((((((FLw.up.tr FLw.up).tr FLw.up).tr FLw.up).tr FLw.up).tr FLw.up).tr FLw.up).tr FLw.up).tr FLw.up)
      have hf : ∀ k, k < 9 → G (L + 4) k = fcK w c y k := by
        intro k hk9
        have : k = 0 ∨ k = 1 ∨ k = 2 ∨ k = 3 ∨ k = 4 ∨ k = 5 ∨ k = 6 ∨ k = 7 ∨ k = 8 := by omega
        rw [hG]
        rcases this with rfl | rfl | rfl | rfl | rfl | rfl | rfl | rfl | rfl
        · simp [up2]; rfl
        · simp [up2]; rfl
        · simp [up2]; rfl
        · simp [up2]; rfl
        · simp [up2]; rfl
        · simp [up2]; rfl
        · simp [up2]; rfl
        · simp [up2]; rfl
        · rw [up_eq]
          show _ = w (67 + 35 * c)
          rcases hk with q | q
          · rw [q, if_pos rfl]
          · rw [q, if_neg (by decide)]
      obtain ⟨g', p1, p2⟩ := C_pl l4 hk l3 (l5.fl F) hf
      rw [p1, bI_s, z]
      exact ⟨g', rfl, fun r hr => by
        rw [hL8] at hr
        exact (F.tr p2) r (hr l2).1 (hr l2).2⟩
  · have q0 : w (70 + 35 * c + y) = 0 := by rw [o1, show ly w c y = 0 from by omega]; rfl
    have z : pcW w c y = -1 := if_pos q0
    rw [if_neg (by rw [show ly w c y = 0 from by omega]; decide), z]
    exact ⟨g, rfl, FS.rf⟩
end U11
