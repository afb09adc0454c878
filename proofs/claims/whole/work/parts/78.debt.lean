/-! ===== debts: owe, settle ===== -/
section U28
variable {h h1 : Hp} {g g' g1 g2 : Nat → Nat → Int32} {w w' : Nat → Int32} {A B L S c d k n l y j m q s i F r z E N M M' o : Nat} {v x a b p1 p2 p3 p4 p5 : Int32} {f p : Nat → Nat} {fl fm fw : Hp → Option (Int32 × Hp)} {P Q : Nat → Int32}
theorem up_tk (hk : k < 65) : tkW (up1 w k v) c y s = up1 (tkW w c y s) k v := by
  have l1 : ly (up1 w k v) c y = ly w c y := congrArg ix (up1_ne (by omega))
  have a1 : tkW (up1 w k v) c y s = up1 (up1 w k v) (70 + 35 * c + y) (nI (ly w c y - s)) := by rw [← l1]; rfl
  rw [a1]
  funext j
  by_cases e1 : j = k
  · subst e1; rw [up1_ne (by omega), up1_eq, up1_eq]
  · rw [up1_ne e1]
    unfold tkW
    by_cases e2 : j = 70 + 35 * c + y
    · rw [e2, up1_eq, up1_eq]
    · rw [up1_ne e2, up1_ne e1, up1_ne e2]
theorem up_gv (hk : k < 65) : gvW (up1 w k v) c y s = up1 (gvW w c y s) k v := by
  have l1 : ly (up1 w k v) c y = ly w c y := congrArg ix (up1_ne (by omega))
  have a1 : gvW (up1 w k v) c y s = up1 (up1 w k v) (70 + 35 * c + y) (nI (ly w c y + s)) := by rw [← l1]; rfl
  rw [a1]
  funext j
  by_cases e1 : j = k
  · subst e1; rw [up1_ne (by omega), up1_eq, up1_eq]
  · rw [up1_ne e1]
    unfold gvW
    by_cases e2 : j = 70 + 35 * c + y
    · rw [e2, up1_eq, up1_eq]
    · rw [up1_ne e2, up1_ne e1, up1_ne e2]
theorem up_up {v' : Int32} : up1 (up1 w k v) k v' = up1 w k v' := by
  funext j
  by_cases e : j = k
  · rw [e, up1_eq, up1_eq]
  · rw [up1_ne e, up1_ne e, up1_ne e]
theorem up_id (e : w k = v) : up1 w k v = w := by
  funext j
  by_cases q : j = k
  · rw [q, up1_eq, e]
  · exact up1_ne q
theorem RLa.deb (R : RLa g A w) (B : WFb w) (hd : d < nd w) : RLa (up2 g (A + 38 + d) 2 v) A (up1 w (13 + 3 * d) v) := by
  obtain ⟨R1, R2, R3, R4, R5⟩ := R
  obtain ⟨B1, B2, B3⟩ := B
  have e : ∀ k, k ≠ 13 + 3 * d → up1 w (13 + 3 * d) v k = w k := fun k hk => up1_ne hk
  have n0 : nc (up1 w (13 + 3 * d) v) = nc w := congrArg ix (e 0 (by omega))
  have n1 : nh (up1 w (13 + 3 * d) v) = nh w := congrArg ix (e 1 (by omega))
  have n2 : nd (up1 w (13 + 3 * d) v) = nd w := congrArg ix (e 10 (by omega))
  refine ⟨?_, fun c' hc' => ?_, fun k' hk' => ?_, fun d' hd' => ?_, ?_⟩
  · unfold RLs
    rw [up_row (by omega), e 0 (by omega), e 1 (by omega), e 10 (by omega), e 2 (by omega), e 4 (by omega), e 5 (by omega), e 6 (by omega), e 7 (by omega), e 8 (by omega), e 9 (by omega)]
    exact R1
  · rw [n0] at hc'
    obtain ⟨r1, r2, r3⟩ := R2 c' hc'
    unfold RLc
    rw [up_row (by omega), up_row (by omega), ms_eq (w' := up1 w (13 + 3 * d) v) (w := w) (fun y hy => e _ (by omega))]
    exact ⟨fun j hj => by rw [e _ (by omega)]; exact r1 j hj, fun y hy => by rw [e _ (by omega)]; exact r2 y hy, r3⟩
  · rw [n1] at hk'
    obtain ⟨r1, r2⟩ := R3 k' hk'
    unfold RLh
    rw [up_row (by omega), up_row (by omega)]
    exact ⟨fun j hj => by rw [e _ (by omega)]; exact r1 j hj, fun y hy => by rw [e _ (by omega)]; exact r2 y hy⟩
  · rw [n2] at hd'
    intro j hj
    by_cases q : d' = d
    · subst q
      by_cases q2 : j = 2
      · subst q2
        rw [up_eq, show 11 + 3 * d' + 2 = 13 + 3 * d' from by omega, up1_eq]
      · rw [up_k q2, e _ (by omega)]
        exact R4 d' hd' j hj
    · rw [up_r (by omega), e _ (by omega)]
      exact R4 d' hd' j hj
  · unfold RLy
    rw [up_row (by omega)]
    exact fun y hy => by rw [e _ (by omega)]; exact R5 y hy
/-- what is left of a debt told anew -/
theorem WF.deb (W : WF M w) (hd : d < nd w) (hl : l ≤ 999) : WF M (up1 w (13 + 3 * d) (nI l)) := by
  obtain ⟨⟨W1, W2, W3⟩, ⟨B1, B2, B3⟩, T, Mo, La, Ci, Ho, Ze, De, Sa⟩ := W
  have e : ∀ k, k ≠ 13 + 3 * d → up1 w (13 + 3 * d) (nI l) k = w k := fun k hk => up1_ne hk
  have n0 : nc (up1 w (13 + 3 * d) (nI l)) = nc w := congrArg ix (e 0 (by omega))
  have n1 : nh (up1 w (13 + 3 * d) (nI l)) = nh w := congrArg ix (e 1 (by omega))
  have n2 : nd (up1 w (13 + 3 * d) (nI l)) = nd w := congrArg ix (e 10 (by omega))
  refine ⟨⟨?_, ?_, ?_⟩, ⟨?_, ?_, ?_⟩, ?_, ?_, ?_, ?_, ?_, ?_, ?_, ?_⟩
  · rw [n0, e 0 (by omega)]; exact W1
  · rw [n1, e 1 (by omega)]; exact W2
  · rw [n2, e 10 (by omega)]; exact W3
  · rw [n0]; exact B1
  · rw [n1]; exact B2
  · rw [n2]; exact B3
  · rw [e 2 (by omega)]; exact T
  · rw [e 4 (by omega)]; exact Mo
  · rw [e 3 (by omega)]; exact La.imp id (fun z => ⟨z.1, z.2.congr (fun k hk => e k (by omega))⟩)
  · rw [n0]
    intro c hc
    exact (Ci c hc).of (b := ly w c) (fun y hy => by rw [e _ (by omega)]; exact ((Ci c hc).1 y hy).1) (Ci c hc).2.1.2.2 (fun i hi => e _ (by omega))
  · rw [n1]
    intro k hk
    obtain ⟨⟨H1, H2⟩, ⟨H3, H4⟩, H5⟩ := Ho k hk
    have m0 : neH (up1 w (13 + 3 * d) (nI l)) k = neH w k := congrArg ix (e _ (by omega))
    have m1 : atH (up1 w (13 + 3 * d) (nI l)) k = atH w k := congrArg ix (e _ (by omega))
    exact ⟨⟨by rw [m0, e _ (by omega)]; exact H1, by rw [m0]; exact H2⟩, ⟨by rw [m1, e _ (by omega)]; exact H3, by rw [m1, n0]; exact H4⟩, by rw [e _ (by omega)]; exact H5⟩
  · rw [n1]; exact fun k hk h8 j hj => by rw [e _ (by omega)]; exact Ze k hk h8 j hj
  · rw [n2]
    intro d' hd'
    obtain ⟨d1, d2, d3⟩ := De d' hd'
    refine ⟨?_, ?_, ?_⟩
    · rw [n1, e _ (by omega)]; exact d1
    · rw [e _ (by omega)]; exact d2
    · by_cases q : d' = d
      · rw [q]; exact ⟨l, up1_eq, hl⟩
      · rw [e _ (by omega)]; exact d3
  · intro y hy
    rw [e _ (by omega)]; exact Sa y hy
/-- the cisterns one after the other give to o what d is still owed of y -/
def stW (o y l : Nat) : Nat → Nat → Nat → (Nat → Int32) → (Nat → Int32) × Nat
  | 0, _, s, w => (w, s)
  | j + 1, c, s, w => if c = o then stW o y l j (c + 1) s w else stW o y l j (c + 1) (s + min (min (ly w c y) (l - s)) (rm w o - ms w o)) (gvW (tkW w c y (min (min (ly w c y) (l - s)) (rm w o - ms w o))) o y (min (min (ly w c y) (l - s)) (rm w o - ms w o)))
theorem st_step (W : WF M w) (hc : c < nc w) (ho : o < nc w) (e : c ≠ o) (hy : y < 30) (h1 : n ≤ ly w c y) (h2 : n ≤ rm w o - ms w o) : WF M (tkW w c y n) ∧ WF M (gvW (tkW w c y n) o y n) ∧ CO w (gvW (tkW w c y n) o y n) ∧ nc (gvW (tkW w c y n) o y n) = nc w := by
  have h8 := W.2.1.1
  have W1 := W.tk hc hy h1
  have r := W.room ho
  exact ⟨W1, W1.gv (by rw [tk_nc]; exact ho) hy (by rw [tk_ms' (by omega) hy, tk_rm hy]; omega), (CO.tk (by omega) hy).tr (CO.gv (by omega) hy), by rw [gv_nc, tk_nc]⟩
theorem N_settle_L (t : TSr h) (hd : d < 8) (hy : y < 30) (hl : l ≤ 999) : ∀ (j c s : Nat) (g : Nat → Nat → Int32) (w : Nat → Int32), c + j = nc w → s ≤ l → g 756 = w → WF M w → o < nc w → d < nd w → w (13 + 3 * d) = nI l → ∀ q,
    ∃ g', f_Model_settle_L45 (q + j + 1) (uI h g) 755 (nI d) (nI o) (nI y) (nI s) (nI c) = some (nI (stW o y l j c s w).2, uI h g') ∧ g' 756 = up1 (stW o y l j c s w).1 (13 + 3 * d) (nI (l - (stW o y l j c s w).2)) ∧ WF M (stW o y l j c s w).1 ∧ CO w (stW o y l j c s w).1 ∧ s ≤ (stW o y l j c s w).2 ∧ (stW o y l j c s w).2 ≤ l ∧ ∀ r, r ≠ 756 → g' r = g r := by
  have s7 : ∀ g, hS (uI h g) 755 = 11 := fun g => (t.iu (g := g)).1
  have dix2 : (11 : Int32) + 3 * nI d + 2 = nI (13 + 3 * d) := by
    show nI 11 + nI 3 * nI d + nI 2 = _
    rw [nI_mul, nI_add, nI_add]
    congr 1
    omega
  intro j
  induction j with
  | zero =>
    intro c s g w hc hs hg W ho hdn hw q
    have hc' : c = nc w := hc
    obtain ⟨q1, q2, q3, q4⟩ := s56r (g := g) t
    have E : f_Model_settle_L45 (q + 0 + 1) (uI h g) 755 (nI d) (nI o) (nI y) (nI s) (nI c) = f_Model_settle_b45 (f_Model_settle_L45 q) (uI h g) 755 (nI d) (nI o) (nI y) (nI s) (nI c) := rfl
    rw [E]
    unfold f_Model_settle_b45
    rw [if_pos q4, N_cis t, bI_s, hg, W.1.1, ← hc', if_pos (Int32.le_refl _), if_pos q4, q1, if_pos q2, q3, dix2, if_pos (ib_n (by omega) (by decide)), if_pos (ib_n (by omega) (by decide)), ix_n (by omega), wr_s, hI_u, hg, hw, pk_sub hs]
    refine ⟨_, rfl, ?_, W, CO.rf, Nat.le_refl _, hs, fun r hr => up_row hr⟩
    rw [up2_row, hI_u, hg]
    rfl
  | succ j ih =>
    intro c s g w hc hs hg W ho hdn hw q
    have h8 := W.2.1.1
    have E : f_Model_settle_L45 (q + (j + 1) + 1) (uI h g) 755 (nI d) (nI o) (nI y) (nI s) (nI c) = f_Model_settle_b45 (f_Model_settle_L45 (q + j + 1)) (uI h g) 755 (nI d) (nI o) (nI y) (nI s) (nI c) := rfl
    rw [E]
    unfold f_Model_settle_b45
    rw [if_pos (s7 _), N_cis t, bI_s, hg, W.1.1, if_neg (nI_ge (by omega) (by omega))]
    by_cases e : c = o
    · have z : stW o y l (j + 1) c s w = stW o y l j (c + 1) s w := if_pos e
      rw [if_pos (congrArg nI e), z]
      unfold f_Model_settle_b124
      rw [nI_1]
      exact ih (c + 1) s g w (by omega) hs hg W ho hdn hw q
    · have z : stW o y l (j + 1) c s w = stW o y l j (c + 1) (s + min (min (ly w c y) (l - s)) (rm w o - ms w o)) (gvW (tkW w c y (min (min (ly w c y) (l - s)) (rm w o - ms w o))) o y (min (min (ly w c y) (l - s)) (rm w o - ms w o))) := if_neg e
      have ne : ¬ nI c = nI o := fun z => e ((nI_eq (by omega) (by omega)).mp z)
      have hc0 : c < nc w := by omega
      have Oc := W.okl hc0
      have oy := Oc y hy
      have rr := W.room ho
      have r9 := (W.2.2.2.2.2.1 o ho).2.1
      obtain ⟨S1, S2, S3, S4⟩ := st_step (n := min (min (ly w c y) (l - s)) (rm w o - ms w o)) W hc0 ho e hy (by omega) (by omega)
      obtain ⟨g1, p1, p2, p3⟩ := N_take (s := min (min (ly w c y) (l - s)) (rm w o - ms w o)) t hg Oc (by omega) hy (by omega)
      obtain ⟨g2, k1, k2, k3⟩ := N_give (s := min (min (ly w c y) (l - s)) (rm w o - ms w o)) t p2 (S1.okl (c := o) (by rw [tk_nc]; exact ho)) (by omega) hy
      have nd2 : nd (gvW (tkW w c y (min (min (ly w c y) (l - s)) (rm w o - ms w o))) o y (min (min (ly w c y) (l - s)) (rm w o - ms w o))) = nd w := S3.nd
      obtain ⟨g', z1, z2, z3, z4, z5, z6, z7⟩ := ih (c + 1) (s + min (min (ly w c y) (l - s)) (rm w o - ms w o)) g2 _ (by rw [S4]; omega) (by omega) k2 S2 (by rw [S4]; exact ho) (by rw [nd2]; exact hdn) (by rw [S3 _ (by omega) (by omega) (by omega)]; exact hw) q
      rw [if_neg ne, if_pos (s7 _), N_layer t (by omega) hy, bI_s, hg, oy.1, if_pos (s7 _), N_od t hd, bI_s, hg, show 11 + 3 * d + 2 = 13 + 3 * d from by omega, hw, pk_sub hs, mn_n (by omega) (by omega), bI_s, if_pos (s7 _), show (0 : Int32) = nI 0 from rfl, N_of t (by omega) (by decide), bI_s, if_pos (s7 _), N_ms t (by omega) hg (W.okl ho), bI_s, hg, show 65 + 35 * o + 0 = 65 + 35 * o from rfl, r9.1, pk_sub rr, mn_n (by omega) (by omega), bI_s, if_pos (s7 _), p1, bV_s, if_pos (s7 _), k1, bV_s, z]
      unfold f_Model_settle_b124
      rw [nI_add, nI_1]
      exact ⟨g', z1, z2, z3, S3.tr z4, by omega, z6, fun r hr => by rw [z7 r hr, k3 r hr, p3 r hr]⟩
theorem pt_0 : pt g z y (nI 0) = g := by
  funext r k
  by_cases e1 : r = z ∧ k = 5
  · rw [e1.1, e1.2, pt_m, i_0]
  · by_cases e2 : r = z + 1 ∧ k = y
    · rw [e2.1, e2.2, pt_l, i_0]
    · exact pt_o e2 e1
theorem neg0 : -nI 0 = nI 0 := rfl
theorem C_settle_L (t : LDs h A) (hA : 6 ≤ A) (hd : d < 8) (hy : y < 30) (hl : l ≤ 999) : ∀ (j c s : Nat) (g : Nat → Nat → Int32) (w : Nat → Int32), c + j = nc w → s ≤ l → RLa g A (up1 w (13 + 3 * d) (nI (l - s))) → WF M w → o < nc w → d < nd w → w (12 + 3 * d) = nI y → ∀ q,
    ∃ g', f_Land_settled_L69 (q + j + 1) (uI h g) A (A + 38 + d) (nI o) (nI l) (nI c) = some (nI (stW o y l j c s w).2, uI h g') ∧ RLa g' A (up1 (stW o y l j c s w).1 (13 + 3 * d) (nI (l - (stW o y l j c s w).2))) ∧ (stW o y l j c s w).2 ≤ l ∧ FA A g g' := by
  have s4 : ∀ g, hS (uI h g) A = 4 := fun g => t.1
  have s2 : ∀ g, hS (uI h g) (A + 38 + d) = 2 := fun g => (t.dr (d := d) hd).2.2.2.2
  have e3 : ∀ g, hR (uI h g) A 3 = A + 1 := fun g => (t.cr (c := 0) (by decide)).2.2.1
  have e4 : ∀ g, hS (uI h g) (A + 1) = 23 := fun g => (t.cr (c := 0) (by decide)).2.2.2.1
  have e5 : ∀ g, hL (uI h g) (A + 1) = 8 := fun g => (t.cr (c := 0) (by decide)).2.2.2.2
  have rc : ∀ g c, c < 8 → hR (uI h g) (A + 1) c = A + 6 + 2 * c := fun g c hc => (t.cr hc).1
  have sC : ∀ g c, c < 8 → hS (uI h g) (A + 6 + 2 * c) = 1 := fun g c hc => (t.cr hc).2.1
  intro j
  induction j with
  | zero =>
    intro c s g w hc hs R W ho hdn hw q
    have hc' : c = nc w := hc
    have E : f_Land_settled_L69 (q + 0 + 1) (uI h g) A (A + 38 + d) (nI o) (nI l) (nI c) = f_Land_settled_b69 (f_Land_settled_L69 q) (uI h g) A (A + 38 + d) (nI o) (nI l) (nI c) := rfl
    have d2 : g (A + 38 + d) 2 = nI (l - s) := by
      have := R.2.2.2.1 d (by show d < ix (up1 w (13 + 3 * d) (nI (l - s)) 10); rw [up1_ne (by omega)]; exact hdn) 2 (by decide)
      rw [show 11 + 3 * d + 2 = 13 + 3 * d from by omega, up1_eq] at this
      exact this
    have a0 : g A 0 = nI (nc w) := by rw [R.1.1, up1_ne (by omega)]; exact W.1.1
    rw [E]
    unfold f_Land_settled_b69
    rw [if_pos (s4 _), hI_u, a0, ← hc', if_pos (Int32.le_refl _), if_pos (s2 _), d2, pk_sub (by omega), show l - (l - s) = s from by omega]
    exact ⟨g, rfl, R, hs, FA.rf⟩
  | succ j ih =>
    intro c s g w hc hs R W ho hdn hw q
    have h8 := W.2.1.1
    have hc0 : c < nc w := by omega
    have E : f_Land_settled_L69 (q + (j + 1) + 1) (uI h g) A (A + 38 + d) (nI o) (nI l) (nI c) = f_Land_settled_b69 (f_Land_settled_L69 (q + j + 1)) (uI h g) A (A + 38 + d) (nI o) (nI l) (nI c) := rfl
    have u : ∀ k, k ≠ 13 + 3 * d → up1 w (13 + 3 * d) (nI (l - s)) k = w k := fun k hk => up1_ne hk
    have ncu : nc (up1 w (13 + 3 * d) (nI (l - s))) = nc w := congrArg ix (u 0 (by omega))
    have ndu : nd (up1 w (13 + 3 * d) (nI (l - s))) = nd w := congrArg ix (u 10 (by omega))
    have Bu : WFb (up1 w (13 + 3 * d) (nI (l - s))) := ⟨by rw [ncu]; exact W.2.1.1, by show ix (up1 w (13 + 3 * d) (nI (l - s)) 1) ≤ 8; rw [u 1 (by omega)]; exact W.2.1.2.1, by rw [ndu]; exact W.2.1.2.2⟩
    have a0 : g A 0 = nI (nc w) := by rw [R.1.1, u 0 (by omega)]; exact W.1.1
    have rd := R.2.2.2.1 d (by rw [ndu]; exact hdn)
    have d2 : g (A + 38 + d) 2 = nI (l - s) := by
      have := rd 2 (by decide)
      rw [show 11 + 3 * d + 2 = 13 + 3 * d from by omega, up1_eq] at this
      exact this
    have d1 : g (A + 38 + d) 1 = nI y := by
      have := rd 1 (by decide)
      rw [show 11 + 3 * d + 1 = 12 + 3 * d from by omega, u _ (by omega), hw] at this
      exact this
    have lyu : ∀ c y, ly (up1 w (13 + 3 * d) (nI (l - s))) c y = ly w c y := fun c y => congrArg ix (u _ (by omega))
    have msu : ∀ c, ms (up1 w (13 + 3 * d) (nI (l - s))) c = ms w c := fun c => ms_eq fun y hy => u _ (by omega)
    have Ou : ∀ c, c < nc w → OKL (up1 w (13 + 3 * d) (nI (l - s))) c := fun c hc y hy => by rw [lyu, u _ (by omega)]; exact W.okl hc y hy
    obtain ⟨o1, o2, o3⟩ := R.2.1 o (by rw [ncu]; exact ho)
    rw [msu] at o3
    have r9 := (W.2.2.2.2.2.1 o ho).2.1
    have o0 : g (A + 6 + 2 * o) 0 = nI (rm w o) := by
      have : g (A + 6 + 2 * o) 0 = up1 w (13 + 3 * d) (nI (l - s)) (65 + 35 * o) := o1 0 (by decide)
      rw [this, u _ (by omega)]; exact r9.1
    -- the step of s0 measures there
    have stp : ∀ (s0 n : Nat), s0 < 2 ^ 20 → n = min (l - s) (min s0 (rm w o - ms w o)) → ∀ G1, G1 = pt (pt g (A + 6 + 2 * c) y (-nI n)) (A + 6 + 2 * o) y (nI n) → G1 (A + 38 + d) 1 = nI y → G1 (A + 38 + d) 2 = nI (l - s) → f_Land_settled_b103 (f_Land_settled_L69 (q + j + 1)) (uI h g) A (A + 38 + d) (nI o) (nI l) (nI c) (nI s0) = f_Land_settled_L69 (q + j + 1) (uI h (up2 G1 (A + 38 + d) 2 (nI (l - s) - nI n))) A (A + 38 + d) (nI o) (nI l) (nI (c + 1)) := by
      intro s0 n hs0 hn G1 hG x1 x2
      have dd : pt g (A + 6 + 2 * c) y (-nI n) (A + 38 + d) 1 = nI y := by rw [pt_o (by omega) (by omega)]; exact d1
      unfold f_Land_settled_b103
      rw [if_pos (s2 _), if_pos (s4 _), e3, if_pos (e4 _), e5, if_pos (ib_n (by omega) (by decide)), ix_n (by omega), rc _ _ (by omega), if_pos (sC _ _ (by omega)), C_free (t.cs (by omega)) o0 o3 (by omega) (by omega), bI_s, mn_n (by omega) (by omega), bI_s, hI_u, d2, mn_n (by omega) (by omega), bI_s, ← hn,
        if_pos (s4 _), e3, if_pos (e4 _), e5, if_pos (ib_n (by omega) (by decide)), if_pos (s2 _), ix_n (by omega), rc _ _ (by omega), if_pos (sC _ _ (by omega)), hI_u, d1, C_take (t.cs (by omega)) hy, bV_s, if_pos (s4 _), e3, if_pos (e4 _), e5, if_pos (ib_n (by omega) (by decide)), if_pos (s2 _), rc _ _ (by omega), if_pos (sC _ _ (by omega)), hI_u, dd, C_put (t.cs (by omega)) hy, bV_s, ← hG, if_pos (s2 _), wr_s, hI_u, x2, nI_1]
      rfl
    rw [E]
    unfold f_Land_settled_b69
    rw [if_pos (s4 _), hI_u, a0, if_neg (nI_ge (by omega) (by omega))]
    by_cases e : c = o
    · have z : stW o y l (j + 1) c s w = stW o y l j (c + 1) s w := if_pos e
      have P0 : pt (pt g (A + 6 + 2 * c) y (-nI 0)) (A + 6 + 2 * o) y (nI 0) = g := by rw [neg0, pt_0, pt_0]
      rw [if_pos (congrArg nI e), z, show (0 : Int32) = nI 0 from rfl, stp 0 0 (by decide) (by omega) g P0.symm d1 d2, pk_sub (by omega), Nat.sub_zero]
      have Rn : RLa (up2 g (A + 38 + d) 2 (nI (l - s))) A (up1 w (13 + 3 * d) (nI (l - s))) := by
        have := R.deb (d := d) (v := nI (l - s)) Bu (by rw [ndu]; exact hdn)
        rw [up_up] at this
        exact this
      obtain ⟨g', z1, z2, z3, z4⟩ := ih (c + 1) s _ w (by omega) hs Rn W ho hdn hw q
      exact ⟨g', z1, z2, z3, FA.tr (fun r hr => up_row (by omega)) z4⟩
    · have z : stW o y l (j + 1) c s w = stW o y l j (c + 1) (s + min (min (ly w c y) (l - s)) (rm w o - ms w o)) (gvW (tkW w c y (min (min (ly w c y) (l - s)) (rm w o - ms w o))) o y (min (min (ly w c y) (l - s)) (rm w o - ms w o))) := if_neg e
      have ne : ¬ nI c = nI o := fun z => e ((nI_eq (by omega) (by omega)).mp z)
      generalize hn : min (min (ly w c y) (l - s)) (rm w o - ms w o) = n at z
      have Oc := W.okl hc0
      have oy := Oc y hy
      obtain ⟨c1, c2, c3⟩ := R.2.1 c (by rw [ncu]; exact hc0)
      obtain ⟨q1, q2, q3, q4⟩ := (t.cs (c := c) (by omega)).un (g := g)
      have cy : g (A + 6 + 2 * c + 1) y = nI (ly w c y) := by rw [c2 y hy, u _ (by omega)]; exact oy.1
      obtain ⟨S1, S2, S3, S4⟩ := st_step (n := n) W hc0 ho e hy (by omega) (by omega)
      have Ra := R.take (s := n) Bu (by rw [ncu]; exact hc0) (Ou c hc0) hy (by rw [lyu]; omega)
      rw [up_tk (by omega)] at Ra
      have u2 : ∀ k, k ≠ 13 + 3 * d → up1 (tkW w c y n) (13 + 3 * d) (nI (l - s)) k = tkW w c y n k := fun k hk => up1_ne hk
      have Bu2 : WFb (up1 (tkW w c y n) (13 + 3 * d) (nI (l - s))) := ⟨by show ix (up1 (tkW w c y n) (13 + 3 * d) (nI (l - s)) 0) ≤ 8; rw [u2 0 (by omega)]; exact S1.2.1.1, by show ix (up1 (tkW w c y n) (13 + 3 * d) (nI (l - s)) 1) ≤ 8; rw [u2 1 (by omega)]; exact S1.2.1.2.1, by show ix (up1 (tkW w c y n) (13 + 3 * d) (nI (l - s)) 10) ≤ 8; rw [u2 10 (by omega)]; exact S1.2.1.2.2⟩
      have nc2 : nc (up1 (tkW w c y n) (13 + 3 * d) (nI (l - s))) = nc w := (congrArg ix (u2 0 (by omega))).trans tk_nc
      have O2 : OKL (up1 (tkW w c y n) (13 + 3 * d) (nI (l - s))) o := fun y0 hy0 => by
        have ll : ly (up1 (tkW w c y n) (13 + 3 * d) (nI (l - s))) o y0 = ly (tkW w c y n) o y0 := congrArg ix (u2 _ (by omega))
        rw [ll, u2 _ (by omega)]
        exact S1.okl (c := o) (by rw [tk_nc]; exact ho) y0 hy0
      have Rb := Ra.give (c := o) (y := y) (s := n) Bu2 (by rw [nc2]; exact ho) O2 hy (by omega)
      rw [up_gv (by omega)] at Rb
      have u3 : ∀ k, k ≠ 13 + 3 * d → up1 (gvW (tkW w c y n) o y n) (13 + 3 * d) (nI (l - s)) k = gvW (tkW w c y n) o y n k := fun k hk => up1_ne hk
      have Bu3 : WFb (up1 (gvW (tkW w c y n) o y n) (13 + 3 * d) (nI (l - s))) := ⟨by show ix (up1 (gvW (tkW w c y n) o y n) (13 + 3 * d) (nI (l - s)) 0) ≤ 8; rw [u3 0 (by omega)]; exact S2.2.1.1, by show ix (up1 (gvW (tkW w c y n) o y n) (13 + 3 * d) (nI (l - s)) 1) ≤ 8; rw [u3 1 (by omega)]; exact S2.2.1.2.1, by show ix (up1 (gvW (tkW w c y n) o y n) (13 + 3 * d) (nI (l - s)) 10) ≤ 8; rw [u3 10 (by omega)]; exact S2.2.1.2.2⟩
      have nd3 : nd (up1 (gvW (tkW w c y n) o y n) (13 + 3 * d) (nI (l - s))) = nd w := (congrArg ix (u3 10 (by omega))).trans S3.nd
      have Rc := Rb.deb (d := d) (v := nI (l - s) - nI n) Bu3 (by rw [nd3]; exact hdn)
      rw [up_up, pk_sub (by omega), show l - s - n = l - (s + n) from by omega] at Rc
      have x1 : pt (pt g (A + 6 + 2 * c) y (-nI n)) (A + 6 + 2 * o) y (nI n) (A + 38 + d) 1 = nI y := by rw [pt_o (by omega) (by omega), pt_o (by omega) (by omega)]; exact d1
      have x2 : pt (pt g (A + 6 + 2 * c) y (-nI n)) (A + 6 + 2 * o) y (nI n) (A + 38 + d) 2 = nI (l - s) := by rw [pt_o (by omega) (by omega), pt_o (by omega) (by omega)]; exact d2
      obtain ⟨g', z1, z2, z3, z4⟩ := ih (c + 1) (s + n) _ (gvW (tkW w c y n) o y n) (by rw [S4]; omega) (by omega) Rc S2 (by rw [S4]; exact ho) (by rw [S3.nd]; exact hdn) (by rw [S3 _ (by omega) (by omega) (by omega)]; exact hw) q
      rw [if_neg ne, e3, if_pos (e4 _), e5, if_pos (ib_n (by omega) (by decide)), ix_n (by omega), rc _ _ (by omega), if_pos q1, if_pos (s2 _), q2, if_pos q3, q4, d1, if_pos (ib_n hy (by decide)), ix_n (by omega), cy, stp (ly w c y) n (by omega) (by omega) _ rfl x1 x2, pk_sub (by omega), show l - s - n = l - (s + n) from by omega, z]
      refine ⟨g', z1, z2, z3, FA.tr (fun r hr => ?_) z4⟩
      rw [up_row (by omega), pt_row (by omega) (by omega), pt_row (by omega) (by omega)]
theorem od_0 (t : TSr h) (hd : d < 8) : f_Model_ofDebt (uI h g) 755 (nI d) 0 = some (g 756 (11 + 3 * d), uI h g) := M_ofDebt (t.iu (g := g)) hd (j := 0) (by decide)
theorem od_1 (t : TSr h) (hd : d < 8) : f_Model_ofDebt (uI h g) 755 (nI d) 1 = some (g 756 (12 + 3 * d), uI h g) := by
  have e := M_ofDebt (t.iu (g := g)) hd (j := 1) (by decide)
  rw [show 11 + 3 * d + 1 = 12 + 3 * d from by omega] at e
  exact e
theorem CO.nd' (x : CO w w') : ∀ k, k < 65 → ¬ (5 ≤ k ∧ k ≤ 9) → w' k = w k := fun k h1 h2 => x k h2 (by omega) (by omega)
end U28
