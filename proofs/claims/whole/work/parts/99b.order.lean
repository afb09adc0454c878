/-! ===== order: the reference ===== -/
section U51
variable {h h1 h0 : Hp} {g g' g1 g2 g0 : Nat → Nat → Int32} {w w' w0 u u' : Nat → Int32} {A B L S c d k n y j m q i x r z E N M M' o R V : Nat} {l : List Nat} {v a b p1 p2 p3 p4 p5 p6 p7 : Int32} {f p : Nat → Nat} {tu : Nat → Nat}
theorem N_ors52 (t : TSr h) {s : Int32} (e1 : g 756 1 = nI N) (hN : N ≤ 8) : ∀ (j k : Nat) (g : Nat → Nat → Int32), k + j = N → g 756 1 = nI N → ∀ q, ∃ g', f_Model_orders_L52 (q + j + 1) (uI h g) 755 (nI n) s (nI k) = some (if s = jshl (1 : Int32) (nI n) - 1 then 1 else 0, uI h g') ∧ (∀ i, k ≤ i → i < N → g' 764 i = nI i) ∧ (∀ i, i < k → g' 764 i = g 764 i) ∧ ∀ r, r ≠ 764 → g' r = g r := by
  have s7 : ∀ g, hS (uI h g) 755 = 11 := fun g => t.1
  have r9 : ∀ g, hR (uI h g) 755 19 = 764 := fun g => t.2.1.2.2.2.2.2.2.2.2
  have sa : ∀ g, hS (uI h g) 764 = 20 := fun g => t.2.2.2.2.2.2.2.2.2.2.1
  have la' : ∀ g, hL (uI h g) 764 = 8 := fun g => t.2.2.2.2.2.2.2.2.2.2.2
  intro j
  induction j with
  | zero =>
    intro k g hk e1 q
    have hk' : k = N := hk
    subst hk'
    refine ⟨g, ?_, fun i a b => by omega, fun _ _ => rfl, fun _ _ => rfl⟩
    show f_Model_orders_b52 (f_Model_orders_L52 q) (uI h g) 755 (nI n) s (nI k) = _
    unfold f_Model_orders_b52
    rw [if_pos (s7 _), N_hou t, bI_s, e1, if_pos (Int32.le_refl _)]
    by_cases c : s = jshl (1 : Int32) (nI n) - 1
    · rw [if_pos c, if_pos c]
    · rw [if_neg c, if_neg c]
  | succ j ih =>
    intro k g hk e1 q
    have E : f_Model_orders_L52 (q + (j + 1) + 1) (uI h g) 755 (nI n) s (nI k) = f_Model_orders_b52 (f_Model_orders_L52 (q + j + 1)) (uI h g) 755 (nI n) s (nI k) := rfl
    obtain ⟨g', z1, z2, z3, z4⟩ := ih (k + 1) (up2 g 764 k (nI k)) (by omega) ((up_r (by decide)).trans e1) q
    rw [E]
    unfold f_Model_orders_b52
    rw [if_pos (s7 _), N_hou t, bI_s, e1, if_neg (nI_ge (by omega) (by omega)), if_pos (s7 _), r9, if_pos (sa _), la', if_pos (ib_n (by omega) (by decide)), ix_n (by omega), wr_s, sI_u, nI_1]
    refine ⟨g', z1, fun i a b => ?_, fun i hi => (z3 i (by omega)).trans (up_k (by omega)), fun r hr => (z4 r hr).trans (up_row hr)⟩
    by_cases c : i = k
    · rw [c, z3 k (by omega), up_eq]
    · exact z2 i (by omega) b
theorem N_ors10 (t : TSr h) {code : Nat} (hn : n ≤ 5) (h0 : n ≠ 0) (hc : code < 2 ^ 20) : ∀ (m j : Nat) (g : Nat → Nat → Int32), m + j = n → (∀ k, m ≤ k → k < n → g 764 k = nI (dgF n code k)) → ∀ q, ∃ g', f_Model_orders_L10 (q + m + 1) (uI h g) 755 (nI n) (nI (code / n ^ j)) (snF n code j) (zI m) = f_Model_orders_L52 FU (uI h g') 755 (nI n) (snF n code n) (nI n) ∧ (∀ k, k < n → g' 764 k = nI (dgF n code k)) ∧ ∀ r, r ≠ 764 → g' r = g r := by
  have s7 : ∀ g, hS (uI h g) 755 = 11 := fun g => t.1
  have r9 : ∀ g, hR (uI h g) 755 19 = 764 := fun g => t.2.1.2.2.2.2.2.2.2.2
  have sa : ∀ g, hS (uI h g) 764 = 20 := fun g => t.2.2.2.2.2.2.2.2.2.2.1
  have la' : ∀ g, hL (uI h g) 764 = 8 := fun g => t.2.2.2.2.2.2.2.2.2.2.2
  intro m
  induction m with
  | zero =>
    intro j g hm G q
    have hj : j = n := by omega
    subst hj
    refine ⟨g, ?_, fun k hk => G k (Nat.zero_le _) hk, fun _ _ => rfl⟩
    show f_Model_orders_b10 (f_Model_orders_L10 q) (uI h g) 755 (nI j) _ _ (zI 0) = _
    unfold f_Model_orders_b10
    rw [zI_0, if_pos (by decide)]
  | succ m ih =>
    intro j g hm G q
    have E : f_Model_orders_L10 (q + (m + 1) + 1) (uI h g) 755 (nI n) (nI (code / n ^ j)) (snF n code j) (zI (m + 1)) = f_Model_orders_b10 (f_Model_orders_L10 (q + m + 1)) (uI h g) 755 (nI n) (nI (code / n ^ j)) (snF n code j) (zI (m + 1)) := rfl
    have nz : ¬ nI n = 0 := nI_ne0 (by omega) (by omega)
    have hj : n - 1 - m = j := by omega
    have D : dgF n code m = code / n ^ j % n := by unfold dgF; rw [hj]
    have le : code / n ^ j ≤ code := Nat.div_le_self _ _
    have S : snF n code (j + 1) = snF n code j ||| jshl (1 : Int32) (nI (dgF n code m)) := by
      show snF n code j ||| jshl (1 : Int32) (nI (dgF n code (n - 1 - j))) = _
      rw [show n - 1 - j = m from by omega]
    obtain ⟨g', z1, z2, z3⟩ := ih (j + 1) (up2 g 764 m (nI (dgF n code m))) (by omega) (fun k a b => by
      by_cases c : k = m
      · rw [c, up_eq]
      · rw [up_k c]; exact G k (by omega) b) q
    rw [S, Nat.pow_succ, ← Nat.div_div_eq_div_mul] at z1
    rw [E]
    unfold f_Model_orders_b10
    rw [zI_s, if_neg (nI_pos (by omega)), if_pos (s7 _), if_pos nz, r9, if_pos (sa _), la', if_pos (ib_n (by omega) (by decide)), jrem_n (by omega) (by omega) (by omega), ← D, ix_n (by omega), wr_s, sI_u, r9, if_pos (sa _), la', if_pos (ib_n (by omega) (by decide)), if_pos nz, pk_div (by omega) (by omega) (by omega), hI_u, up_eq]
    exact ⟨g', z1, z2, fun r hr => (z3 r hr).trans (up_row hr)⟩
theorem N_orders (t : TSr h) {code : Nat} (e1 : g 756 1 = nI N) (hN : N ≤ 8) (hn : n ≤ 5) (hnN : n ≤ N) (h0 : n ≠ 0) (hc : code < 2 ^ 20) : ∃ g', f_Model_orders (uI h g) 755 (nI code) (nI n) = some (if okC n code = true then 1 else 0, uI h g') ∧ (∀ i, i < N → g' 764 i = nI (gtL (pmC n code) i)) ∧ ∀ r, r ≠ 764 → g' r = g r := by
  obtain ⟨g1, q1, q2, q3⟩ := N_ors10 t hn h0 hc n 0 g (by omega) (fun k a b => by omega) (999999 - n)
  obtain ⟨g2, z1, z2, z3, z4⟩ := N_ors52 (n := n) (s := snF n code n) t (g := g1) (by rw [q3 756 (by decide)]; exact e1) hN (N - n) n g1 (by omega) (by rw [q3 756 (by decide)]; exact e1) (999999 - (N - n))
  rw [← FU_mm (by omega), Nat.pow_zero, Nat.div_one] at q1
  rw [← FU_mm (by omega)] at z1
  refine ⟨g2, ?_, fun i hi => ?_, fun r hr => (z4 r hr).trans (q3 r hr)⟩
  · unfold f_Model_orders f_Model_orders_b0
    rw [show nI n - (1 : Int32) = zI n by rw [Int32.sub_eq_add_neg]; rfl]
    refine (show f_Model_orders_L10 FU (uI h g) 755 (nI n) (nI code) 0 (zI n) = _ from q1).trans ?_
    rw [z1]
    unfold okC
    by_cases c : snF n code n = jshl (1 : Int32) (nI n) - 1
    · rw [if_pos c, if_pos (decide_eq_true c)]
    · rw [if_neg c, if_neg (by rw [decide_eq_true_iff]; exact c)]
  · unfold pmC
    rw [gt_map]
    by_cases c : i < n
    · rw [if_pos c, z3 i c]; exact q2 i c
    · rw [if_neg c]; exact z2 i (by omega) hi
theorem N_ord143 (t : TSr h) {K : Hp → Nat → Int32 → Int32 → Int32 → Int32 → Int32 → Int32 → Option (Int32 × Hp)} (hn : n ≤ 8) (G : ∀ i, i < n → g 764 i = nI (tu i)) : f_Model_order_L143 K FU (uI h g) 755 p1 (nI n) p3 0 p5 p6 0 = f_Model_order_b170 K (uI h g) 755 p1 (nI n) p3 (nI (fgF tu n)) p5 p6 := by
  have s7 : ∀ g, hS (uI h g) 755 = 11 := fun g => t.1
  have r9 : ∀ g, hR (uI h g) 755 19 = 764 := fun g => t.2.1.2.2.2.2.2.2.2.2
  have sa : ∀ g, hS (uI h g) 764 = 20 := fun g => t.2.2.2.2.2.2.2.2.2.2.1
  have la' : ∀ g, hL (uI h g) 764 = 8 := fun g => t.2.2.2.2.2.2.2.2.2.2.2
  have L : ∀ j i, i + j = n → ∀ q, f_Model_order_L143 K (q + j + 1) (uI h g) 755 p1 (nI n) p3 (nI (fgF tu i)) p5 p6 (nI i) = f_Model_order_b170 K (uI h g) 755 p1 (nI n) p3 (nI (fgF tu n)) p5 p6 := by
    intro j
    induction j with
    | zero =>
      intro i hi q
      have hi' : i = n := hi
      subst hi'
      show f_Model_order_b143 K (f_Model_order_L143 K q) (uI h g) 755 _ _ _ _ _ _ _ = _
      unfold f_Model_order_b143
      rw [if_pos (Int32.le_refl _)]
    | succ j ih =>
      intro i hi q
      have E : f_Model_order_L143 K (q + (j + 1) + 1) (uI h g) 755 p1 (nI n) p3 (nI (fgF tu i)) p5 p6 (nI i) = f_Model_order_b143 K (f_Model_order_L143 K (q + j + 1)) (uI h g) 755 p1 (nI n) p3 (nI (fgF tu i)) p5 p6 (nI i) := rfl
      rw [E]
      unfold f_Model_order_b143
      rw [if_neg (nI_ge (by omega) (by omega)), if_pos (s7 _), r9, if_pos (sa _), la', if_pos (ib_n (by omega) (by decide)), ix_n (by omega), hI_u, G i (by omega), show (8 : Int32) * nI (fgF tu i) = nI (8 * fgF tu i) from nI_mul _ _, nI_add, nI_1]
      exact ih (i + 1) (by omega) q
  have := L n 0 (by omega) (999999 - n)
  rw [← FU_mm (by omega)] at this
  exact this
theorem N_ord83 (t : TSr h) {K : Hp → Nat → Int32 → Int32 → Int32 → Int32 → Int32 → Int32 → Option (Int32 × Hp)} (W : WF M u) (hr : ∀ i, i < nh u → tu i < nh u) (hw : ∀ k, 617 ≤ k → u k = w k) : ∀ (j i : Nat) (g : Nat → Nat → Int32), i + j = nh u → g 756 = (orW tu u i).2 → (∀ k, k < 617 → g 759 k = w k) → (∀ k, k < nh u → g 764 k = nI (tu k)) → ∀ q,
    ∃ g', f_Model_order_L83 K (q + j + 1) (uI h g) 755 p1 p2 p3 p4 p5 p6 (nI (orW tu u i).1) (nI i) = (if p4 < 0 then f_Model_order_b133 K (uI h g') 755 p1 p2 p3 p6 (nI (orC tu u (nh u)).1) else if nI (orC tu u (nh u)).1 < p5 then f_Model_order_b133 K (uI h g') 755 p1 p2 p3 p6 (nI (orC tu u (nh u)).1) else f_Model_order_b170 K (uI h g') 755 p1 p2 p3 p4 p5 p6) ∧ g' 756 = w ∧ FN g g' := by
  have s7 : ∀ g, hS (uI h g) 755 = 11 := fun g => t.1
  have r9 : ∀ g, hR (uI h g) 755 19 = 764 := fun g => t.2.1.2.2.2.2.2.2.2.2
  have sa : ∀ g, hS (uI h g) 764 = 20 := fun g => t.2.2.2.2.2.2.2.2.2.2.1
  have la' : ∀ g, hL (uI h g) 764 = 8 := fun g => t.2.2.2.2.2.2.2.2.2.2.2
  have h8 := W.2.1.2.1
  have h8c := W.2.1.1
  intro j
  induction j with
  | zero =>
    intro i g hi e6 e9 e4 q
    have hi' : i = nh u := hi
    subst hi'
    obtain ⟨W1, W2, W3, -⟩ := orW_wf W hr (nh u) (Nat.le_refl _)
    refine ⟨cpg g 759 756 617, ?_, lay_eq e9 (fun k hk => by rw [e6, W2.hi k hk]; exact hw k hk), fun r h1 _ => cpg_r h1⟩
    show f_Model_order_b83 K (f_Model_order_L83 K q) (uI h g) 755 _ _ _ _ _ _ _ _ = _
    unfold f_Model_order_b83
    rw [if_pos (s7 _), N_hou t, bI_s, e6, W1.1.2.1, W2.nh, if_pos (Int32.le_refl _), if_pos (s7 _), M_laysBack (h := uI h g) t, bV_s, cp_g, W3]
  | succ j ih =>
    intro i g hi e6 e9 e4 q
    obtain ⟨W1, W2, W3, -⟩ := orW_wf W hr i (by omega)
    have ht := hr i (by omega)
    have hk : tu i < nh (orW tu u i).2 := by rw [W2.nh]; exact ht
    have H := W1.2.2.2.2.2.2.1 _ hk
    have E : f_Model_order_L83 K (q + (j + 1) + 1) (uI h g) 755 p1 p2 p3 p4 p5 p6 (nI (orW tu u i).1) (nI i) = f_Model_order_b83 K (f_Model_order_L83 K (q + j + 1)) (uI h g) 755 p1 p2 p3 p4 p5 p6 (nI (orW tu u i).1) (nI i) := rfl
    obtain ⟨g1, z1, z2, z3⟩ := N_drinks (g := g) (n := nc (orW tu u i).2) t (k := tu i) (by omega) (by rw [e6]; exact H) (by rw [e6, W2.nc]; exact h8c) (by rw [e6]; exact W1.2.2.2.2.2.1 _ H.2.1.2) (by rw [e6]; exact W1.lw)
    rw [e6] at z1 z2
    obtain ⟨g', y1, y2, y3⟩ := ih (i + 1) g1 (by omega) z2 (fun k hk => by rw [z3 759 (by decide) (by decide)]; exact e9 k hk) (fun k hk => by rw [z3 764 (by decide) (by decide)]; exact e4 k hk) q
    rw [E]
    unfold f_Model_order_b83
    rw [if_pos (s7 _), N_hou t, bI_s, e6, W1.1.2.1, W2.nh, if_neg (nI_ge (by omega) (by omega)), if_pos (s7 _), r9, if_pos (sa _), la', if_pos (ib_n (by omega) (by decide)), ix_n (by omega), hI_u, e4 i (by omega), z1, bI_s, nI_add, nI_1]
    exact ⟨g', y1, y2, z3.tr y3⟩
def bsN : Option (Nat × Nat) → Int32
  | none => -1
  | some s => nI s.2
def lsN : Option (Nat × Nat) → Int32
  | none => 0
  | some s => nI s.1
theorem fg_lt (hp : ∀ i, i < n → p i < 8) : fgF p n < 8 ^ n := by
  induction n with
  | zero => exact Nat.one_pos
  | succ n ih =>
    have := ih fun i hi => hp i (by omega)
    have := hp n (by omega)
    show 8 * fgF p n + p n < 8 ^ n * 8
    omega
theorem pm_ord (hn : n ≠ 0) {code : Nat} : ORD n (pmC n code) := by
  refine ⟨by unfold pmC; rw [List.length_map, List.length_range], fun x hx => ?_⟩
  unfold pmC at hx
  obtain ⟨k, -, e⟩ := List.mem_map.mp hx
  rw [← e]
  exact Nat.mod_lt _ (by omega)
theorem N_ord54 (t : TSr h) (W : WF M w) (hn : n ≤ 5) (hnn : n ≤ nh w) (h0 : n ≠ 0) : ∀ (j code : Nat) (s : Option (Nat × Nat)) (g : Nat → Nat → Int32), code + j = n ^ n → g 756 = w → (∀ k, k < 617 → g 759 k = w k) → (∀ s', s = some s' → s'.1 < 2 ^ 20 ∧ s'.2 < 2 ^ 20) → ∀ q,
    ∃ g' s', f_Model_order_L54 (q + j + 1) (uI h g) 755 p1 (nI n) (nI (n ^ n)) (bsN s) (lsN s) (nI code) = some (if p1 = 0 then lsN s' else bsN s', uI h g') ∧ s' = foL (tuS (leaksW w (nc w))) (fun l => fgF (gtL l) n) (((List.range' code j).filter (okC n)).map (pmC n)) s ∧ g' 756 = w ∧ ∀ r, r ≠ 756 → r ≠ 763 → r ≠ 764 → g' r = g r := by
  have s7 : ∀ g, hS (uI h g) 755 = 11 := fun g => t.1
  have h8 := W.2.1.2.1
  have h8c := W.2.1.1
  have Wu := W.leaks
  have Cu : CO w (leaksW w (nc w)) := leaks_co h8c
  have nn : n ^ n < 2 ^ 20 := by
    have : n = 1 ∨ n = 2 ∨ n = 3 ∨ n = 4 ∨ n = 5 := by omega
    rcases this with rfl | rfl | rfl | rfl | rfl <;> decide
  have p8 : (8 : Nat) ^ n ≤ 2 ^ 20 := by
    have : n = 1 ∨ n = 2 ∨ n = 3 ∨ n = 4 ∨ n = 5 := by omega
    rcases this with rfl | rfl | rfl | rfl | rfl <;> decide
  intro j
  induction j with
  | zero =>
    intro code s g hc e6 e9 hs q
    have hc' : code = n ^ n := hc
    subst hc'
    refine ⟨g, s, ?_, rfl, e6, fun _ _ _ _ => rfl⟩
    show f_Model_order_b54 (f_Model_order_L54 q) (uI h g) 755 _ _ _ _ _ _ = _
    unfold f_Model_order_b54
    rw [if_pos (Int32.le_refl _)]
    by_cases c : p1 = 0
    · rw [if_pos c, if_pos c]
    · rw [if_neg c, if_neg c]
  | succ j ih =>
    intro code s g hc e6 e9 hs q
    have E : f_Model_order_L54 (q + (j + 1) + 1) (uI h g) 755 p1 (nI n) (nI (n ^ n)) (bsN s) (lsN s) (nI code) = f_Model_order_b54 (f_Model_order_L54 (q + j + 1)) (uI h g) 755 p1 (nI n) (nI (n ^ n)) (bsN s) (lsN s) (nI code) := rfl
    have RR : List.range' code (j + 1) = code :: List.range' (code + 1) j := List.range'_succ ..
    obtain ⟨g1, q1, q2, q3⟩ := N_orders (g := g) (N := nh w) t (code := code) (by rw [e6]; exact W.1.2.1) h8 hn hnn h0 (by omega)
    have e61 : g1 756 = w := (q3 756 (by decide)).trans e6
    rw [E, RR]
    unfold f_Model_order_b54
    rw [if_neg (nI_ge (by omega) (by omega)), if_pos (s7 _), q1, bI_s]
    by_cases ok : okC n code = true
    · rw [if_pos ok, if_neg (by decide), if_pos (s7 _), List.filter_cons_of_pos ok, List.map_cons, fo_s]
      have O := pm_ord (n := n) (code := code) h0
      obtain ⟨g2, z1, z2, z3⟩ := N_leaks (g := g1) (n := nc w) t h8c (by rw [e61]; exact W.1.1) (by rw [e61]; exact W.2.2.2.2.2.1)
      rw [e61] at z2
      have nhu : nh (leaksW w (nc w)) = nh w := Cu.nh
      obtain ⟨g3, y1, y2, y3⟩ := N_ord83 (h := h) (K := f_Model_order_L54 (q + j + 1)) (p1 := p1) (p2 := nI n) (p3 := nI (n ^ n)) (p4 := bsN s) (p5 := lsN s) (p6 := nI code) (tu := gtL (pmC n code)) (w := w) t Wu (fun i hi => gt_nh O (by rw [nhu]; exact hnn) hi) Cu.hi (nh (leaksW w (nc w))) 0 g2 (by omega) z2 (fun k hk => by rw [z3 759 (by decide), q3 759 (by decide)]; exact e9 k hk) (fun k hk => by rw [z3 764 (by decide)]; exact q2 k (by rw [← nhu]; exact hk)) (999999 - nh (leaksW w (nc w)))
      rw [← FU_mm (by omega)] at y1
      have T : (orC (gtL (pmC n code)) (leaksW w (nc w)) (nh (leaksW w (nc w)))).1 = tuS (leaksW w (nc w)) (pmC n code) := rfl
      have hT := tuS_le Wu O (by rw [nhu]; exact hnn)
      have F64 : ∀ i, i < n → g3 764 i = nI (gtL (pmC n code) i) := fun i hi => by rw [y3 764 (by decide) (by decide), z3 764 (by decide)]; exact q2 i (by omega)
      have hF : fgF (gtL (pmC n code)) n < 2 ^ 20 := Nat.lt_of_lt_of_le (fg_lt fun i hi => by have := gt_in O hi; omega) p8
      have fr3 : ∀ r, r ≠ 756 → r ≠ 763 → r ≠ 764 → g3 r = g r := fun r a b c => by rw [y3 r a b, z3 r a, q3 r c]
      have nx : ∀ s1, (∀ s', s1 = some s' → s'.1 < 2 ^ 20 ∧ s'.2 < 2 ^ 20) → ∃ g' s', f_Model_order_L54 (q + j + 1) (uI h g3) 755 p1 (nI n) (nI (n ^ n)) (bsN s1) (lsN s1) (nI (code + 1)) = some (if p1 = 0 then lsN s' else bsN s', uI h g') ∧ s' = foL (tuS (leaksW w (nc w))) (fun l => fgF (gtL l) n) (((List.range' (code + 1) j).filter (okC n)).map (pmC n)) s1 ∧ g' 756 = w ∧ ∀ r, r ≠ 756 → r ≠ 763 → r ≠ 764 → g' r = g r := fun s1 hs1 => by
        obtain ⟨g', s', x1, x2, x3, x4⟩ := ih (code + 1) s1 g3 (by omega) y2 (fun k hk => by rw [fr3 759 (by decide) (by decide) (by decide)]; exact e9 k hk) hs1 q
        exact ⟨g', s', x1, x2, x3, fun r a b c => (x4 r a b c).trans (fr3 r a b c)⟩
      have up : f_Model_order_b133 (f_Model_order_L54 (q + j + 1)) (uI h g3) 755 p1 (nI n) (nI (n ^ n)) (nI code) (nI (tuS (leaksW w (nc w)) (pmC n code))) = f_Model_order_L54 (q + j + 1) (uI h g3) 755 p1 (nI n) (nI (n ^ n)) (bsN (some (tuS (leaksW w (nc w)) (pmC n code), fgF (gtL (pmC n code)) n))) (lsN (some (tuS (leaksW w (nc w)) (pmC n code), fgF (gtL (pmC n code)) n))) (nI (code + 1)) := by
        unfold f_Model_order_b133
        rw [N_ord143 t (by omega) F64]
        unfold f_Model_order_b170
        rw [nI_1]
        rfl
      rw [z1, bV_s]
      have y1' : f_Model_order_L83 (f_Model_order_L54 (q + j + 1)) FU (uI h g2) 755 p1 (nI n) (nI (n ^ n)) (bsN s) (lsN s) (nI code) 0 0 = _ := y1
      rw [y1', T]
      cases s with
      | none =>
        rw [if_pos (show bsN none < 0 by decide), up]
        exact nx _ fun s' hs' => by rw [← Option.some.inj hs']; exact ⟨hT, hF⟩
      | some s =>
        have hs0 := hs s rfl
        rw [if_neg (show ¬ bsN (some s) < 0 from nI_pos (by omega))]
        show ∃ g' s', (if nI (tuS (leaksW w (nc w)) (pmC n code)) < nI s.1 then _ else _) = _ ∧ s' = foL _ _ _ (if tuS (leaksW w (nc w)) (pmC n code) < s.1 then some (tuS (leaksW w (nc w)) (pmC n code), fgF (gtL (pmC n code)) n) else some s) ∧ _
        by_cases c : tuS (leaksW w (nc w)) (pmC n code) < s.1
        · rw [if_pos (nI_lt c (by omega)), if_pos c, up]
          exact nx _ fun s' hs' => by rw [← Option.some.inj hs']; exact ⟨hT, hF⟩
        · rw [if_neg (nI_nlt (by omega) (by omega)), if_neg c]
          unfold f_Model_order_b170
          rw [nI_1]
          exact nx (some s) hs
    · rw [if_neg ok, if_pos rfl, List.filter_cons_of_neg ok]
      unfold f_Model_order_b170
      rw [nI_1]
      obtain ⟨g', s', x1, x2, x3, x4⟩ := ih (code + 1) s g1 (by omega) e61 (fun k hk => by rw [q3 759 (by decide)]; exact e9 k hk) hs q
      exact ⟨g', s', x1, x2, x3, fun r a b c => (x4 r a b c).trans (q3 r c)⟩
theorem N_ord25 (t : TSr h) (W : WF M w) (hn : n ≤ 5) (hnn : n ≤ nh w) (h0 : n ≠ 0) (e6 : g 756 = w) : ∃ g' s', f_Model_order_L25 FU (uI h g) 755 p1 (nI n) 1 0 = some (if p1 = 0 then lsN s' else bsN s', uI h g') ∧ s' = foL (tuS (leaksW w (nc w))) (fun l => fgF (gtL l) n) (pmL n) none ∧ g' 756 = w ∧ ∀ r, r ≠ 756 → r ≠ 759 → r ≠ 763 → r ≠ 764 → g' r = g r := by
  have s7 : ∀ g, hS (uI h g) 755 = 11 := fun g => t.1
  have nn : n ^ n < 4000 := by
    have : n = 1 ∨ n = 2 ∨ n = 3 ∨ n = 4 ∨ n = 5 := by omega
    rcases this with rfl | rfl | rfl | rfl | rfl <;> decide
  obtain ⟨g', s', x1, x2, x3, x4⟩ := N_ord54 (p1 := p1) t W hn hnn h0 (n ^ n) 0 none (cpg g 756 759 617) (by omega) (by rw [cpg_r (by decide)]; exact e6) (fun k hk => by rw [cpg_k hk, e6]) (fun s' hs' => absurd hs' (by simp)) (999999 - n ^ n)
  rw [← FU_mm (by omega)] at x1
  have L : ∀ j i, i + j = n → ∀ q, f_Model_order_L25 (q + j + 1) (uI h g) 755 p1 (nI n) (nI (n ^ i)) (nI i) = f_Model_order_L54 FU (uI h (cpg g 756 759 617)) 755 p1 (nI n) (nI (n ^ n)) (-1) 0 0 := by
    intro j
    induction j with
    | zero =>
      intro i hi q
      have hi' : i = n := hi
      subst hi'
      show f_Model_order_b25 (f_Model_order_L25 q) (uI h g) 755 _ _ _ _ = _
      unfold f_Model_order_b25
      rw [if_pos (Int32.le_refl _), if_pos (s7 _), M_keeps (h := uI h g) t, bV_s, cp_g]
    | succ j ih =>
      intro i hi q
      have E : f_Model_order_L25 (q + (j + 1) + 1) (uI h g) 755 p1 (nI n) (nI (n ^ i)) (nI i) = f_Model_order_b25 (f_Model_order_L25 (q + j + 1)) (uI h g) 755 p1 (nI n) (nI (n ^ i)) (nI i) := rfl
      rw [E]
      unfold f_Model_order_b25
      rw [if_neg (nI_ge (by omega) (by omega)), nI_mul, nI_1, ← Nat.pow_succ]
      exact ih (i + 1) (by omega) q
  have L0 := L n 0 (by omega) (999999 - n)
  rw [← FU_mm (by omega), Nat.pow_zero] at L0
  refine ⟨g', s', (show f_Model_order_L25 FU (uI h g) 755 p1 (nI n) 1 0 = _ from L0).trans x1, x2, x3, fun r a b c d => (x4 r a c d).trans (cpg_r b)⟩
theorem C_ord32 (t : TS h) (hn : n ≤ 5) : ∀ (j i : Nat) (g : Nat → Nat → Int32), i + j = 8 → (∀ k, k < i → g 753 k = nI k) → ∀ q, ∃ g', f_Water_order_L32 (q + j + 1) (uI h g) 1 p1 (nI n) (nI i) = f_Water_order_L59 FU (uI h g') 1 p1 (nI n) (-1) 0 0 ∧ (∀ k, k < 8 → g' 753 k = nI k) ∧ ∀ r, r ≠ 753 → g' r = g r := by
  have w1 : ∀ g, hS (uI h g) 1 = 10 := fun g => (WTR (g := g) t).1.1
  have w8 : ∀ g, hR (uI h g) 1 8 = 753 := fun g => (WTR (g := g) t).1.2.2.2.2.2.2.2.2.2.1
  obtain ⟨s3, l3⟩ : AS h 753 20 8 := t.td.2.1.2.2.1
  have s3' : ∀ g, hS (uI h g) 753 = 20 := fun g => s3
  have l3' : ∀ g, hL (uI h g) 753 = 8 := fun g => l3
  intro j
  induction j with
  | zero =>
    intro i g hi G q
    have hi' : i = 8 := hi
    subst hi'
    refine ⟨g, ?_, G, fun _ _ => rfl⟩
    show f_Water_order_b32 (f_Water_order_L32 q) (uI h g) 1 _ _ _ = _
    unfold f_Water_order_b32
    rw [if_pos (show (8 : Int32) ≤ nI 8 from by decide)]
  | succ j ih =>
    intro i g hi G q
    have E : f_Water_order_L32 (q + (j + 1) + 1) (uI h g) 1 p1 (nI n) (nI i) = f_Water_order_b32 (f_Water_order_L32 (q + j + 1)) (uI h g) 1 p1 (nI n) (nI i) := rfl
    obtain ⟨g', z1, z2, z3⟩ := ih (i + 1) (up2 g 753 i (nI i)) (by omega) (fun k hk => by
      by_cases c : k = i
      · rw [c, up_eq]
      · rw [up_k c]; exact G k (by omega)) q
    rw [E]
    unfold f_Water_order_b32
    rw [if_neg (show ¬ (8 : Int32) ≤ nI i from nI_ge (b := 8) (by omega) (by decide)), if_pos (w1 _), w8, if_pos (s3' _), l3', if_pos (ib_n (by omega) (by decide)), ix_n (by omega), wr_s, sI_u, nI_1]
    exact ⟨g', z1, z2, fun r hr => (z3 r hr).trans (up_row hr)⟩
theorem pm_use (hn : n ≤ 5) : ∃ r, pmL n = List.range n :: r ∧ chk n (List.range n :: r) = true ∧ r.length + 1 ≤ 120 ∧ ∀ x, x ∈ List.range n :: r → ORD n x := by
  have h := pm_ok hn
  unfold pmA at h
  rw [Bool.and_eq_true, Bool.and_eq_true, Bool.and_eq_true] at h
  obtain ⟨⟨⟨h1, h2⟩, h3⟩, h4⟩ := h
  cases e : pmL n with
  | nil => rw [e] at h1; exact absurd h1 Bool.false_ne_true
  | cons l r =>
    rw [e] at h1 h2 h3 h4
    have hl : l = List.range n := by
      have : (some l == some (List.range n)) = true := h2
      simpa using this
    subst hl
    refine ⟨r, rfl, h1, of_decide_eq_true h3, fun x hx => ?_⟩
    have := List.all_eq_true.mp h4 x hx
    rw [Bool.and_eq_true] at this
    exact ⟨by simpa using this.1, fun y hy => of_decide_eq_true (List.all_eq_true.mp this.2 y hy)⟩
theorem sp_order (hp : p1 = 0 ∨ p1 = 1) : VSp M (fun H => f_Water_order H 1 p1) (fun H => f_Model_order H 755 p1) := by
  intro H I
  obtain ⟨h, g, rfl⟩ : ∃ h g, H = uI h g := ⟨H, hI H, rfl⟩
  have I : INV M h g := I
  obtain ⟨t, W, R, Lr, e0, e1, e2, n8, nh8, nd8⟩ := I.us
  obtain ⟨⟨w1, -, -, -, -, w4, w5, -⟩, -, -⟩ := WTR (g := g) t
  obtain ⟨g1, q1, t1, H1, q4, I1⟩ := C_trial I
  have d13 := t1.ld (c := 13) (by decide)
  rw [la13] at d13
  obtain ⟨g2, a1, a2, a3⟩ := C_leaks (A := 615) (g := g1) d13 (by decide) H1.2.1 W.wn
  have I2 := I1.ft H1.2.2 (FH.fa a3)
  have Cu : CO (g 756) (leaksW (g 756) (nc (g 756))) := leaks_co n8
  have X2 : ∀ r, r ≤ 765 → (r < 615 ∨ 660 < r) → g2 r = g r := fun r a b => (a3 r (by omega)).trans (q4 r (by omega))
  have H2 : HELD M (sR h 615 8 (hR h 569 8)) g2 615 (leaksW (g 756) (nc (g 756))) := ⟨W.leaks, a2, (H1.2.2.hi fun r hr => a3 r (by omega)).congr (Cu 3 (by decide) (by decide) (by omega)) Cu.hi⟩
  have hn : min 5 (nh (g 756)) ≤ 5 := by omega
  obtain ⟨g3, b1, b2, b3⟩ := C_ord32 (p1 := p1) (n := min 5 (nh (g 756))) t1 hn 8 0 g2 rfl (fun k hk => by omega) 999991
  have I3 : INV M (sR h 615 8 (hR h 569 8)) g3 := I2.sc (r0 := 753) (Or.inl rfl) b3
  have H3 : HELD M (sR h 615 8 (hR h 569 8)) g3 615 (leaksW (g 756) (nc (g 756))) := H2.fz (fun r hr _ => b3 r (by omega)) fun r a b _ => b3 r (by omega)
  obtain ⟨r, c1, c2, c3, c4⟩ := pm_use hn
  have R3 : RW g3 (gtL (List.range (min 5 (nh (g 756))))) := fun k hk => by
    have : gtL (List.range (min 5 (nh (g 756)))) k = k := by
      have z := gt_map (n := min 5 (nh (g 756))) (q := id) (i := k)
      rw [List.map_id] at z
      rw [z]
      exact ite_self k
    rw [this]
    exact ⟨b2 k hk, hk⟩
  obtain ⟨h4, g4, d1, d2, d3, d4, d5⟩ := C_ord_L (p1 := p1) (u := leaksW (g 756) (nc (g 756))) (w := g 756) hn (by rw [Cu.nh]; omega) r (List.range (min 5 (nh (g 756)))) none 0 _ g3 c2 c4 (by omega) (fun s' hs' => absurd hs' (by simp)) I3 (by rw [b3 756 (by decide)]; exact X2 756 (by decide) (by omega)) H3 R3 (999999 - r.length)
  rw [← FU_mm (by omega), ← c1] at d1
  have t4 := d2.1
  have s7 : ∀ g, hS (uI h4 g) 755 = 11 := fun g => t4.td.1.1
  have e6 : up2 g4 755 0 0 756 = g 756 := (up_row (by decide)).trans d3
  have cw : f_Water_order (uI h g) 1 p1 = some (orR p1 (foL (tuS (leaksW (g 756) (nc (g 756)))) (fun l => fgF (gtL l) (min 5 (nh (g 756)))) (pmL (min 5 (nh (g 756)))) none), uI h4 g4) := by
    show f_Water_order_b0 (uI h g) 1 p1 = _
    unfold f_Water_order_b0
    rw [if_pos w1, w5, if_pos (show hS (uI h g) 615 = 4 from (t.ld (c := 13) (by decide)).1), w4, q1, bV_s, if_pos (show hS (uI (sR h 615 8 (hR h 569 8)) g1) 1 = 10 from t1.td.2.1.1), show hR (uI (sR h 615 8 (hR h 569 8)) g1) 1 5 = 615 from w5, if_pos (show hS (uI (sR h 615 8 (hR h 569 8)) g1) 615 = 4 from d13.1), a1, bV_s, if_pos (show hS (uI (sR h 615 8 (hR h 569 8)) g2) 1 = 10 from t1.td.2.1.1), show hR (uI (sR h 615 8 (hR h 569 8)) g2) 1 4 = 569 from w4, if_pos (show hS (uI (sR h 615 8 (hR h 569 8)) g2) 569 = 4 from (t1.ld (c := 12) (by decide)).1), hI_u, X2 569 (by decide) (by omega), e1, show (5 : Int32) = nI 5 from rfl, mn_n (by decide) (by omega), bI_s]
    exact b1.trans d1
  by_cases n0 : nh (g 756) = 0
  · have m0 : min 5 (nh (g 756)) = 0 := by omega
    have v0 : orR p1 (foL (tuS (leaksW (g 756) (nc (g 756)))) (fun l => fgF (gtL l) (min 5 (nh (g 756)))) (pmL (min 5 (nh (g 756)))) none) = 0 := by
      rw [m0, show pmL 0 = [[]] by decide]
      show orR p1 (some ((orC (gtL []) (leaksW (g 756) (nc (g 756))) (nh (leaksW (g 756) (nc (g 756))))).1, 0)) = 0
      rw [Cu.nh, n0]
      unfold orR
      by_cases c : p1 = 0
      · rw [if_pos c]; rfl
      · rw [if_neg c]; rfl
    rw [v0] at cw
    refine cl_v (h := h) (g := g) (fw := fun H => f_Water_order H 1 p1) (fm := fun H => f_Model_order H 755 p1) (h1 := h4) (g1 := g4) (g2 := up2 g4 755 0 0) (v := 0) cw t4 ?_ d2.th (by rw [d4]; show hN h ≤ hN h + 1170; omega) (by rw [d5]; show hZ h ≤ hZ h + 14000; omega)
    show f_Model_order_b0 (uI h4 g4) 755 p1 = _
    unfold f_Model_order_b0
    rw [if_pos (s7 _), wr_s, sI_u, N_hou t4.td.1, bI_s, e6, W.1.2.1, show (5 : Int32) = nI 5 from rfl, mn_n (by decide) (by omega), bI_s, m0, if_pos (show nI 0 = (0 : Int32) from rfl)]
  · obtain ⟨g5, s', y1, y2, y3, y4⟩ := N_ord25 (h := h4) (g := up2 g4 755 0 0) (p1 := p1) (n := min 5 (nh (g 756))) t4.td.1 W hn (by omega) (by omega) e6
    have vv : orR p1 (foL (tuS (leaksW (g 756) (nc (g 756)))) (fun l => fgF (gtL l) (min 5 (nh (g 756)))) (pmL (min 5 (nh (g 756)))) none) = if p1 = 0 then lsN s' else bsN s' := by
      rw [← y2]
      obtain ⟨s0, hs0⟩ : ∃ s0, s' = some s0 := by
        rw [y2, c1]
        exact foL_s _ _
      rw [hs0]
      rfl
    rw [vv] at cw
    refine cl_v (h := h) (g := g) (fw := fun H => f_Water_order H 1 p1) (fm := fun H => f_Model_order H 755 p1) (h1 := h4) (g1 := g4) (g2 := g5) (v := if p1 = 0 then lsN s' else bsN s') cw t4 ?_ ?_ (by rw [d4]; show hN h ≤ hN h + 1170; omega) (by rw [d5]; show hZ h ≤ hZ h + 14000; omega)
    · show f_Model_order_b0 (uI h4 g4) 755 p1 = _
      unfold f_Model_order_b0
      rw [if_pos (s7 _), wr_s, sI_u, N_hou t4.td.1, bI_s, e6, W.1.2.1, show (5 : Int32) = nI 5 from rfl, mn_n (by decide) (by omega), bI_s, if_neg (nI_ne0 (by omega) (by omega))]
      exact y1
    · exact (d2.nw (g' := g5) (by rw [y3, d3]) (fun r h1 h2 h3 h4 h5 h6 h7 => by rw [y4 r h2 h4 h6 h7, up_row h1]) (fun j hj => by rw [y4 755 (by decide) (by decide) (by decide) (by decide), up_k (by omega)])).mono (by omega)
end U51
