/-! ===== order: class and reference ===== -/
section U50
variable {h h1 h0 : Hp} {g g' g1 g2 g0 : Nat → Nat → Int32} {w w' w0 u u' : Nat → Int32} {A B L S c d k n y j m q i x r z E N M M' o R V : Nat} {l : List Nat} {v a b p1 p2 p3 p4 p5 : Int32} {f p : Nat → Nat} {tu : Nat → Nat}
/-- the least, and the first of the orders that come to it -/
def foL (T F : List Nat → Nat) : List (List Nat) → Option (Nat × Nat) → Option (Nat × Nat)
  | [], s => s
  | l :: r, none => foL T F r (some (T l, F l))
  | l :: r, some s => foL T F r (if T l < s.1 then some (T l, F l) else some s)
def lsI : Option (Nat × Nat) → Int32
  | none => -1
  | some s => nI s.1
def bsI : Option (Nat × Nat) → Int32
  | none => 0
  | some s => nI s.2
def orR (p1 : Int32) (s : Option (Nat × Nat)) : Int32 := if p1 = 0 then lsI s else bsI s
theorem foL_0 {T F : List Nat → Nat} (b : Nat) : ∀ r, foL T F r (some (0, b)) = some (0, b) := by
  intro r
  induction r with
  | nil => rfl
  | cons l r ih => exact (congrArg (foL T F r) (if_neg (Nat.not_lt_zero _))).trans ih
theorem foL_s {T F : List Nat → Nat} : ∀ r s, ∃ s', foL T F r (some s) = some s' := by
  intro r
  induction r with
  | nil => intro s; exact ⟨s, rfl⟩
  | cons l r ih =>
    intro s
    show ∃ s', foL T F r (if T l < s.1 then some (T l, F l) else some s) = some s'
    by_cases c : T l < s.1
    · rw [if_pos c]; exact ih _
    · rw [if_neg c]; exact ih _
def tuS (u : Nat → Int32) (l : List Nat) : Nat := (orC (gtL l) u (nh u)).1
/-- what a row of orders is -/
def ORD (n : Nat) (l : List Nat) : Prop := l.length = n ∧ ∀ x, x ∈ l → x < n
theorem gt_in (O : ORD n l) (hi : i < n) : gtL l i < n := by
  unfold gtL
  have hl : i < l.length := by rw [O.1]; exact hi
  have e : l.getD i i = l[i] := by rw [List.getD_eq_getElem?_getD, List.getElem?_eq_getElem hl]; rfl
  rw [e]
  exact O.2 _ (List.getElem_mem hl)
theorem gt_out (O : ORD n l) (hi : n ≤ i) : gtL l i = i := by
  unfold gtL
  rw [List.getD_eq_getElem?_getD, List.getElem?_eq_none (by rw [O.1]; exact hi)]
  rfl
theorem gt_nh {nn : Nat} (O : ORD n l) (hn : n ≤ nn) (hi : i < nn) : gtL l i < nn := by
  by_cases c : i < n
  · have := gt_in O c; omega
  · rw [gt_out O (by omega)]; exact hi
theorem gt_map {q : Nat → Nat} : gtL ((List.range n).map q) i = if i < n then q i else i := by
  unfold gtL
  rw [List.getD_eq_getElem?_getD, List.getElem?_map]
  by_cases c : i < n
  · rw [if_pos c, List.getElem?_range c]; rfl
  · rw [if_neg c, List.getElem?_eq_none (by rw [List.length_range]; omega)]; rfl
/-- behind the row the turns stay -/
theorem ex_out (hi : i < n) (hj : j < n) (hk : n ≤ k) (e : p k = k) : exF p i j k = k := by
  unfold exF
  rw [if_neg (by omega), if_neg (by omega), e]
theorem rv_out (hk : n ≤ k) : ∀ (f i j : Nat) (p : Nat → Nat), j < n → p k = k → rvF f p i j k = k := by
  intro f
  induction f with
  | zero => intro i j p _ e; exact e
  | succ f ih =>
    intro i j p hj e
    unfold rvF
    by_cases c : j ≤ i
    · rw [if_pos c]; exact e
    · rw [if_neg c]
      exact ih _ _ _ (by omega) (ex_out (n := n) (by omega) hj hk e)
theorem np_out {q : Nat → Nat} (hk : n ≤ k) (e : p k = k) (z : npF n p = some q) : q k = k := by
  unfold npF at z
  by_cases c : rsF p (n - 1) = 0
  · rw [if_pos c] at z; exact absurd z (by simp)
  · rw [if_neg c] at z
    have le := rs_le (p := p) (n - 1)
    have al := abv_le (p := p) (r := rsF p (n - 1) - 1) (n - 1)
    rw [← Option.some.inj z]
    exact rv_out hk _ _ _ _ (by omega) (ex_out (n := n) (by omega) (by omega) hk e)
theorem INV.f6 (I : INV M h g) (Lr : LR h g 661 w) (x : FH h 661 g g') : INV M h g' := by
  have X : ∀ r, r ≤ 765 → (r < 661 ∨ 706 < r) → g' r = g r := fun r h1 h2 => x r (by omega) fun q => by omega
  obtain ⟨T1, e1, e2, -⟩ := I.2.2.2.2.1
  have z := x.fz Lr (by decide)
  refine ⟨I.1, ?_, I.2.2.fr (Nat.le_refl _) (fun r hr => by unfold KPT at hr; exact X r (by omega) (by omega)) (by rw [X 1 (by decide) (by omega)]) ?_ (by rw [X 755 (by decide) (by omega)]) (by rw [X 755 (by decide) (by omega)]) ?_ (Or.inl (by rw [X 2 (by decide) (by omega)])) z⟩
  · rw [X 756 (by decide) (by omega)]
    exact I.2.1.fz z fun r h1 h2 _ => X r (by omega) (by omega)
  · rw [X 1 (by decide) (by omega), X 755 (by decide) (by omega)]; exact I.2.2.2.2.2.1
  · rw [X 755 (by decide) (by omega), X 2 (by decide) (by omega), e1, e2]
theorem la14 : la 14 = 661 := rfl
/-- the rerun Land is given the trial and drinks in an order -/
theorem C_rerun (I : INV M h g) (H : HELD M h g 615 u) (hr : ∀ i, i < nh u → tu i < nh u) (R : RW g tu) : ∃ g1 g2, f_Land_copyFrom (uI h g) 661 615 = some (uI (sR h 661 8 (hR h 615 8)) g1) ∧ f_Land_drinkBy (uI (sR h 661 8 (hR h 615 8)) g1) 661 753 = some (nI (orC tu u (nh u)).1, uI (sR h 661 8 (hR h 615 8)) g2) ∧ INV M (sR h 661 8 (hR h 615 8)) g2 ∧ HELD M (sR h 661 8 (hR h 615 8)) g2 615 u ∧ ∀ r, r ≤ 765 → (r < 661 ∨ 706 < r) → g2 r = g r := by
  obtain ⟨W, R5, L5⟩ := H
  have t := I.1
  have d13 := t.ld (c := 13) (by decide)
  have d14 := t.ld (c := 14) (by decide)
  rw [la13] at d13
  rw [la14] at d14
  obtain ⟨g1, q1, q2, q3, q4⟩ := C_copy (A := 661) (B := 615) (g := g) d14 d13 (Or.inr (by decide)) (by decide) (by decide) W R5 L5
  have X1 : ∀ r, r ≤ 765 → (r < 661 ∨ 706 < r) → g1 r = g r := fun r a b => q4 r (by omega)
  have I1 : INV M (sR h 661 8 (hR h 615 8)) g1 := I.tr (c := 14) (Or.inr rfl) (I.2.2.2.2.2.2.1 13 (by decide)) (q4.fz (by decide)) (fun r h1 h2 _ _ _ _ _ _ _ _ => q4 r (by rw [la14] at h2; exact h2)) (fun j _ => by rw [q4 755 (by omega)])
  have H1 : HELD M (sR h 661 8 (hR h 615 8)) g1 615 u := HELD.r8' ⟨W, R5, L5⟩ (by decide) (by decide) (q4.fz (by decide)) fun r a b _ => X1 r (by omega) (by omega)
  have d14' := I1.1.ld (c := 14) (by decide)
  rw [la14] at d14'
  obtain ⟨s3, l3⟩ : AS (sR h 661 8 (hR h 615 8)) 753 20 8 := I1.1.td.2.1.2.2.1
  obtain ⟨g2, z1, z2⟩ := C_drB_L (A := 661) (tu := tu) d14' (by decide) (by decide) s3 l3 W hr (nh u) 0 g1 (by omega) q2 q3 (fun i hi => by rw [X1 753 (by decide) (by omega)]; exact R i hi) (999999 - nh u)
  have h8 := W.2.1.2.1
  rw [← FU_mm (by omega)] at z1
  have X2 : ∀ r, r ≤ 765 → (r < 661 ∨ 706 < r) → g2 r = g1 r := fun r a b => z2 r (by omega) fun q => by omega
  exact ⟨g1, g2, q1, z1, I1.f6 q3 z2, H1.fz (z2.fz q3 (by decide)) fun r a b _ => X2 r (by omega) (by omega), fun r a b => (X2 r a b).trans (X1 r a b)⟩
def stF (T F : List Nat → Nat) (l : List Nat) : Option (Nat × Nat) → Option (Nat × Nat)
  | none => some (T l, F l)
  | some s => if T l < s.1 then some (T l, F l) else some s
theorem fo_s {T F : List Nat → Nat} {r : List (List Nat)} {s : Option (Nat × Nat)} : foL T F (l :: r) s = foL T F r (stF T F l s) := by
  cases s <;> rfl
theorem tuS_le (W : WF M u) (O : ORD n l) (hnn : n ≤ nh u) : tuS u l < 2 ^ 20 := by
  have := (orC_wf (tu := gtL l) W (fun i hi => gt_nh O hnn hi) (nh u) (Nat.le_refl _)).2.2
  have := W.2.1.2.1
  unfold tuS
  omega
theorem ord_0 {s : Option (Nat × Nat)} (hs : ∀ s', s = some s' → s'.1 < 2 ^ 20) (e : lsI s = 0) : ∃ b, s = some (0, b) := by
  cases s with
  | none => exact absurd e (by decide)
  | some s =>
    have : s.1 = 0 := (nI_eq (b := 0) (by have := hs s rfl; omega) (by decide)).mp e
    exact ⟨s.2, by rw [← this]⟩
theorem b138_e {s : Option (Nat × Nat)} {H : Hp} : f_Water_order_b138 H p1 (lsI s) (bsI s) = some (orR p1 s, H) := by
  unfold f_Water_order_b138 orR
  by_cases c : p1 = 0
  · rw [if_pos c, if_pos c]
  · rw [if_neg c, if_neg c]
theorem C_ord_1 {K : Hp → Nat → Int32 → Int32 → Int32 → Int32 → Int32 → Option (Int32 × Hp)} {s : Option (Nat × Nat)} (hn : n ≤ 5) (hnn : n ≤ nh u) (O : ORD n l) (hi : i < 120) (hs : ∀ s', s = some s' → s'.1 < 2 ^ 20) (I : INV M h g) (H : HELD M h g 615 u) (R : RW g (gtL l)) (c0 : ¬ lsI s = 0) :
    ∃ h1 g2, f_Water_order_b59 K (uI h g) 1 p1 (nI n) (lsI s) (bsI s) (nI i) = f_Water_order_b118 K (uI h1 g2) 1 p1 (nI n) (lsI (stF (tuS u) (fun l => fgF (gtL l) n) l s)) (bsI (stF (tuS u) (fun l => fgF (gtL l) n) l s)) (nI i) ∧ INV M h1 g2 ∧ g2 756 = g 756 ∧ HELD M h1 g2 615 u ∧ RW g2 (gtL l) ∧ hN h1 = hN h ∧ hZ h1 = hZ h := by
  obtain ⟨g1, g2, q1, q2, q3, q4, q5⟩ := C_rerun (tu := gtL l) I H (fun i hi => gt_nh O hnn hi) R
  have t := I.1
  have t1 := q3.1
  obtain ⟨⟨w1, -, -, -, -, w4, w5, w6, -, w8, -⟩, -, -⟩ := WTR (g := g) t
  have w1' : ∀ g, hS (uI (sR h 661 8 (hR h 615 8)) g) 1 = 10 := fun g => (WTR (g := g) t1).1.1
  have w6' : ∀ g, hR (uI (sR h 661 8 (hR h 615 8)) g) 1 6 = 661 := fun g => (WTR (g := g) t1).1.2.2.2.2.2.2.2.1
  have w8' : ∀ g, hR (uI (sR h 661 8 (hR h 615 8)) g) 1 8 = 753 := fun g => (WTR (g := g) t1).1.2.2.2.2.2.2.2.2.2.1
  have s6 : hS (uI h g) 661 = 4 := by have := (t.ld (c := 14) (by decide)).1; rw [la14] at this; exact this
  have s6' : ∀ g, hS (uI (sR h 661 8 (hR h 615 8)) g) 661 = 4 := fun g => by have := (t1.ld (c := 14) (by decide)).1; rw [la14] at this; exact this
  obtain ⟨s3, l3⟩ : AS (sR h 661 8 (hR h 615 8)) 753 20 8 := t1.td.2.1.2.2.1
  have R2 : RW g2 (gtL l) := fun i hi => by rw [q5 753 (by decide) (by omega)]; exact R i hi
  have FI := C_fig (n := n) s3 l3 R2 (by omega)
  refine ⟨sR h 661 8 (hR h 615 8), g2, ?_, q3, q5 756 (by decide) (by omega), q4, R2, rfl, rfl⟩
  have hT := tuS_le (l := l) H.1 O hnn
  unfold f_Water_order_b59
  rw [if_neg (show ¬ (120 : Int32) ≤ nI i from nI_ge (b := 120) hi (by decide)), if_neg c0, if_pos w1, w6, if_pos s6, w5, q1, bV_s, if_pos (w1' _), w6', if_pos (s6' _), w8', q2, bI_s]
  unfold f_Water_order_b105
  rw [if_pos (w1' _), w8', FI, bI_s]
  cases s with
  | none =>
    rw [if_pos (show lsI none = -1 from rfl)]
    rfl
  | some s =>
    have hs' := hs s rfl
    have e1 : lsI (some s) = nI s.1 := rfl
    rw [e1, if_neg (fun z => nI_pos (n := s.1) (by omega) (by rw [z]; decide))]
    show (if nI s.1 ≤ nI (tuS u l) then _ else _) = f_Water_order_b118 K _ 1 p1 (nI n) (lsI (if tuS u l < s.1 then some (tuS u l, fgF (gtL l) n) else some s)) (bsI (if tuS u l < s.1 then some (tuS u l, fgF (gtL l) n) else some s)) (nI i)
    by_cases c : s.1 ≤ tuS u l
    · rw [if_pos (nI_le c (by omega)), if_neg (by omega)]
      rfl
    · rw [if_neg (nI_ge (by omega) (by omega)), if_pos (by omega)]
      rfl
theorem C_ord_L (hn : n ≤ 5) (hnn : n ≤ nh u) : ∀ (r : List (List Nat)) (l : List Nat) (s : Option (Nat × Nat)) (i : Nat) (h : Hp) (g : Nat → Nat → Int32), chk n (l :: r) = true → (∀ x, x ∈ l :: r → ORD n x) → i + (r.length + 1) ≤ 120 → (∀ s', s = some s' → s'.1 < 2 ^ 20) → INV M h g → g 756 = w → HELD M h g 615 u → RW g (gtL l) → ∀ q,
    ∃ h' g', f_Water_order_L59 (q + r.length + 1) (uI h g) 1 p1 (nI n) (lsI s) (bsI s) (nI i) = some (orR p1 (foL (tuS u) (fun l => fgF (gtL l) n) (l :: r) s), uI h' g') ∧ INV M h' g' ∧ g' 756 = w ∧ hN h' = hN h ∧ hZ h' = hZ h := by
  intro r
  induction r with
  | nil =>
    intro l s i h g ck O hi hs I e6 H R q
    have E : f_Water_order_L59 (q + 0 + 1) (uI h g) 1 p1 (nI n) (lsI s) (bsI s) (nI i) = f_Water_order_b59 (f_Water_order_L59 q) (uI h g) 1 p1 (nI n) (lsI s) (bsI s) (nI i) := rfl
    have hi' : i < 120 := by simp at hi; omega
    have O1 := O l (List.mem_cons_self ..)
    show ∃ h' g', f_Water_order_L59 (q + 0 + 1) (uI h g) 1 p1 (nI n) (lsI s) (bsI s) (nI i) = _ ∧ _
    rw [E]
    by_cases c0 : lsI s = 0
    · obtain ⟨b, rfl⟩ := ord_0 hs c0
      rw [foL_0]
      refine ⟨h, g, ?_, I, e6, rfl, rfl⟩
      unfold f_Water_order_b59
      rw [if_neg (show ¬ (120 : Int32) ≤ nI i from nI_ge (b := 120) hi' (by decide)), if_pos c0]
      exact b138_e
    · obtain ⟨h1, g2, z1, z2, z3, z4, z5, z6, z7⟩ := C_ord_1 (K := f_Water_order_L59 q) (p1 := p1) hn hnn O1 hi' hs I H R c0
      obtain ⟨s3, l3⟩ : AS h1 753 20 8 := z2.1.td.2.1.2.2.1
      have np : npF n (gtL l) = none := by
        have : (npL n l == none) = true := ck
        have e : npL n l = none := by simpa using this
        unfold npL at e
        cases z : npF n (gtL l) with
        | none => rfl
        | some q => rw [z] at e; exact absurd e (by simp)
      refine ⟨h1, g2, ?_, z2, z3.trans e6, z6, z7⟩
      rw [z1]
      unfold f_Water_order_b118
      rw [if_pos (show hS (uI h1 g2) 1 = 10 from z2.1.td.2.1.1), show hR (uI h1 g2) 1 8 = 753 from (WTR (g := g2) z2.1).1.2.2.2.2.2.2.2.2.2.1, (C_turn s3 l3 hn z5).1 np, bI_s, if_pos rfl, fo_s]
      exact b138_e
  | cons l' r ih =>
    intro l s i h g ck O hi hs I e6 H R q
    have E : f_Water_order_L59 (q + (r.length + 1) + 1) (uI h g) 1 p1 (nI n) (lsI s) (bsI s) (nI i) = f_Water_order_b59 (f_Water_order_L59 (q + r.length + 1)) (uI h g) 1 p1 (nI n) (lsI s) (bsI s) (nI i) := rfl
    have hl : (l' :: r).length = r.length + 1 := rfl
    rw [hl] at hi
    have hi' : i < 120 := by omega
    have O1 := O l (List.mem_cons_self ..)
    show ∃ h' g', f_Water_order_L59 (q + (r.length + 1) + 1) (uI h g) 1 p1 (nI n) (lsI s) (bsI s) (nI i) = _ ∧ _
    rw [E]
    by_cases c0 : lsI s = 0
    · obtain ⟨b, rfl⟩ := ord_0 hs c0
      rw [foL_0]
      refine ⟨h, g, ?_, I, e6, rfl, rfl⟩
      unfold f_Water_order_b59
      rw [if_neg (show ¬ (120 : Int32) ≤ nI i from nI_ge (b := 120) hi' (by decide)), if_pos c0]
      exact b138_e
    · obtain ⟨h1, g2, z1, z2, z3, z4, z5, z6, z7⟩ := C_ord_1 (K := f_Water_order_L59 (q + r.length + 1)) (p1 := p1) hn hnn O1 hi' hs I H R c0
      obtain ⟨s3, l3⟩ : AS h1 753 20 8 := z2.1.td.2.1.2.2.1
      have ck' : (npL n l == some l' && chk n (l' :: r)) = true := ck
      rw [Bool.and_eq_true] at ck'
      have e : npL n l = some l' := by simpa using ck'.1
      obtain ⟨p', np, el⟩ : ∃ p', npF n (gtL l) = some p' ∧ (List.range n).map p' = l' := by
        unfold npL at e
        cases z : npF n (gtL l) with
        | none => rw [z] at e; exact absurd e (by simp)
        | some q => rw [z] at e; exact ⟨q, rfl, Option.some.inj e⟩
      obtain ⟨g3, y1, y2, y3⟩ := (C_turn s3 l3 hn z5).2 p' np
      have I3 : INV M h1 g3 := z2.sc (r0 := 753) (Or.inl rfl) y3
      have H3 : HELD M h1 g3 615 u := z4.fz (fun r hr _ => y3 r (by omega)) fun r a b _ => y3 r (by omega)
      have R3 : RW g3 (gtL l') := fun k hk => by
        have : gtL l' k = p' k := by
          rw [← el, gt_map]
          by_cases c : k < n
          · rw [if_pos c]
          · rw [if_neg c, np_out (p := gtL l) (by omega) (gt_out O1 (by omega)) np]
        rw [this]; exact y2 k hk
      obtain ⟨h', g', x1, x2, x3, x4, x5⟩ := ih l' (stF (tuS u) (fun l => fgF (gtL l) n) l s) (i + 1) h1 g3 ck'.2 (fun x hx => O x (List.mem_cons_of_mem _ hx)) (by omega) (fun s' hs' => by
        cases s with
        | none => rw [← Option.some.inj hs']; exact tuS_le H.1 O1 hnn
        | some s0 =>
          have hs'' : (if tuS u l < s0.1 then some (tuS u l, fgF (gtL l) n) else some s0) = some s' := hs'
          by_cases c : tuS u l < s0.1
          · rw [if_pos c] at hs''; rw [← Option.some.inj hs'']; exact tuS_le H.1 O1 hnn
          · rw [if_neg c] at hs''; rw [← Option.some.inj hs'']; exact hs s0 rfl) I3 ((y3 756 (by decide)).trans (z3.trans e6)) H3 R3 q
      refine ⟨h', g', ?_, x2, x3, x4.trans z6, x5.trans z7⟩
      rw [z1]
      unfold f_Water_order_b118
      rw [if_pos (show hS (uI h1 g2) 1 = 10 from z2.1.td.2.1.1), show hR (uI h1 g2) 1 8 = 753 from (WTR (g := g2) z2.1).1.2.2.2.2.2.2.2.2.2.1, y1, bI_s, if_neg (by decide), fo_s, nI_1]
      exact x1
end U50
