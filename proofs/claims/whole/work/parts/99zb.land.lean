/-! ===== land: class and reference, together ===== -/
section U77
variable {h h' : Hp} {g g' g1 g2 G : Nat → Nat → Int32} {w w' : Nat → Int32} {b : Nat → Nat} {T p q n i j k m c s r d S M A a B N K y lo hi e nn hh : Nat} {v u x : Int32} {L l : List (Nat × Nat × Nat × Nat)} {z : Nat × Nat × Nat × Nat}
theorem laD_ok : ∀ (m p : Nat) (w : Nat → Int32) (l : List (Nat × Nat × Nat × Nat)), WF M w → laD b T m (nc w) (nh w) p = .inr l → LOs w l ∧ l.length ≤ m := by
  intro m
  induction m with
  | zero => intro p w l _ h; cases h
  | succ m ih =>
    intro p w l W h
    unfold laD at h
    cases hr : ldP b T (nc w) (nh w) p with
    | inl z => rw [hr] at h; cases h
    | inr u =>
      obtain ⟨z, u⟩ := u
      rw [hr] at h
      obtain ⟨k1, k2, k3, k4⟩ := ld_ok W.2.1.1 hr
      have k4 : LOl w z := k4
      obtain ⟨W1, n1, h1, -⟩ := W.ln k4
      have h : (if cdT b T u = 3000 then Sum.inr [z] else if cdT b T u = 2059 then (match laD b T m (nnU z (nc w)) (hhU z (nh w)) (nx b T u) with
        | .inl z => .inl z
        | .inr l => .inr (z :: l)) else .inl u) = Sum.inr l := h
      by_cases c : cdT b T u = 3000
      · rw [if_pos c] at h
        cases h
        exact ⟨⟨k4, trivial⟩, by show 1 ≤ m + 1; omega⟩
      · rw [if_neg c] at h
        by_cases c2 : cdT b T u = 2059
        · rw [if_pos c2] at h
          have en : nc (lnW w z) = nnU z (nc w) := n1
          have eh : nh (lnW w z) = hhU z (nh w) := h1
          cases hl : laD b T m (nnU z (nc w)) (hhU z (nh w)) (nx b T u) with
          | inl z => rw [hl] at h; cases h
          | inr l2 =>
            rw [hl] at h
            cases h
            obtain ⟨a1, a2⟩ := ih (nx b T u) (lnW w z) l2 W1 (by rw [en, eh]; exact hl)
            exact ⟨⟨k4, a1⟩, by show l2.length + 1 ≤ m + 1; omega⟩
        · rw [if_neg c2] at h
          cases h
theorem laDT_ok (W : WF M w) (h : laDT b T (nc w) (nh w) = .inr l) : LOs w l ∧ l.length ≤ 14 := by
  unfold laDT at h
  by_cases c : cdT b T (bk b T 0) = 3000
  · rw [if_pos c] at h
    cases h
    exact ⟨trivial, Nat.zero_le _⟩
  · rw [if_neg c] at h
    exact laD_ok _ _ _ _ W h
theorem sp_land : LSp M (fun H => f_Lw_land H 1 765) (fun H => f_Model_land H 755) := by
  intro H I
  obtain ⟨h, g, rfl⟩ : ∃ h g, H = uI h g := ⟨H, hI H, rfl⟩
  have I : INV M h g := I
  obtain ⟨t, W, R, Lr, e0, e1, e2, n8, nh8, nd8⟩ := I.us
  obtain ⟨T, t1, t2, hT, t3⟩ := I.2.2.2.2.1
  have mo : MOS g := I.2.2.2.2.2.2.2
  have tl : TSl h := t.2.2.2.1
  have hn := t.1
  obtain ⟨⟨w1', wr0', wr1', -, -, wr4', -⟩, w6', -⟩ := WTR (g := g) t
  have w1 : ∀ g, hS (uI h g) 1 = 10 := fun g => w1'
  have wr0 : ∀ g, hR (uI h g) 1 0 = 2 := fun g => wr0'
  have wr1 : ∀ g, hR (uI h g) 1 1 = 6 := fun g => wr1'
  have wr4 : ∀ g, hR (uI h g) 1 4 = 569 := fun g => wr4'
  have w6 : ∀ g, hS (uI h g) 569 = 4 := fun g => w6'
  have s2 : ∀ g, hS (uI h g) 2 = 9 := fun g => t.td.2.2.1
  have s6 : ∀ g, hS (uI h g) 6 = 5 := fun g => tl.1
  have hb : ∀ k, k < T → BY (g 761 k) (bTa g k) ∧ (g 3 k) &&& (255 : Int32) = nI (bTa g k) ∧ bTa g k < 256 := fun k hk => by
    have := bT_BY (t3 k hk).2.1 (t3 k hk).2.2
    rw [(t3 k hk).1]
    exact this
  obtain ⟨v, g2, a1, a2, a3, a4⟩ := C_dread (b := bTa g) (T := T) (nn := nc (g 756)) (hh := nh (g 756)) (g := up2 (up2 (up2 g 6 7 (nI (nc (g 756)))) 6 8 (nI (nh (g 756)))) 6 2 0) t.td.2.2 tl ⟨by rw [up_r (by decide), up_r (by decide), up_r (by decide)]; exact t1, hT, fun k hk => by rw [up_row (by decide), up_row (by decide), up_row (by decide)]; exact (hb k hk).2⟩ up_eq (by rw [up_k (by decide), up_k (by decide), up_k (by decide)]; exact mo.1) (by rw [up_k (by decide), up_k (by decide), up_eq]) (by rw [up_k (by decide), up_eq]) n8 nh8
  obtain ⟨g4, e4⟩ : ∃ G, G = up2 (up2 g2 1 11 (g2 2 5)) 2 1 0 := ⟨_, rfl⟩
  have x2 : ∀ r, r ≠ 2 → r ≠ 4 → r ≠ 5 → ¬ (6 ≤ r ∧ r ≤ 10) → g2 r = g r := fun r h2 h4 h5 h6 => by rw [a3 r h2 h4 h5 h6, up_row (by omega), up_row (by omega), up_row (by omega)]
  have x4 : ∀ r, r ≠ 1 → r ≠ 2 → r ≠ 4 → r ≠ 5 → ¬ (6 ≤ r ∧ r ≤ 10) → g4 r = g r := fun r h1 h2 h4 h5 h6 => by rw [e4, up_row h2, up_row h1]; exact x2 r h2 h4 h5 h6
  have x41 : ∀ j, j ≠ 11 → g4 1 j = g 1 j := fun j hj => by rw [e4, up_row (by decide), up_k hj, x2 1 (by decide) (by decide) (by decide) (by decide)]
  have x411 : g4 1 11 = g2 2 5 := by rw [e4, up_row (by decide), up_eq]
  have x42 : g4 2 1 = 0 := by rw [e4, up_eq]
  have x4L : ∀ r, 6 ≤ r → r ≤ 10 → g4 r = g2 r := fun r h1 h2 => by rw [e4, up_row (by omega), up_row (by omega)]
  have m4 : MOS g4 := ⟨by rw [x4L 6 (by decide) (by decide), a4, up_k (by decide), up_k (by decide), up_k (by decide)]; exact mo.1, by rw [x4 11 (by decide) (by decide) (by decide) (by decide) (by decide)]; exact mo.2⟩
  have g755 : g4 755 = g 755 := x4 755 (by decide) (by decide) (by decide) (by decide) (by decide)
  have g756 : g4 756 = g 756 := x4 756 (by decide) (by decide) (by decide) (by decide) (by decide)
  have g761 : g4 761 = g 761 := x4 761 (by decide) (by decide) (by decide) (by decide) (by decide)
  have g569 : g4 569 = g 569 := x4 569 (by decide) (by decide) (by decide) (by decide) (by decide)
  have nT : ∀ r, ¬ TXR r → g4 r = g r := fun r hr => by
    have hr' : ¬ (r = 1 ∨ r = 2 ∨ (4 ≤ r ∧ r ≤ 14) ∨ r = 755 ∨ r = 756 ∨ r = 758) := hr
    exact x4 r (by omega) (by omega) (by omega) (by omega) (by omega)
  have s9 : g 569 9 = g 756 2 := R.1.2.2.2.1
  obtain ⟨tx, tx1, tx2⟩ := W.2.2.1
  -- the class so far
  have go : f_Water_land (uI h g) 1 = (if v = 0 then some (.inr 2, hA (uI h g4) 0 0 6) else if g 756 2 < (10 : Int32) then bV (f_LandText_tellTo (uI h g4) 6 569) fun h24 => if hS h24 1 = 10 then (if hS h24 (hR h24 1 4) = 4 then wr (sI h24 (hR h24 1 4) 9 ((hI h24 (hR h24 1 4) 9) + 1)) fun h28 => (if hS h28 (hR h28 1 4) = 4 then some (.inl (hI h28 (hR h28 1 4) 9), h28) else none) else none) else none else some (.inr 3, hA (uI h g4) 0 0 6)) := by
    unfold f_Water_land f_Water_land_b0 f_LandText_begin f_LandText_begin_b0
    rw [if_pos (w1 _), wr4, if_pos (w6 _), wr1, if_pos (s6 _), if_pos (s6 _), hI_u, e0, e1, wr_s, sI_u, wr_s, sI_u, wr_s, sI_u, bV_s, if_pos (w1 _), wr1, if_pos (s6 _), a1, bI_s, if_pos (w1 _), wr0, if_pos (s2 _), hI_u, wr_s, sI_u, wr0, if_pos (s2 _), wr_s, sI_u, ← e4, wr4, if_pos (w6 _), hI_u, g569, s9, wr1, if_pos (s6 _)]
  have I1 := I.grow (z1 := 0) (z2 := 0) (z3 := 6)
  have ro : ∀ r, r ≤ 765 → rs2 g4 (hN h + 1) (fun _ => 0) r = g4 r := fun r hr => rs_ne (by omega)
  -- a throw: the reference lays all back
  have thrown : ∀ (g5 : Nat → Nat → Int32), (∀ r, r ≠ 755 → r ≠ 756 → r ≠ 758 → g5 r = rs2 g4 (hN h + 1) (fun _ => 0) r) → g5 755 9 = 0 → g5 755 6 = g4 755 6 → g5 755 7 = g4 755 7 → g5 755 14 = g2 2 5 → (∀ k, k < 1454 → g5 756 k = g 756 k) → INV (M + 60) (hA h 0 0 6) g5 := by
    intro g5 b2 b3 b4 b5 b6 b7
    refine (I1.tx (g' := g5) (fun r hr => ?_) (fun j hj => ?_) ⟨?_, ?_⟩ ?_ (tap_0 ?_ b3) ?_ (fun k hk => ?_)).mono (by omega)
    · have hr' : ¬ (r = 1 ∨ r = 2 ∨ (4 ≤ r ∧ r ≤ 14) ∨ r = 755 ∨ r = 756 ∨ r = 758) := hr
      rw [b2 r (by omega) (by omega) (by omega)]
      by_cases q : r = hN h + 1
      · subst q; rw [rs_eq, rs_eq]
      · rw [rs_ne q, rs_ne q]; exact nT r hr
    · rw [b2 1 (by decide) (by decide) (by decide), ro 1 (by decide), rs_ne (by omega)]; exact x41 j hj
    · rw [b4, rs_ne (by omega), g755]
    · rw [b5, rs_ne (by omega), g755]
    · rw [b2 1 (by decide) (by decide) (by decide), ro 1 (by decide), x411, b6]
    · rw [b2 2 (by decide) (by decide) (by decide), ro 2 (by decide)]; exact x42
    · exact m4.cg (by rw [b2 6 (by decide) (by decide) (by decide), ro 6 (by decide)]) (by rw [b2 11 (by decide) (by decide) (by decide), ro 11 (by decide)])
    · rw [b7 k hk, rs_ne (by omega)]
  cases hr : laDT (bTa g) T (nc (g 756)) (nh (g 756)) with
  | inl q =>
    rw [hr] at a2
    obtain ⟨rfl, a2⟩ := a2
    rw [if_pos rfl] at go
    obtain ⟨v, g5, b1, b2, b3, b4, b5, b6⟩ := N_land (b := bTa g) (T := T) (w := g 756) (h := hA h 0 0 6) (g := rs2 g4 (hN h + 1) fun _ => 0) I1.1.td.1 (by rw [ro 755 (by decide), g755]; exact t2) hT (fun k hk => by rw [ro 761 (by decide), g761]; exact (hb k hk).1) (by rw [ro 756 (by decide), g756]) W
    rcases b6 with ⟨q', c1, c3, c4, c5⟩ | ⟨L, c1, -⟩ | ⟨L, c1, -⟩
    · rw [hr] at c1
      cases c1
      exact cl_x (h := h) (g := g) (g1 := g4) (fl := fun H => f_Lw_land H 1 765) (fm := fun H => f_Model_land H 755) t (lw_land_2 (H := uI h g) t go) (by decide) ⟨v, g5, b1, c3, thrown g5 b2 b3 (by rw [b4, ro 755 (by decide)]) (by rw [b5, ro 755 (by decide)]) (by rw [c4, a2]) c5⟩
    · rw [hr] at c1; cases c1
    · rw [hr] at c1; cases c1
  | inr L =>
    rw [hr] at a2
    obtain ⟨rfl, a2, a5⟩ := a2
    rw [List.nil_append] at a5
    obtain ⟨ok, l14⟩ := laDT_ok W hr
    rw [if_neg (by decide)] at go
    by_cases q10 : tx = 10
    · have w10 : g 756 2 = 10 := by rw [tx1, q10]; rfl
      rw [if_neg (by rw [w10]; decide)] at go
      obtain ⟨v, g5, b1, b2, b3, b4, b5, b6⟩ := N_land (b := bTa g) (T := T) (w := g 756) (h := hA h 0 0 6) (g := rs2 g4 (hN h + 1) fun _ => 0) I1.1.td.1 (by rw [ro 755 (by decide), g755]; exact t2) hT (fun k hk => by rw [ro 761 (by decide), g761]; exact (hb k hk).1) (by rw [ro 756 (by decide), g756]) W
      rcases b6 with ⟨q', c1, -⟩ | ⟨L', c1, c2, c3, c4, c5⟩ | ⟨L', c1, c2, -⟩
      · rw [hr] at c1; cases c1
      · exact cl_x (h := h) (g := g) (g1 := g4) (fl := fun H => f_Lw_land H 1 765) (fm := fun H => f_Model_land H 755) t (lw_land_3 (H := uI h g) t go) (by decide) ⟨v, g5, b1, c3, thrown g5 b2 b3 (by rw [b4, ro 755 (by decide)]) (by rw [b5, ro 755 (by decide)]) (by rw [c4, a2]) c5⟩
      · exact absurd w10 c2
    · have lt10 : g 756 2 < 10 := by rw [tx1]; exact nI_lt (b := 10) (by omega) (by decide)
      have ne10 : g 756 2 ≠ 10 := fun z => by rw [z] at lt10; exact Int32.lt_irrefl lt10
      have P4 : LND g4 L := ⟨by rw [x4L 6 (by decide) (by decide)]; exact a5.1, fun k v a b c hk => by rw [x4L 7 (by decide) (by decide), x4L 8 (by decide) (by decide), x4L 9 (by decide) (by decide), x4L 10 (by decide) (by decide)]; exact a5.2 k v a b c hk⟩
      have R4 : RLa g4 569 (g 756) := R.ex W.2.1 fun r h1 h2 _ => x4 r (by omega) (by omega) (by omega) (by omega) (by omega)
      obtain ⟨gt, d1, d2, d3⟩ := C_tell t P4 l14 R4 W ok
      obtain ⟨Wl, Lhi, L2, L3⟩ := LOs.wf W ok
      have s9t : gt 569 9 = g 756 2 := d2.1.2.2.2.1.trans L2
      have go2 : f_Water_land (uI h g) 1 = some (.inl (g 756 2 + 1), uI h (up2 gt 569 9 (g 756 2 + 1))) := by
        rw [go, if_pos lt10, d1, bV_s, if_pos (w1 _), wr4, if_pos (w6 _), hI_u, s9t, wr_s, sI_u, wr4, if_pos (w6 _), hI_u, up_eq]
      refine cl_l (h := h) (g := g) (fl := fun H => f_Lw_land H 1 765) (fm := fun H => f_Model_land H 755) (h1 := h) (g1 := up2 gt 569 9 (g 756 2 + 1)) (v := g 756 2 + 1) (lw_land (H := uI h g) (H1 := uI h (up2 gt 569 9 (g 756 2 + 1))) t t go2) t (fun h' t' => ?_) (by omega) (by omega)
      have gg : ∀ r, (r < 569 ∨ 614 < r) → up2 gt 569 9 (g 756 2 + 1) r = g4 r := fun r hr => (up_row (by omega)).trans (d3 r (by omega))
      obtain ⟨v, g5, b1, b2, b3, b4, b5, b6⟩ := N_land (b := bTa g) (T := T) (w := g 756) (h := h') (g := up2 gt 569 9 (g 756 2 + 1)) t'.td.1 (by rw [gg 755 (by decide), g755]; exact t2) hT (fun k hk => by rw [gg 761 (by decide), g761]; exact (hb k hk).1) (by rw [gg 756 (by decide), g756]) W
      rcases b6 with ⟨q', c1, -⟩ | ⟨L', c1, c2, -⟩ | ⟨L', c1, c2, rfl, c3, c4, c5, -⟩
      · rw [hr] at c1; cases c1
      · exact absurd c2 ne10
      · rw [hr] at c1
        cases c1
        refine ⟨g5, b1, c3, (INV.ld (w' := up1 (landW (g 756) L) 2 (g 756 2 + 1)) I (fun r hr hx => ?_) (fun j hj => ?_) ⟨?_, ?_⟩ ?_ (tap_0 ?_ b3) ?_ (Wl.tx2 (n := tx + 1) (by rw [tx1, nI_1]) (by omega)) ?_ c5 (fun k hk => ?_) ?_).mono (by omega)⟩
        · have hr' : ¬ (r = 1 ∨ r = 2 ∨ (4 ≤ r ∧ r ≤ 14) ∨ r = 755 ∨ r = 756 ∨ r = 758) := hr
          rw [b2 r (by omega) (by omega) (by omega), gg r (by omega)]; exact nT r hr
        · rw [b2 1 (by decide) (by decide) (by decide), gg 1 (by decide)]; exact x41 j hj
        · rw [b4, gg 755 (by decide), g755]
        · rw [b5, gg 755 (by decide), g755]
        · rw [b2 1 (by decide) (by decide) (by decide), gg 1 (by decide), x411, c4]; exact a2
        · rw [b2 2 (by decide) (by decide) (by decide), gg 2 (by decide)]; exact x42
        · exact m4.cg (by rw [b2 6 (by decide) (by decide) (by decide), gg 6 (by decide)]) (by rw [b2 11 (by decide) (by decide) (by decide), gg 11 (by decide)])
        · exact (d2.tx2 Wl.2.1).ex (Wl.tx2 (n := tx + 1) (by rw [tx1, nI_1]) (by omega)).2.1 fun r h1 h2 _ => b2 r (by omega) (by omega) (by omega)
        · rw [up1_ne (by omega)]; exact Lhi k hk
        · rw [up1_ne (by decide)]; exact L3
end U77
