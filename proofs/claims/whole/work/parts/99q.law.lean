/-! ===== law: class and reference ===== -/
section U66
variable {h h' : Hp} {g g' g1 g2 G : Nat → Nat → Int32} {w w' : Nat → Int32} {b : Nat → Nat} {T p q n i j k m c s r d S M A a z B : Nat} {e es x E : List (Nat × Nat)} {v y u : Int32} {L l : List (Nat × List (Nat × Nat))}
theorem nF5 : nF 5 ≤ 100 := by decide +kernel
/-- a throw behind a text that was read -/
theorem cl_x {fl fm : Hp → Option (Int32 × Hp)} {c : Int32} (t : TS h) (el : fl (uI h g) = some (c, hA (uI h g1) 0 0 6)) (hc : ¬ c = 0) (em : ∃ b g2, fm (uI (hA h 0 0 6) (rs2 g1 (hN h + 1) fun _ => 0)) = some (b, uI (hA h 0 0 6) g2) ∧ g2 755 0 = c ∧ INV (M + 60) (hA h 0 0 6) g2) :
    ∃ k H1 b H2, fl (uI h g) = some (k, H1) ∧ TS H1 ∧ fm H1 = some (b, H2) ∧ hI H2 755 0 = k ∧ (k = 0 → hJ H2 765 0 = Int32.toInt64 b) ∧ INV (M + 60) H2 (hI H2) ∧ hN H2 ≤ hN (uI h g) + 1170 ∧ hZ H2 ≤ hZ (uI h g) + 14000 := by
  obtain ⟨b, g2, e1, e2, e3⟩ := em
  rw [hA_uI] at el
  refine ⟨c, _, b, _, el, e3.1, e1, e2, fun q => absurd q hc, e3, ?_, ?_⟩
  · show hN h + 1 ≤ hN h + 1170; omega
  · show hZ h + 6 ≤ hZ h + 14000; omega
theorem sp_law : LSp M (fun H => f_Lw_law H 1 765) (fun H => f_Model_law H 755) := by
  intro H I
  obtain ⟨h, g, rfl⟩ : ∃ h g, H = uI h g := ⟨H, hI H, rfl⟩
  have I : INV M h g := I
  obtain ⟨t, W, R, Lr, e0, e1, e2, n8, nh8, nd8⟩ := I.us
  obtain ⟨T, t1, t2, hT, t3⟩ := I.2.2.2.2.1
  have mo : MOS g := I.2.2.2.2.2.2.2
  have tw : TSw h := t.2.2.2.2.1
  have hn := t.1
  obtain ⟨⟨w1', wr0', -, wr2', -, wr4', -⟩, w6, -⟩ := WTR (g := g) t
  have w1 : ∀ g, hS (uI h g) 1 = 10 := fun g => w1'
  have wr0 : ∀ g, hR (uI h g) 1 0 = 2 := fun g => wr0'
  have wr2 : ∀ g, hR (uI h g) 1 2 = 11 := fun g => wr2'
  have wr4 : ∀ g, hR (uI h g) 1 4 = 569 := fun g => wr4'
  have s2 : ∀ g, hS (uI h g) 2 = 9 := fun g => t.td.2.2.1
  have s11 : ∀ g, hS (uI h g) 11 = 7 := fun g => tw.1
  have hb : ∀ k, k < T → BY (g 761 k) (bTa g k) ∧ (g 3 k) &&& (255 : Int32) = nI (bTa g k) ∧ bTa g k < 256 := fun k hk => by
    have := bT_BY (t3 k hk).2.1 (t3 k hk).2.2
    rw [(t3 k hk).1]
    exact this
  obtain ⟨v, g2, a1, a2, a3, a4⟩ := C_lread (b := bTa g) (T := T) (g := up2 (up2 g 11 2 0) 11 6 0) t.td.2.2 tw ⟨by rw [up_r (by decide), up_r (by decide)]; exact t1, hT, fun k hk => by rw [up_row (by decide), up_row (by decide)]; exact (hb k hk).2⟩ (by rw [up_k (by decide), up_eq]) up_eq (by rw [up_k (by decide), up_k (by decide)]; exact mo.2)
  obtain ⟨g4, e4⟩ : ∃ G, G = up2 (up2 g2 1 11 (g2 2 5)) 2 1 0 := ⟨_, rfl⟩
  have x2 : ∀ r, r ≠ 2 → r ≠ 4 → r ≠ 5 → r ≠ 11 → r ≠ 12 → r ≠ 13 → r ≠ 14 → g2 r = g r := fun r h2 h4 h5 h11 h12 h13 h14 => by rw [a3 r h2 h4 h5 h11 h12 h13 h14, up_row h11, up_row h11]
  have x4 : ∀ r, r ≠ 1 → r ≠ 2 → r ≠ 4 → r ≠ 5 → r ≠ 11 → r ≠ 12 → r ≠ 13 → r ≠ 14 → g4 r = g r := fun r h1 h2 h4 h5 h11 h12 h13 h14 => by rw [e4, up_row h2, up_row h1]; exact x2 r h2 h4 h5 h11 h12 h13 h14
  have x41 : ∀ j, j ≠ 11 → g4 1 j = g 1 j := fun j hj => by rw [e4, up_row (by decide), up_k hj, x2 1 (by decide) (by decide) (by decide) (by decide) (by decide) (by decide) (by decide)]
  have x411 : g4 1 11 = g2 2 5 := by rw [e4, up_row (by decide), up_eq]
  have x42 : g4 2 1 = 0 := by rw [e4, up_eq]
  have x4L : ∀ r, 11 ≤ r → r ≤ 14 → g4 r = g2 r := fun r h1 h2 => by rw [e4, up_row (by omega), up_row (by omega)]
  have m4 : MOS g4 := ⟨by rw [x4 6 (by decide) (by decide) (by decide) (by decide) (by decide) (by decide) (by decide) (by decide)]; exact mo.1, by rw [x4L 11 (by decide) (by decide), a4, up_k (by decide), up_k (by decide)]; exact mo.2⟩
  have g755 : g4 755 = g 755 := x4 755 (by decide) (by decide) (by decide) (by decide) (by decide) (by decide) (by decide) (by decide)
  have g756 : g4 756 = g 756 := x4 756 (by decide) (by decide) (by decide) (by decide) (by decide) (by decide) (by decide) (by decide)
  have g761 : g4 761 = g 761 := x4 761 (by decide) (by decide) (by decide) (by decide) (by decide) (by decide) (by decide) (by decide)
  have nT : ∀ r, ¬ TXR r → g4 r = g r := fun r hr => by
    have hr' : ¬ (r = 1 ∨ r = 2 ∨ (4 ≤ r ∧ r ≤ 14) ∨ r = 755 ∨ r = 756 ∨ r = 758) := hr
    exact x4 r (by omega) (by omega) (by omega) (by omega) (by omega) (by omega) (by omega) (by omega)
  -- the class so far
  have go : f_Water_law (uI h g) 1 = (if v = 0 then some (.inr 2, hA (uI h g4) 0 0 6) else if hS (uI h g4) 11 = 7 then bI (f_LawText_made (uI h g4) 11) fun v20 h21 => if hS h21 569 = 4 then wr (sR h21 569 8 v20) fun h24 => if hS h24 1 = 10 then (if hS h24 (hR h24 1 4) = 4 then (if hS h24 (hR h24 (hR h24 1 4) 8) = 6 then some (.inl (hI h24 (hR h24 (hR h24 1 4) 8) 0), h24) else none) else none) else none else none else none) := by
    unfold f_Water_law f_Water_law_b0 f_LawText_begin f_LawText_begin_b0
    rw [if_pos (w1 _), wr2, if_pos (s11 _), if_pos (s11 _), wr_s, sI_u, wr_s, sI_u, bV_s, if_pos (w1 _), wr2, if_pos (s11 _), a1, bI_s, if_pos (w1 _), wr0, if_pos (s2 _), hI_u, wr_s, sI_u, wr0, if_pos (s2 _), wr_s, sI_u, ← e4, wr2, wr4]
  cases hr : laT (bTa g) T with
  | inl q =>
    rw [hr] at a2
    obtain ⟨rfl, a2⟩ := a2
    rw [if_pos rfl] at go
    have I1 := I.grow (z1 := 0) (z2 := 0) (z3 := 6)
    have ro : ∀ r, r ≤ 765 → rs2 g4 (hN h + 1) (fun _ => 0) r = g4 r := fun r hr => rs_ne (by omega)
    obtain ⟨v, g5, b1, b2, b3, b4, b5, b6⟩ := N_law (b := bTa g) (T := T) (h := hA h 0 0 6) (g := rs2 g4 (hN h + 1) fun _ => 0) I1.1.td.1 (by rw [ro 755 (by decide), g755]; exact t2) hT (fun k hk => by rw [ro 761 (by decide), g761]; exact (hb k hk).1)
    rcases b6 with ⟨q', c1, rfl, c3, c4, c5⟩ | ⟨L, c1, -⟩
    · rw [hr] at c1
      cases c1
      refine cl_x (h := h) (g := g) (g1 := g4) (fl := fun H => f_Lw_law H 1 765) (fm := fun H => f_Model_law H 755) t (lw_law_2 (H := uI h g) t go) (by decide) ⟨0, g5, b1, c3, (I1.tx (g' := g5) (fun r hr => ?_) (fun j hj => ?_) ⟨?_, ?_⟩ ?_ (tap_0 ?_ b3) ?_ (fun k hk => ?_)).mono (by omega)⟩
      · have hr' : ¬ (r = 1 ∨ r = 2 ∨ (4 ≤ r ∧ r ≤ 14) ∨ r = 755 ∨ r = 756 ∨ r = 758) := hr
        rw [b2 r (by omega) (by omega)]
        by_cases q : r = hN h + 1
        · subst q; rw [rs_eq, rs_eq]
        · rw [rs_ne q, rs_ne q]; exact nT r hr
      · rw [b2 1 (by decide) (by decide), ro 1 (by decide), rs_ne (by omega)]; exact x41 j hj
      · rw [b4, ro 755 (by decide), rs_ne (by omega), g755]
      · rw [b5, ro 755 (by decide), rs_ne (by omega), g755]
      · rw [b2 1 (by decide) (by decide), ro 1 (by decide), x411, c4]; exact a2
      · rw [b2 2 (by decide) (by decide), ro 2 (by decide)]; exact x42
      · exact m4.cg (by rw [b2 6 (by decide) (by decide), ro 6 (by decide)]) (by rw [b2 11 (by decide) (by decide), ro 11 (by decide)])
      · rw [c5 k hk, ro 756 (by decide), rs_ne (by omega), g756]
    · rw [hr] at c1; cases c1
  | inr L =>
    rw [hr] at a2
    obtain ⟨rfl, a2, a5⟩ := a2
    rw [List.nil_append] at a5
    obtain ⟨l12, ok, lT⟩ := laT_ok hr
    have l4 := laT_lt hr hT
    obtain ⟨⟨p1, p2⟩, p3, p4⟩ := a5
    rw [if_neg (by decide), if_pos (s11 _)] at go
    obtain ⟨G, d1, d2, d3, d4, d5, d6, d7, d8⟩ := C_made (g := g4) (S := (stpL L).length) (v := nI L.length) tw hn (by rw [x4L 11 (by decide) (by decide)]; exact p1) (by rw [x4L 11 (by decide) (by decide)]; exact p3) l4
    obtain ⟨hX, eX⟩ : ∃ X, X = sR (lwH h (stpL L).length) 569 8 (hN h + 1) := ⟨_, rfl⟩
    have oX : ∀ r, r ≠ 569 → r ≤ hN h → OLD h hX r := fun r h1 h2 => by rw [eX]; exact (lwH_old h2).tr (OLD.sr h1)
    have y1 : ∀ G, hS (uI (lwH h (stpL L).length) G) 569 = 4 := fun G => (lwH_old (by omega)).1.trans w6
    have y2' : hS hX 569 = 4 := by rw [eX, hS_R]; exact (lwH_old (by omega)).1.trans w6
    have y3' : hR hX 569 8 = hN h + 1 := by rw [eX, hR_R, if_pos ⟨rfl, rfl⟩]
    have y4' : hS hX (hN h + 1) = 6 := by rw [eX, hS_R]; exact lwH_new.1
    have y2 : ∀ G, hS (uI hX G) 569 = 4 := fun G => y2'
    have y3 : ∀ G, hR (uI hX G) 569 8 = hN h + 1 := fun G => y3'
    have y4 : ∀ G, hS (uI hX G) (hN h + 1) = 6 := fun G => y4'
    have y5 : ∀ G, hS (uI hX G) 1 = 10 := fun G => (oX 1 (by decide) (by omega)).1.trans (w1 g)
    have y6 : ∀ G, hR (uI hX G) 1 4 = 569 := fun G => ((oX 1 (by decide) (by omega)).2.2 4).trans (wr4 g)
    have nX : hN hX = hN h + 6 := by rw [eX, hN_R, lwH_N]
    have zX : hZ hX = hZ h + nF 5 + 12 + 12 + (stpL L).length + 9 + 32 := by rw [eX, hZ_R, lwH_Z]
    have go2 : f_Water_law (uI h g) 1 = some (.inl (nI L.length), uI hX G) := by
      rw [go, d1, bI_s, if_pos (y1 _), sR_uI, ← eX, wr_s, if_pos (y5 _), y6, if_pos (y2 _), y3, if_pos (y4 _), hI_u, d3]
    have nx := nF5
    have tn : TS hX := by
      have ss : SS h (lwH h (stpL L).length) := ⟨by rw [lwH_N]; omega, fun r hr => ⟨(lwH_old (by omega)).1, (lwH_old (by omega)).2.1, fun k _ => (lwH_old (by omega)).2.2 k⟩⟩
      rw [eX]
      exact (t.ss ss).sR8 (c := 12) (by decide)
    refine cl_l (h := h) (g := g) (fl := fun H => f_Lw_law H 1 765) (fm := fun H => f_Model_law H 755) (h1 := hX) (g1 := G) (v := nI L.length) (lw_law (H := uI h g) (H1 := uI hX G) t tn go2) tn (fun h' t' => ?_) (by omega) (by omega)
    obtain ⟨v, g5, b1, b2, b3, b4, b5, b6⟩ := N_law (b := bTa g) (T := T) (h := h') (g := G) t'.td.1 (by rw [d2 755 (by omega), g755]; exact t2) hT (fun k hk => by rw [d2 761 (by omega), g761]; exact (hb k hk).1)
    rcases b6 with ⟨q', c1, -⟩ | ⟨L', c1, rfl, c3, c4, c5, c6, c7⟩
    · rw [hr] at c1; cases c1
    · rw [hr] at c1
      cases c1
      have o5 : ∀ r, r ≠ 755 → r ≠ 756 → r ≤ hN h → g5 r = g4 r := fun r h1 h2 h3 => (b2 r h1 h2).trans (d2 r h3)
      refine ⟨g5, b1, c3, ?_⟩
      rw [eX]
      refine (INV.nl (L := L) I (fun r hr hx => ?_) (fun j hj => ?_) ⟨?_, ?_⟩ ?_ (tap_0 ?_ b3) ?_ (fun k hk h3 => ?_) c6 c7 l12 ok (by omega) ?_ ?_ (fun k v es hk => ⟨?_, ?_⟩) (fun i s n hi => ?_) (fun z i hi => ?_)).mono (by omega)
      · have hx' : ¬ (r = 1 ∨ r = 2 ∨ (4 ≤ r ∧ r ≤ 14) ∨ r = 755 ∨ r = 756 ∨ r = 758) := hx
        rw [o5 r (by omega) (by omega) hr]; exact nT r hx
      · rw [o5 1 (by decide) (by decide) (by omega)]; exact x41 j hj
      · rw [b4, d2 755 (by omega), g755]
      · rw [b5, d2 755 (by omega), g755]
      · rw [o5 1 (by decide) (by decide) (by omega), x411, c4]; exact a2
      · rw [o5 2 (by decide) (by decide) (by omega)]; exact x42
      · exact m4.cg (o5 6 (by decide) (by decide) (by omega)) (o5 11 (by decide) (by decide) (by omega))
      · rw [c5 k hk h3, d2 756 (by omega), g756]
      · rw [b2 _ (by omega) (by omega)]; exact d3
      · rw [b2 _ (by omega) (by omega)]; exact d7
      · rw [b2 _ (by omega) (by omega), d4, x4L 12 (by decide) (by decide)]; exact (p2 k v es hk).1
      · rw [b2 _ (by omega) (by omega), d5, x4L 13 (by decide) (by decide)]; exact (p2 k v es hk).2
      · have hi' : i < (stpL L).length := by
          rcases Nat.lt_or_ge i (stpL L).length with z | z
          · exact z
          · rw [List.getElem?_eq_none z] at hi; cases hi
        rw [b2 _ (by omega) (by omega), d6 i hi', x4L 14 (by decide) (by decide)]; exact p4 i s n hi
      · rw [b2 _ (by omega) (by omega)] at z ⊢
        rw [d6 i hi]
        exact d8 z i hi
end U66
