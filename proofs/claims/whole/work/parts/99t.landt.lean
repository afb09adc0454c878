/-! ===== the lines of a land are told ===== -/
section U69
variable {h h' : Hp} {g g' g1 g2 G : Nat → Nat → Int32} {w w' : Nat → Int32} {b : Nat → Nat} {T p q n i j k m c s r d S M A a z B N K y : Nat} {v u x : Int32} {L l : List (Nat × Nat × Nat × Nat)}
theorem C_beginH (s3 : hS h r = 3) (r5 : hR h r 5 = r + 1) (s20 : hS h (r + 1) = 20) (l30 : hL h (r + 1) = 30) {a1 a2 a3 : Int32} : ∃ g', f_House_begin (uI h g) r a1 a2 a3 = some (uI h g') ∧ (g' r 0 = a1 ∧ g' r 1 = a2 ∧ g' r 2 = a3 ∧ g' r 3 = 0) ∧ (∀ k, k < 30 → g' (r + 1) k = 0) ∧ ∀ c, c ≠ r → c ≠ r + 1 → g' c = g c := by
  have r5' : ∀ g, hR (uI h g) r 5 = r + 1 := fun g => r5
  obtain ⟨g', z1, z2, z3⟩ := C_fill0 (g := up2 (up2 (up2 (up2 (up2 g r 0 a1) r 1 a2) r 2 a3) r 3 0) r 4 0) s20 l30
  have zr := z3 r (by omega)
  refine ⟨g', ?_, ⟨?_, ?_, ?_, ?_⟩, z2, fun c h1 h2 => (z3 c h2).trans ?_⟩
  · unfold f_House_begin f_House_begin_b0
    rw [if_pos (show hS (uI h g) r = 3 from s3), wr_s, sI_u, wr_s, sI_u, wr_s, sI_u, wr_s, sI_u, wr_s, sI_u, r5', z1, bV_s]
  · rw [zr, up_k (by decide), up_k (by decide), up_k (by decide), up_k (by decide), up_eq]
  · rw [zr, up_k (by decide), up_k (by decide), up_k (by decide), up_eq]
  · rw [zr, up_k (by decide), up_k (by decide), up_eq]
  · rw [zr, up_k (by decide), up_eq]
  · rw [up_row h1, up_row h1, up_row h1, up_row h1, up_row h1]
theorem C_addH (t : LDs h A) (R : RLa g A w) (W : WF M w) (h8 : nh w < 8) : ∃ g', f_Land_addHouse (uI h g) A (nI n) (nI c) (nI s) = some (uI h g') ∧ RLa g' A (newH w n c s) ∧ FA A g g' := by
  obtain ⟨B1, B2, B3⟩ := W.2.1
  obtain ⟨⟨s0, s1, s2, s3, s4, s5, s6, s7, s8, s9⟩, Rc, Rh, Rd, Ry⟩ := R
  have w1 := W.1.2.1
  have e1 : g A 1 = nI (nh w) := s1.trans w1
  have st : ∀ g, hS (uI h g) A = 4 := fun g => t.1
  obtain ⟨a1', a2', a3', a4', a5', a6', a7', a8'⟩ := t.hr (k := nh w) h8
  have a1 : ∀ g, hR (uI h g) A 4 = A + 2 := fun g => a1'
  have a2 : ∀ g, hS (uI h g) (A + 2) = 24 := fun g => a2'
  have a3 : ∀ g, hL (uI h g) (A + 2) = 8 := fun g => a3'
  have a4 : ∀ g, hR (uI h g) (A + 2) (nh w) = A + 22 + 2 * nh w := fun g => a4'
  have a5 : ∀ g, hS (uI h g) (A + 22 + 2 * nh w) = 3 := fun g => a5'
  obtain ⟨g', z1, ⟨k0, k1, k2, k3⟩, z3, z4⟩ := C_beginH (g := g) (a1 := nI n) (a2 := nI c) (a3 := nI s) a5' a6' a7' a8'
  have gA : g' A = g A := z4 A (by omega) (by omega)
  have fr : ∀ r, r ≠ A → r ≠ A + 22 + 2 * nh w → r ≠ A + 22 + 2 * nh w + 1 → up2 g' A 1 (nI (nh w + 1)) r = g r := fun r x y z => (up_row x).trans (z4 r y z)
  have kk : ∀ k, k ≠ 1 → up2 g' A 1 (nI (nh w + 1)) A k = g A k := fun k hk => by rw [up_k hk, gA]
  have o : ∀ j, j ≠ 1 → (j < 345 + 34 * nh w ∨ 379 + 34 * nh w ≤ j) → newH w n c s j = w j := fun j h1 h2 => nwh_o h1 (by omega)
  have n0 : nc (newH w n c s) = nc w := congrArg ix (o 0 (by decide) (by omega))
  have n2 : nd (newH w n c s) = nd w := congrArg ix (o 10 (by decide) (by omega))
  have n1 : nh (newH w n c s) = nh w + 1 := by
    show ix (newH w n c s 1) = _
    rw [nwh_1, w1, nI_1, ix_n (by omega)]
  refine ⟨up2 g' A 1 (nI (nh w + 1)), ?_, ⟨⟨?_, ?_, ?_, ?_, ?_, ?_, ?_, ?_, ?_, ?_⟩, fun c hc => ?_, fun k hk => ?_, fun d hd => ?_, fun y hy => ?_⟩, fun r hr => fr r (by omega) (by omega) (by omega)⟩
  · unfold f_Land_addHouse f_Land_addHouse_b0
    rw [if_pos (st _), hI_u, e1, if_neg (show ¬ (8 : Int32) ≤ nI (nh w) from nI_ge (b := 8) h8 (by decide)), a1, if_pos (a2 _), a3, if_pos (ib_n h8 (by decide)), ix_n (by omega), a4, if_pos (a5 _), z1, bV_s, if_pos (st _), hI_u, gA, e1, nI_1, wr_s, sI_u]
  · rw [kk 0 (by decide), o 0 (by decide) (by omega)]; exact s0
  · rw [up_eq, nwh_1, w1, nI_1]
  · rw [kk 2 (by decide), o 10 (by decide) (by omega)]; exact s2
  · rw [kk 9 (by decide), o 2 (by decide) (by omega)]; exact s3
  · rw [kk 10 (by decide), o 4 (by decide) (by omega)]; exact s4
  · rw [kk 11 (by decide), o 5 (by decide) (by omega)]; exact s5
  · rw [kk 12 (by decide), o 6 (by decide) (by omega)]; exact s6
  · rw [kk 13 (by decide), o 7 (by decide) (by omega)]; exact s7
  · rw [kk 14 (by decide), o 8 (by decide) (by omega)]; exact s8
  · rw [kk 15 (by decide), o 9 (by decide) (by omega)]; exact s9
  · rw [n0] at hc
    obtain ⟨r1, r2, r3⟩ := Rc c hc
    refine ⟨fun j hj => ?_, fun y hy => ?_, ?_⟩
    · rw [fr _ (by omega) (by omega) (by omega), o _ (by omega) (by omega)]; exact r1 j hj
    · rw [fr _ (by omega) (by omega) (by omega), o _ (by omega) (by omega)]; exact r2 y hy
    · rw [fr _ (by omega) (by omega) (by omega), r3]
      exact congrArg nI (ms_eq fun y hy => o _ (by omega) (by omega)).symm
  · rw [n1] at hk
    by_cases q : k = nh w
    · subst q
      refine ⟨fun j hj => ?_, fun y hy => ?_⟩
      · rw [up_r (by omega)]
        have : j = 0 ∨ j = 1 ∨ j = 2 ∨ j = 3 := by omega
        rcases this with rfl | rfl | rfl | rfl
        · rw [k0]; exact nwh_n.symm
        · rw [k1, show 345 + 34 * nh w + 1 = 346 + 34 * nh w from by omega]; exact nwh_c.symm
        · rw [k2, show 345 + 34 * nh w + 2 = 347 + 34 * nh w from by omega]; exact nwh_l.symm
        · rw [k3, nwh_z (by omega) (by omega)]
      · rw [up_r (by omega), z3 y hy, nwh_z (by omega) (by omega)]
    · obtain ⟨r1, r2⟩ := Rh k (by omega)
      refine ⟨fun j hj => ?_, fun y hy => ?_⟩
      · rw [fr _ (by omega) (by omega) (by omega), o _ (by omega) (by omega)]; exact r1 j hj
      · rw [fr _ (by omega) (by omega) (by omega), o _ (by omega) (by omega)]; exact r2 y hy
  · rw [n2] at hd
    intro j hj
    rw [fr _ (by omega) (by omega) (by omega), o _ (by omega) (by omega)]; exact Rd d hd j hj
  · rw [fr _ (by omega) (by omega) (by omega), o _ (by omega) (by omega)]; exact Ry y hy
/-- what a line does: its verb, and what it tells -/
def lnW (w : Nat → Int32) (z : Nat × Nat × Nat × Nat) : Nat → Int32 :=
  if z.1 = 1015 then newC w (nI z.2.1) (nI z.2.2.1) else if z.1 = 1016 then poW w z.2.2.2 z.2.2.1 z.2.1 else if z.1 = 1002 then up1 w (35 + z.2.1) (nI z.2.2.1) else if z.1 = 1019 then newH w z.2.1 z.2.2.1 z.2.2.2 else if z.1 = 1022 then lkW w z.2.1 z.2.2.2 z.2.2.1 else up1 w (67 + 35 * z.2.1) (if z.1 = 1025 then 1 else 0)
/-- a line that may be told of w -/
def LOl (w : Nat → Int32) (z : Nat × Nat × Nat × Nat) : Prop :=
  (z.1 = 1015 ∧ nc w < 8 ∧ z.2.1 ≤ 999 ∧ z.2.2.1 ≤ 3) ∨ (z.1 = 1016 ∧ z.2.1 ≤ 999 ∧ z.2.2.1 < 30 ∧ z.2.2.2 < nc w) ∨ (z.1 = 1002 ∧ z.2.1 < 30 ∧ z.2.2.1 ≤ 99) ∨ (z.1 = 1019 ∧ nh w < 8 ∧ z.2.1 ≤ 99 ∧ z.2.2.1 < nc w ∧ z.2.2.2 ≤ 99) ∨ (z.1 = 1022 ∧ z.2.1 < nc w ∧ (z.2.2.1 = 8 ∨ z.2.2.1 < nc w) ∧ z.2.2.1 ≠ z.2.1 ∧ z.2.2.2 ≤ 99) ∨ ((z.1 = 1025 ∨ z.1 = 1026) ∧ z.2.1 < nc w)
theorem WF.ln {z : Nat × Nat × Nat × Nat} (W : WF M w) (o : LOl w z) : WF M (lnW w z) ∧ nc (lnW w z) = (if z.1 = 1015 then nc w + 1 else nc w) ∧ nh (lnW w z) = (if z.1 = 1019 then nh w + 1 else nh w) ∧ (∀ k, 617 ≤ k → lnW w z k = w k) ∧ lnW w z 2 = w 2 ∧ lnW w z 3 = w 3 := by
  obtain ⟨v, a, b, c⟩ := z
  have c8 := W.2.1.1
  have k8 := W.2.1.2.1
  rcases o with ⟨rfl, o1, o2, o3⟩ | ⟨rfl, o1, o2, o3⟩ | ⟨rfl, o1, o2⟩ | ⟨rfl, o0, o1, o2, o3⟩ | ⟨rfl, o1, o2, o3, o4⟩ | ⟨o0, o1⟩
  · have e : lnW w (1015, a, b, c) = newC w (nI a) (nI b) := if_pos rfl
    rw [e]
    exact ⟨W.nwc o1 o2 o3, nw_cn W.1.1 o1, congrArg ix (nw_o (by decide) (by omega)), fun k hk => nw_o (by omega) (by omega), nw_o (by decide) (by omega), nw_o (by decide) (by omega)⟩
  · have e : lnW w (1016, a, b, c) = poW w c b a := (if_neg (by show ¬ 1016 = 1015; decide)).trans (if_pos rfl)
    have o2 : b < 30 := o2
    have o3 : c < nc w := o3
    have co : CO w (poW w c b a) := po_co (Or.inr o3) c8 o2
    rw [e]
    exact ⟨W.po (Or.inr o3) o2, co.nc, co.nh, co.hi, co 2 (by omega) (by omega) (by omega), co 3 (by omega) (by omega) (by omega)⟩
  · have e : lnW w (1002, a, b, c) = up1 w (35 + a) (nI b) := (if_neg (by show ¬ 1002 = 1015; decide)).trans ((if_neg (by show ¬ 1002 = 1016; decide)).trans (if_pos rfl))
    have o1 : a < 30 := o1
    rw [e]
    exact ⟨W.sat o1 o2, congrArg ix (up1_ne (by omega)), congrArg ix (up1_ne (by omega)), fun k hk => up1_ne (by omega), up1_ne (by omega), up1_ne (by omega)⟩
  · have e : lnW w (1019, a, b, c) = newH w a b c := (if_neg (by show ¬ 1019 = 1015; decide)).trans ((if_neg (by show ¬ 1019 = 1016; decide)).trans ((if_neg (by show ¬ 1019 = 1002; decide)).trans (if_pos rfl)))
    have o0 : nh w < 8 := o0
    rw [e]
    refine ⟨W.nwh o0 o1 o2 o3, congrArg ix (nwh_o (by decide) (by omega)), ?_, fun k hk => nwh_o (by omega) (by omega), nwh_o (by decide) (by omega), nwh_o (by decide) (by omega)⟩
    show ix (newH w a b c 1) = _
    rw [nwh_1, W.1.2.1, nI_1, ix_n (by omega)]
    rfl
  · have e : lnW w (1022, a, b, c) = lkW w a c b := (if_neg (by show ¬ 1022 = 1015; decide)).trans ((if_neg (by show ¬ 1022 = 1016; decide)).trans ((if_neg (by show ¬ 1022 = 1002; decide)).trans ((if_neg (by show ¬ 1022 = 1019; decide)).trans (if_pos rfl))))
    have o1 : a < nc w := o1
    have oo : ∀ j, j ≠ 68 + 35 * a → j ≠ 69 + 35 * a → lkW w a c b j = w j := fun j h1 h2 => (up1_ne h2).trans (up1_ne h1)
    rw [e]
    exact ⟨W.lkk o1 o4 o2 o3, congrArg ix (oo 0 (by omega) (by omega)), congrArg ix (oo 1 (by omega) (by omega)), fun k hk => oo k (by omega) (by omega), oo 2 (by omega) (by omega), oo 3 (by omega) (by omega)⟩
  · have o0 : v = 1025 ∨ v = 1026 := o0
    have o1 : a < nc w := o1
    have e : lnW w (v, a, b, c) = up1 w (67 + 35 * a) (if v = 1025 then 1 else 0) := (if_neg (by show ¬ v = 1015; omega)).trans ((if_neg (by show ¬ v = 1016; omega)).trans ((if_neg (by show ¬ v = 1002; omega)).trans ((if_neg (by show ¬ v = 1019; omega)).trans (if_neg (by show ¬ v = 1022; omega)))))
    rw [e, if_neg (show ¬ (v, a, b, c).1 = 1015 by show ¬ v = 1015; omega), if_neg (show ¬ (v, a, b, c).1 = 1019 by show ¬ v = 1019; omega)]
    refine ⟨W.sl o1 ?_, congrArg ix (up1_ne (by omega)), congrArg ix (up1_ne (by omega)), fun k hk => up1_ne (by omega), up1_ne (by omega), up1_ne (by omega)⟩
    by_cases q : v = 1025
    · rw [if_pos q]; exact Or.inr rfl
    · rw [if_neg q]; exact Or.inl rfl
/-- the second thing of a line as the class writes it -/
def twI (v b : Nat) : Int32 := if v = 1022 then tI b else nI b
/-- the lines that the class has written -/
def LND (g : Nat → Nat → Int32) (L : List (Nat × Nat × Nat × Nat)) : Prop := g 6 2 = nI L.length ∧ ∀ k v a b c, L[k]? = some (v, a, b, c) → g 7 k = nI v ∧ g 8 k = nI a ∧ (v < 1025 → g 9 k = twI v b) ∧ ((v = 1016 ∨ v = 1019 ∨ v = 1022) → g 10 k = nI c)
def landW (w : Nat → Int32) : List (Nat × Nat × Nat × Nat) → Nat → Int32
  | [] => w
  | z :: l => landW (lnW w z) l
def LOs (w : Nat → Int32) : List (Nat × Nat × Nat × Nat) → Prop
  | [] => True
  | z :: l => LOl w z ∧ LOs (lnW w z) l
theorem C_tell_L (t : TS h) (P : LND g1 L) (l14 : L.length ≤ 14) : ∀ (j i : Nat) (w : Nat → Int32) (g : Nat → Nat → Int32), i + j = L.length → (∀ r, r ≤ 14 → g r = g1 r) → RLa g 569 w → WF M w → LOs w (L.drop i) → ∀ q, ∃ g', f_LandText_tellTo_L2 (q + j + 1) (uI h g) 6 569 (nI i) = some (uI h g') ∧ RLa g' 569 (landW w (L.drop i)) ∧ FA 569 g g' := by
  have tl : TSl h := t.2.2.2.1
  have t9 := t.l9
  have s6 : ∀ g, hS (uI h g) 6 = 5 := fun g => tl.1
  have r3 : ∀ g, hR (uI h g) 6 3 = 7 := fun g => tl.2.1.2.1
  have r4 : ∀ g, hR (uI h g) 6 4 = 8 := fun g => tl.2.1.2.2.1
  have r5 : ∀ g, hR (uI h g) 6 5 = 9 := fun g => tl.2.1.2.2.2.1
  have r6 : ∀ g, hR (uI h g) 6 6 = 10 := fun g => tl.2.1.2.2.2.2
  have s7 : ∀ g, hS (uI h g) 7 = 20 := fun g => tl.2.2.1.1
  have s8 : ∀ g, hS (uI h g) 8 = 20 := fun g => tl.2.2.2.1.1
  have s9 : ∀ g, hS (uI h g) 9 = 20 := fun g => tl.2.2.2.2.1.1
  have s10 : ∀ g, hS (uI h g) 10 = 20 := fun g => tl.2.2.2.2.2.1
  have l7 : ∀ g, hL (uI h g) 7 = 14 := fun g => tl.2.2.1.2
  have l8 : ∀ g, hL (uI h g) 8 = 14 := fun g => tl.2.2.2.1.2
  have l9 : ∀ g, hL (uI h g) 9 = 14 := fun g => tl.2.2.2.2.1.2
  have l10 : ∀ g, hL (uI h g) 10 = 14 := fun g => tl.2.2.2.2.2.2
  have s4 : ∀ g, hS (uI h g) 569 = 4 := fun g => t9.1
  intro j
  induction j with
  | zero =>
    intro i w g hi hg R W O q
    have hi : i = L.length := hi
    refine ⟨g, ?_, by rw [List.drop_eq_nil_of_le (by omega)]; exact R, fun _ _ => rfl⟩
    show f_LandText_tellTo_b2 (f_LandText_tellTo_L2 q) (uI h g) 6 569 (nI i) = _
    unfold f_LandText_tellTo_b2
    rw [if_pos (s6 _), hI_u, hg 6 (by decide), P.1, if_pos (nI_le (by omega) (by omega))]
  | succ j ih =>
    intro i w g hi hg R W O q
    obtain ⟨z, hz⟩ : ∃ z, L[i]? = some z := ⟨_, List.getElem?_eq_getElem (by omega)⟩
    have hd : L.drop i = z :: L.drop (i + 1) := by
      have hi2 : i < L.length := by omega
      rw [List.drop_eq_getElem_cons hi2]
      have : L[i] = z := Option.some.inj ((List.getElem?_eq_getElem hi2).symm.trans hz)
      rw [this]
    rw [hd] at O ⊢
    obtain ⟨O1, O2⟩ := O
    have WL := (W.ln O1).1
    have B := W.2.1
    have E0 : f_LandText_tellTo_L2 (q + (j + 1) + 1) (uI h g) 6 569 (nI i) = f_LandText_tellTo_b2 (f_LandText_tellTo_L2 (q + j + 1)) (uI h g) 6 569 (nI i) := rfl
    have fin : ∀ g2, RLa g2 569 (lnW w z) → FA 569 g g2 → ∃ g', f_LandText_tellTo_b212 (f_LandText_tellTo_L2 (q + j + 1)) (uI h g2) 6 569 (nI i) = some (uI h g') ∧ RLa g' 569 (landW (lnW w z) (L.drop (i + 1))) ∧ FA 569 g g' := by
      intro g2 R2 F2
      obtain ⟨g', z1, z2, z3⟩ := ih (i + 1) (lnW w z) g2 (by omega) (fun r hr => (F2 r (by omega)).trans (hg r hr)) R2 WL O2 q
      refine ⟨g', ?_, z2, fun r hr => (z3 r hr).trans (F2 r hr)⟩
      unfold f_LandText_tellTo_b212
      rw [nI_1]
      exact z1
    obtain ⟨v, a, b, c⟩ := z
    obtain ⟨p1, p2, p3, p4⟩ := P.2 i v a b c hz
    have G7 := hg 7 (by decide)
    have G8 := hg 8 (by decide)
    have G9 := hg 9 (by decide)
    have G10 := hg 10 (by decide)
    rw [E0]
    unfold f_LandText_tellTo_b2
    rw [if_pos (s6 _), hI_u, hg 6 (by decide), P.1, if_neg (nI_ge (by omega) (by omega)), if_neg (show ¬ (14 : Int32) ≤ nI i from nI_ge (b := 14) (by omega) (by decide)), r3, if_pos (s7 _), l7, if_pos (ib_n (by omega) (by decide)), ix_n (by omega), G7, p1]
    rcases O1 with ⟨e, o1, o2, o3⟩ | ⟨e, o1, o2, o3⟩ | ⟨e, o1, o2⟩ | ⟨e, o0, o1, o2, o3⟩ | ⟨e, o1, o2, o3, o4⟩ | ⟨e | e, o1⟩
    · have e : v = 1015 := e
      subst e
      have p3 := p3 (by decide)
      obtain ⟨g2, x1, x2, x3⟩ := C_addC (v := nI a) (b := nI b) t9 R B W.1.1 o1
      have x2 : RLa g2 569 (lnW w (1015, a, b, c)) := x2
      rw [if_neg (by decide), if_pos (show nI 1015 = (1015 : Int32) from rfl), r4, if_pos (s8 _), l8, if_pos (ib_n (by omega) (by decide)), r5, if_pos (s9 _), l9, if_pos (ib_n (by omega) (by decide)), if_pos (s4 _), G8, p2, G9, p3, show twI 1015 b = nI b from rfl, x1, bV_s]
      exact fin g2 x2 x3
    · have e : v = 1016 := e
      subst e
      have p3 := p3 (by decide)
      have p4 := p4 (Or.inl rfl)
      obtain ⟨g2, x1, x2, x3⟩ := C_pour (n := a) (y := b) (c := c) t9 R W o3 o2 o1
      have x2 : RLa g2 569 (lnW w (1016, a, b, c)) := x2
      rw [if_neg (by decide), if_neg (by decide), if_pos (show nI 1016 = (1016 : Int32) from rfl), r4, if_pos (s8 _), l8, if_pos (ib_n (by omega) (by decide)), r5, if_pos (s9 _), l9, if_pos (ib_n (by omega) (by decide)), r6, if_pos (s10 _), l10, if_pos (ib_n (by omega) (by decide)), if_pos (s4 _), G8, p2, G9, p3, G10, p4, show twI 1016 b = nI b from rfl, x1, bV_s]
      exact fin g2 x2 x3
    · have e : v = 1002 := e
      subst e
      have p3 := p3 (by decide)
      obtain ⟨g2, x1, x2, x3⟩ := C_setSalt (y := a) (v := nI b) t9 R B o1
      have x2 : RLa g2 569 (lnW w (1002, a, b, c)) := x2
      rw [if_pos (show nI 1002 = (1002 : Int32) from rfl), r4, if_pos (s8 _), l8, if_pos (ib_n (by omega) (by decide)), r5, if_pos (s9 _), l9, if_pos (ib_n (by omega) (by decide)), if_pos (s4 _), G8, p2, G9, p3, show twI 1002 b = nI b from rfl, x1, bV_s]
      exact fin g2 x2 x3
    · have e : v = 1019 := e
      subst e
      have p3 := p3 (by decide)
      have p4 := p4 (Or.inr (Or.inl rfl))
      obtain ⟨g2, x1, x2, x3⟩ := C_addH (n := a) (c := b) (s := c) t9 R W o0
      have x2 : RLa g2 569 (lnW w (1019, a, b, c)) := x2
      rw [if_neg (by decide), if_neg (by decide), if_neg (by decide), if_pos (show nI 1019 = (1019 : Int32) from rfl), r4, if_pos (s8 _), l8, if_pos (ib_n (by omega) (by decide)), r5, if_pos (s9 _), l9, if_pos (ib_n (by omega) (by decide)), r6, if_pos (s10 _), l10, if_pos (ib_n (by omega) (by decide)), if_pos (s4 _), G8, p2, G9, p3, G10, p4, show twI 1019 b = nI b from rfl, x1, bV_s]
      exact fin g2 x2 x3
    · have e : v = 1022 := e
      subst e
      have p3 := p3 (by decide)
      have p4 := p4 (Or.inr (Or.inr rfl))
      obtain ⟨g2, x1, x2, x3⟩ := C_setLeak (n := c) (c := a) (d := b) t9 R W o1
      have x2 : RLa g2 569 (lnW w (1022, a, b, c)) := x2
      rw [if_neg (by decide), if_neg (by decide), if_neg (by decide), if_neg (by decide), if_pos (show nI 1022 = (1022 : Int32) from rfl), r4, if_pos (s8 _), l8, if_pos (ib_n (by omega) (by decide)), r5, if_pos (s9 _), l9, if_pos (ib_n (by omega) (by decide)), r6, if_pos (s10 _), l10, if_pos (ib_n (by omega) (by decide)), if_pos (s4 _), G8, p2, G9, p3, G10, p4, show twI 1022 b = tI b from rfl, x1, bV_s]
      exact fin g2 x2 x3
    · have e : v = 1025 := e
      subst e
      obtain ⟨g2, x1, x2, x3⟩ := C_setSealed (c := a) (v := 1) t9 R W o1 (Or.inr rfl)
      have x2 : RLa g2 569 (lnW w (1025, a, b, c)) := x2
      unfold f_LandText_tellTo_b209
      rw [if_neg (by decide), if_neg (by decide), if_neg (by decide), if_neg (by decide), if_neg (by decide), r4, if_pos (s8 _), l8, if_pos (ib_n (by omega) (by decide)), if_pos (ib_n (by omega) (by decide)), if_pos (show nI 1025 = (1025 : Int32) from rfl), G8, p2, if_pos (s4 _), x1, bV_s]
      exact fin g2 x2 x3
    · have e : v = 1026 := e
      subst e
      obtain ⟨g2, x1, x2, x3⟩ := C_setSealed (c := a) (v := 0) t9 R W o1 (Or.inl rfl)
      have x2 : RLa g2 569 (lnW w (1026, a, b, c)) := x2
      unfold f_LandText_tellTo_b209
      rw [if_neg (by decide), if_neg (by decide), if_neg (by decide), if_neg (by decide), if_neg (by decide), r4, if_pos (s8 _), l8, if_pos (ib_n (by omega) (by decide)), if_pos (ib_n (by omega) (by decide)), if_neg (by decide), G8, p2, if_pos (s4 _), x1, bV_s]
      exact fin g2 x2 x3
theorem C_tell (t : TS h) (P : LND g L) (l14 : L.length ≤ 14) (R : RLa g 569 w) (W : WF M w) (O : LOs w L) : ∃ g', f_LandText_tellTo (uI h g) 6 569 = some (uI h g') ∧ RLa g' 569 (landW w L) ∧ FA 569 g g' := by
  have := C_tell_L (g1 := g) t P l14 L.length 0 w g (by omega) (fun _ _ => rfl) R W O (999999 - L.length)
  rw [← FU_mm (by omega)] at this
  exact this
theorem LOs.wf : ∀ {L : List (Nat × Nat × Nat × Nat)} {w : Nat → Int32}, WF M w → LOs w L → WF M (landW w L) ∧ (∀ k, 617 ≤ k → landW w L k = w k) ∧ landW w L 2 = w 2 ∧ landW w L 3 = w 3
  | [], w, W, _ => ⟨W, fun _ _ => rfl, rfl, rfl⟩
  | z :: l, w, W, O => by
    obtain ⟨a1, -, -, a4, a5, a6⟩ := W.ln O.1
    obtain ⟨b1, b2, b3, b4⟩ := LOs.wf a1 O.2
    exact ⟨b1, fun k hk => (b2 k hk).trans (a4 k hk), b3.trans a5, b4.trans a6⟩
end U69
