/-! ===== a law's text: its lines ===== -/
section U58
variable {h : Hp} {g g' g1 g2 : Nat → Nat → Int32} {b : Nat → Nat} {T p q n i j k m c s r d w : Nat} {e es x E : List (Nat × Nat)} {L l : List (Nat × List (Nat × Nat))} {v y : Int32}
def lwM (w : Nat) (r : Nat ⊕ (List (Nat × Nat) × Nat)) : Nat ⊕ (Nat × List (Nat × Nat) × Nat) := match r with
  | .inl z => .inl z
  | .inr (e, z) => .inr (w, e, z)
/-- behind bar (1000) or first w -/
def lwA (b : Nat → Nat) (T w q : Nat) : Nat ⊕ (Nat × List (Nat × Nat) × Nat) := if cdT b T q = 1013 then lwM w (coP b T (atP b T 6) (nx b T q)) else .inr (w, [], q)
def lwP (b : Nat → Nat) (T p : Nat) : Nat ⊕ (Nat × List (Nat × Nat) × Nat) := if cdT b T p = 1012 then lwA b T 1000 (nx b T p) else if cdT b T p = 1014 then (if cdT b T (nx b T p) < 1000 then lwA b T (cdT b T (nx b T p)) (nx b T (nx b T p)) else .inl (nx b T p)) else .inl p
/-- the lines from p on, m more at most -/
def laP (b : Nat → Nat) (T : Nat) : Nat → Nat → Nat ⊕ List (Nat × List (Nat × Nat))
  | 0, p => .inl p
  | m + 1, p => match lwP b T p with
    | .inl z => .inl z
    | .inr (w, e, q) => if cdT b T q = 3000 then .inr [(w, e)] else if cdT b T q = 2059 then (match laP b T m (nx b T q) with
      | .inl z => .inl z
      | .inr l => .inr ((w, e) :: l)) else .inl q
def laT (b : Nat → Nat) (T : Nat) : Nat ⊕ List (Nat × List (Nat × Nat)) := if cdT b T (bk b T 0) = 3000 then .inr [] else laP b T 12 (bk b T 0)
def fI (w : Nat) : Int32 := if w = 1000 then -1 else nI w
def stpL (L : List (Nat × List (Nat × Nat))) : List (Nat × Nat) := L.flatMap fun z => z.2
theorem stp_app : stpL (L ++ l) = stpL L ++ stpL l := List.flatMap_append
theorem stp_one : stpL [(w, e)] = e := List.append_nil e
theorem lwA_ok (hq : q ≤ T) : ∀ w' e z, lwA b T w q = .inr (w', e, z) → q ≤ z ∧ z ≤ T ∧ e.length + q ≤ z ∧ (tyE e [] = some [] ∨ tyE e [] = some [true]) ∧ w' = w := by
  intro w' e z h
  unfold lwA at h
  by_cases c : cdT b T q = 1013
  · have hq' : q < T := cd_T (b := b) (by omega)
    have n1 := nx_lt (b := b) hq'
    rw [if_pos c] at h
    cases hr : coP b T (atP b T 6) (nx b T q) with
    | inl u => rw [hr] at h; cases h
    | inr u =>
      obtain ⟨e2, z2⟩ := u
      rw [hr] at h
      cases h
      obtain ⟨a1, a2, a3, a4⟩ := co_ok (r := 3 + 2 * 6) (fun p ts hl => at_ok 6 p ts hl) (ts := []) (by decide) _ _ hr
      exact ⟨by omega, a2, by omega, Or.inr a4, rfl⟩
  · rw [if_neg c] at h
    cases h
    exact ⟨Nat.le_refl _, hq, by show 0 + q ≤ q; omega, Or.inl rfl, rfl⟩
theorem lw_ok : ∀ w e q, lwP b T p = .inr (w, e, q) → p < q ∧ q ≤ T ∧ e.length + p + 1 ≤ q ∧ (tyE e [] = some [] ∨ tyE e [] = some [true]) ∧ w ≤ 1000 := by
  intro w e q h
  unfold lwP at h
  by_cases c1 : cdT b T p = 1012
  · have n1 := nx_lt (b := b) (cd_T (b := b) (T := T) (p := p) (by omega))
    rw [if_pos c1] at h
    obtain ⟨a1, a2, a3, a4, a5⟩ := lwA_ok n1.2 _ _ _ h
    exact ⟨by omega, a2, by omega, a4, by omega⟩
  · rw [if_neg c1] at h
    by_cases c2 : cdT b T p = 1014
    · have n1 := nx_lt (b := b) (cd_T (b := b) (T := T) (p := p) (by omega))
      rw [if_pos c2] at h
      by_cases c3 : cdT b T (nx b T p) < 1000
      · have n2 := nx_lt (b := b) (cd_T (b := b) (T := T) (p := nx b T p) (by omega))
        rw [if_pos c3] at h
        obtain ⟨a1, a2, a3, a4, a5⟩ := lwA_ok n2.2 _ _ _ h
        exact ⟨by omega, a2, by omega, a4, by omega⟩
      · rw [if_neg c3] at h
        cases h
    · rw [if_neg c2] at h
      cases h
/-- the lines that the class has written -/
def LWp (g : Nat → Nat → Int32) (L : List (Nat × List (Nat × Nat))) : Prop := g 11 2 = nI L.length ∧ ∀ k v es, L[k]? = some (v, es) → g 12 k = fI v ∧ g 13 k = nI (stpL (L.take (k + 1))).length
def LW (g : Nat → Nat → Int32) (L : List (Nat × List (Nat × Nat))) : Prop := LWp g L ∧ ST g (stpL L)
def FLx (g g' : Nat → Nat → Int32) : Prop := (∀ r, r ≠ 2 → r ≠ 11 → r ≠ 12 → r ≠ 13 → r ≠ 14 → g' r = g r) ∧ g' 11 1 = g 11 1
theorem FLx.rf : FLx g g := ⟨fun _ _ _ _ _ _ => rfl, rfl⟩
theorem FLx.tr (x : FLx g g1) (y : FLx g1 g') : FLx g g' := ⟨fun r h1 h2 h3 h4 h5 => (y.1 r h1 h2 h3 h4 h5).trans (x.1 r h1 h2 h3 h4 h5), y.2.trans x.2⟩
theorem FWt.fl (x : FWt g g') : FLx g g' := ⟨fun r h1 h2 _ _ h5 => x.1 r h1 h2 h5, x.2 1 (by decide)⟩
theorem LWp.fw (P : LWp g L) (x : FWt g g') : LWp g' L := ⟨(x.2 2 (by decide)).trans P.1, fun k v es h => by rw [x.1 12 (by decide) (by decide) (by decide), x.1 13 (by decide) (by decide) (by decide)]; exact P.2 k v es h⟩
theorem C_l89 (tw : TSw h) (A : CA g b T q) (P : LWp g L) (S : ST g (stpL L ++ e)) (hl : L.length < 12) : ∃ g', f_LawText_isLine_b89 (uI h g) 11 (fI w) = some (1, uI h g') ∧ CA g' b T q ∧ LW g' (L ++ [(w, e)]) ∧ FLx g g' := by
  have s11 : ∀ g, hS (uI h g) 11 = 7 := fun g => tw.1
  have r3 : ∀ g, hR (uI h g) 11 3 = 12 := fun g => tw.2.1.2.1
  have r4 : ∀ g, hR (uI h g) 11 4 = 13 := fun g => tw.2.1.2.2.1
  have s12 : ∀ g, hS (uI h g) 12 = 20 := fun g => tw.2.2.1.1
  have l12 : ∀ g, hL (uI h g) 12 = 12 := fun g => tw.2.2.1.2
  have s13 : ∀ g, hS (uI h g) 13 = 20 := fun g => tw.2.2.2.1.1
  have l13 : ∀ g, hL (uI h g) 13 = 12 := fun g => tw.2.2.2.1.2
  have lE : (L ++ [(w, e)]).length = L.length + 1 := List.length_append
  refine ⟨up2 (up2 (up2 g 12 L.length (fI w)) 13 L.length (nI (stpL L ++ e).length)) 11 2 (nI (L.length + 1)), ?_, A.fr fun r hr => by rw [up_row (by omega), up_row (by omega), up_row (by omega)], ⟨⟨?_, fun k v es hk => ?_⟩, ?_, fun i s n hi => ?_⟩, fun r h1 h2 h3 h4 h5 => by rw [up_row h2, up_row h4, up_row h3], ?_⟩
  · unfold f_LawText_isLine_b89
    rw [if_pos (s11 _), hI_u, P.1, if_pos (show nI L.length < (12 : Int32) from nI_lt (b := 12) hl (by decide)), r3, if_pos (s12 _), l12, if_pos (ib_n hl (by decide)), ix_n (by omega), wr_s, sI_u, r4, if_pos (s13 _), hI_u, up_r (by decide), P.1, l13, if_pos (ib_n hl (by decide)), ix_n (by omega), up_r (by decide), S.1, wr_s, sI_u, hI_u, up_r (by decide), up_r (by decide), P.1, wr_s, sI_u, nI_1]
  · rw [up_eq, lE]
  · by_cases q : k < L.length
    · rw [List.getElem?_append_left q] at hk
      have z := P.2 k v es hk
      rw [List.take_append_of_le_length (by omega)]
      constructor
      · rw [up_r (by decide), up_r (by decide), up_k (by omega)]; exact z.1
      · rw [up_r (by decide), up_k (by omega), up_r (by decide)]; exact z.2
    · by_cases q2 : k = L.length
      · subst q2
        rw [List.getElem?_append_right (Nat.le_refl _), Nat.sub_self] at hk
        cases hk
        constructor
        · rw [up_r (by decide), up_r (by decide), up_eq]
        · rw [up_r (by decide), up_eq, List.take_of_length_le (by rw [lE]; exact Nat.le_refl _), stp_app, stp_one]
      · rw [List.getElem?_eq_none (by rw [lE]; omega)] at hk
        cases hk
  · rw [up_k (by decide), up_r (by decide), up_r (by decide), stp_app, stp_one]
    exact S.1
  · rw [up_r (by decide), up_r (by decide), up_r (by decide)]
    rw [stp_app, stp_one] at hi
    exact S.2 i s n hi
  · rw [up_k (by decide), up_r (by decide), up_r (by decide)]
/-- what the class has read of a line -/
def CLn (r : Nat ⊕ (Nat × List (Nat × Nat) × Nat)) (L : List (Nat × List (Nat × Nat))) (v : Int32) (g : Nat → Nat → Int32) (b : Nat → Nat) (T : Nat) : Prop := match r with
  | .inl q => v = 0 ∧ g 2 5 = nI q
  | .inr (w, e, q) => v = 1 ∧ CA g b T q ∧ LW g (L ++ [(w, e)])
theorem C_l59 (t : TSt h) (tw : TSw h) (A : CA g b T q) (P : LWp g L) (S : ST g (stpL L)) (hl : L.length < 12) (hE : (stpL L).length < q) : ∃ v g', f_LawText_isLine_b59 (uI h g) 11 (fI w) = some (v, uI h g') ∧ CLn (lwA b T w q) L v g' b T ∧ FLx g g' := by
  have s2 : ∀ g, hS (uI h g) 2 = 9 := fun g => t.1
  have s11 : ∀ g, hS (uI h g) 11 = 7 := fun g => tw.1
  have r0 : ∀ g, hR (uI h g) 11 0 = 2 := fun g => tw.2.1.1
  unfold f_LawText_isLine_b59 lwA
  rw [if_pos (s11 _), r0, if_pos (s2 _), C_is (x := 1013) t A (c := 1013) (by decide) rfl, bI_s]
  by_cases c : cdT b T q = 1013
  · have hq : q < T := cd_T (b := b) (by omega)
    have n1 := nx_lt (b := b) hq
    obtain ⟨g1, a1, a2, a3⟩ := C_step t A hq
    obtain ⟨v2, g2, b1, -, b2, b3⟩ := C_condition t tw (nx b T q) (stpL L) g1 a2 (S.ft a3) (by omega)
    rw [if_pos c, if_pos c, if_neg (by decide), if_pos (s11 _), r0, if_pos (s2 _), a1, bV_s, if_pos (s11 _), show (0 : Int32) = nI 0 from rfl, b1, bI_s]
    cases hr : coP b T (atP b T 6) (nx b T q) with
    | inl z =>
      rw [hr] at b2
      rw [b2.1, if_pos (show (0 : Int32) = nI 0 from rfl)]
      exact ⟨0, g2, rfl, ⟨rfl, b2.2⟩, a3.fw.fl.tr b3.fl⟩
    | inr z =>
      obtain ⟨e, z⟩ := z
      rw [hr] at b2
      obtain ⟨d1, d2, d3⟩ := b2
      rw [d1, if_neg (show ¬ (1 : Int32) = nI 0 by decide)]
      obtain ⟨g3, k1, k2, k3, k4⟩ := C_l89 (w := w) tw d2 ((P.fw a3.fw).fw b3) d3 hl
      exact ⟨1, g3, k1, ⟨rfl, k2, k3⟩, a3.fw.fl.tr (b3.fl.tr k4)⟩
  · rw [if_neg c, if_neg c, if_pos rfl]
    obtain ⟨g3, k1, k2, k3, k4⟩ := C_l89 (w := w) (e := []) tw A P (by rw [List.append_nil]; exact S) hl
    exact ⟨1, g3, k1, ⟨rfl, k2, k3⟩, k4⟩
theorem C_lline (t : TSt h) (tw : TSw h) (A : CA g b T p) (P : LW g L) (hl : L.length < 12) (hE : (stpL L).length ≤ p) : ∃ v g', f_LawText_isLine (uI h g) 11 = some (v, uI h g') ∧ CLn (lwP b T p) L v g' b T ∧ FLx g g' := by
  have s2 : ∀ g, hS (uI h g) 2 = 9 := fun g => t.1
  have s11 : ∀ g, hS (uI h g) 11 = 7 := fun g => tw.1
  have r0 : ∀ g, hR (uI h g) 11 0 = 2 := fun g => tw.2.1.1
  unfold f_LawText_isLine f_LawText_isLine_b0 lwP
  rw [if_pos (s11 _), r0, if_pos (s2 _), C_is (x := 1012) t A (c := 1012) (by decide) rfl, bI_s]
  by_cases c : cdT b T p = 1012
  · have hq : p < T := cd_T (b := b) (by omega)
    have n1 := nx_lt (b := b) hq
    obtain ⟨g1, a1, a2, a3⟩ := C_step t A hq
    obtain ⟨v, g2, b1, b2, b3⟩ := C_l59 (w := 1000) t tw a2 (P.1.fw a3.fw) (P.2.ft a3) hl (by omega)
    rw [if_pos c, if_pos c, if_neg (by decide), if_pos (s11 _), r0, if_pos (s2 _), a1, bV_s]
    exact ⟨v, g2, b1, b2, a3.fw.fl.tr b3⟩
  · rw [if_neg c, if_neg c, if_pos rfl, if_pos (s11 _), r0, if_pos (s2 _)]
    rcases C_takes (x := 1014) (c := 1014) t A (by decide) rfl with ⟨c2, hq, g1, a1, a2, a3⟩ | ⟨c2, g1, a1, a2, a3⟩
    · have n1 := nx_lt (b := b) hq
      rw [if_pos c2, a1, bI_s, if_neg (by decide), if_pos (s11 _), r0, if_pos (s2 _)]
      rcases C_number (x := 0) (y := 999) (lo := 0) (hi := 1000) t a2 (by decide) rfl (by decide) (by decide) with ⟨-, c3, hq2, g2, b1, b2, b3⟩ | ⟨c3, g2, b1, b2, b3⟩
      · have n2 := nx_lt (b := b) hq2
        have ne : ¬ nI (cdT b T (nx b T p)) = -1 := fun z => by
          have := neg_lt (n := cdT b T (nx b T p)) (by omega)
          rw [z] at this
          exact Int32.lt_irrefl this
        have ef : nI (cdT b T (nx b T p)) = fI (cdT b T (nx b T p)) := (if_neg (by omega)).symm
        obtain ⟨v, g3, d1, d2, d3⟩ := C_l59 (w := cdT b T (nx b T p)) t tw b2 ((P.1.fw a3.fw).fw b3.fw) ((P.2.ft a3).ft b3) hl (by omega)
        rw [if_pos c3, b1, bI_s, if_neg ne, ef]
        exact ⟨v, g3, d1, d2, a3.fw.fl.tr (b3.fw.fl.tr d3)⟩
      · rw [if_neg (fun z => c3 ⟨Nat.zero_le _, z⟩), b1, bI_s, if_pos rfl]
        exact ⟨0, g2, rfl, ⟨rfl, b2⟩, a3.fw.fl.tr b3.fw.fl⟩
    · rw [if_neg c2, a1, bI_s, if_pos rfl]
      exact ⟨0, g1, rfl, ⟨rfl, a2⟩, a3.fw.fl⟩
/-- what the class has read of a law -/
def CLt (r : Nat ⊕ List (Nat × List (Nat × Nat))) (L : List (Nat × List (Nat × Nat))) (v : Int32) (g : Nat → Nat → Int32) : Prop := match r with
  | .inl q => v = 0 ∧ g 2 5 = nI q
  | .inr l => v = 1 ∧ g 2 5 = -1 ∧ LW g (L ++ l)
theorem C_lread_L (t : TSt h) (tw : TSw h) : ∀ (m p : Nat) (L : List (Nat × List (Nat × Nat))) (g : Nat → Nat → Int32), L.length + m = 12 → (stpL L).length ≤ p → CA g b T p → LW g L → g 11 1 = 12 → ∀ q, ∃ v g', f_Lines_isRead_6_L24 (q + m + 1) (uI h g) 11 (nI L.length) = some (v, uI h g') ∧ CLt (laP b T m p) L v g' ∧ FLx g g' := by
  have s2 : ∀ g, hS (uI h g) 2 = 9 := fun g => t.1
  have s11 : ∀ g, hS (uI h g) 11 = 7 := fun g => tw.1
  have r0 : ∀ g, hR (uI h g) 11 0 = 2 := fun g => tw.2.1.1
  intro m
  induction m with
  | zero =>
    intro p L g hm hE A P g1 q
    obtain ⟨g', f1, f2, f3⟩ := C_fail t A
    refine ⟨0, g', ?_, ⟨rfl, f2⟩, f3.fw.fl⟩
    show f_Lines_isRead_6_b24 (f_Lines_isRead_6_L24 q) (uI h g) 11 (nI L.length) = _
    unfold f_Lines_isRead_6_b24
    rw [if_pos (s11 _), hI_u, g1, if_pos (show (12 : Int32) ≤ nI L.length from nI_le (a := 12) (by omega) (by omega)), r0, if_pos (s2 _), f1, bI_s, if_pos (Or.inl rfl)]
  | succ m ih =>
    intro p L g hm hE A P g1 q
    obtain ⟨v1, g2, a1, a2, a3⟩ := C_lline t tw A P (by omega) hE
    have E0 : f_Lines_isRead_6_L24 (q + (m + 1) + 1) (uI h g) 11 (nI L.length) = f_Lines_isRead_6_b24 (f_Lines_isRead_6_L24 (q + m + 1)) (uI h g) 11 (nI L.length) := rfl
    rw [E0]
    unfold f_Lines_isRead_6_b24 laP
    rw [if_pos (s11 _), hI_u, g1, if_neg (show ¬ (12 : Int32) ≤ nI L.length from nI_ge (b := 12) (by omega) (by decide)), a1, bI_s]
    cases hr : lwP b T p with
    | inl z =>
      rw [hr] at a2
      rw [a2.1, if_pos rfl]
      exact ⟨0, g2, rfl, ⟨rfl, a2.2⟩, a3⟩
    | inr u =>
      obtain ⟨w, e, u⟩ := u
      rw [hr] at a2
      obtain ⟨d1, d2, d3⟩ := a2
      obtain ⟨k1, k2, k3, k4, k5⟩ := lw_ok _ _ _ hr
      rw [d1, if_neg (by decide), if_pos (s11 _), r0, if_pos (s2 _), C_is (x := 3000) t d2 (c := 3000) (by decide) rfl, bI_s]
      show ∃ v g', _ ∧ CLt (if cdT b T u = 3000 then .inr [(w, e)] else if cdT b T u = 2059 then (match laP b T m (nx b T u) with
        | .inl z => .inl z
        | .inr l => .inr ((w, e) :: l)) else .inl u) L v g' ∧ FLx g g'
      by_cases c : cdT b T u = 3000
      · rw [if_pos c, if_pos c, if_neg (by decide)]
        exact ⟨1, g2, rfl, ⟨rfl, d2.2.2.1, d3⟩, a3⟩
      · rw [if_neg c, if_neg c, if_pos rfl, if_pos (s11 _), r0, if_pos (s2 _)]
        rcases C_takes (x := 2059) (c := 2059) t d2 (by decide) rfl with ⟨c2, hq, g3, b1, b2, b3⟩ | ⟨c2, g3, b1, b2, b3⟩
        · have n1 := nx_lt (b := b) hq
          have lE : (L ++ [(w, e)]).length = L.length + 1 := List.length_append
          obtain ⟨v, g4, z1, z2, z3⟩ := ih (nx b T u) (L ++ [(w, e)]) g3 (by omega) (by rw [stp_app, stp_one, List.length_append]; omega) b2 ⟨d3.1.fw b3.fw, d3.2.ft b3⟩ (by rw [b3 11 (by decide), a3.2]; exact g1) q
          rw [if_pos c2, b1, bI_s, if_neg (by decide), nI_1, ← lE]
          refine ⟨v, g4, z1, ?_, a3.tr (b3.fw.fl.tr z3)⟩
          cases hl : laP b T m (nx b T u) with
          | inl z => rw [hl] at z2; exact z2
          | inr l =>
            rw [hl] at z2
            refine ⟨z2.1, z2.2.1, ?_⟩
            have := z2.2.2
            rw [List.append_assoc] at this
            exact this
        · rw [if_neg c2, b1, bI_s, if_pos rfl]
          exact ⟨0, g3, rfl, ⟨rfl, b2⟩, a3.tr b3.fw.fl⟩
/-- the class reads a law -/
theorem C_lread (t : TSt h) (tw : TSw h) (B : BC g b T) (e2 : g 11 2 = 0) (e6 : g 11 6 = 0) (e1 : g 11 1 = 12) : ∃ v g', f_Lines_isRead_6 (uI h g) 11 = some (v, uI h g') ∧ CLt (laT b T) [] v g' ∧ (∀ r, r ≠ 2 → r ≠ 4 → r ≠ 5 → r ≠ 11 → r ≠ 12 → r ≠ 13 → r ≠ 14 → g' r = g r) ∧ g' 11 1 = g 11 1 := by
  have s2 : ∀ g, hS (uI h g) 2 = 9 := fun g => t.1
  have s11 : ∀ g, hS (uI h g) 11 = 7 := fun g => tw.1
  have r0 : ∀ g, hR (uI h g) 11 0 = 2 := fun g => tw.2.1.1
  obtain ⟨g1, a1, a2, a3⟩ := C_cut t B
  have r11 := a3 11 (by decide) (by decide) (by decide)
  have P : LW g1 [] := ⟨⟨by rw [r11]; exact e2, fun k v es hk => by cases hk⟩, by rw [r11]; exact e6, fun i s n hi => by cases hi⟩
  unfold f_Lines_isRead_6 f_Lines_isRead_6_b0 laT
  rw [if_pos (s11 _), r0, if_pos (s2 _), a1, bV_s, if_pos (s11 _), r0, if_pos (s2 _), C_is (x := 3000) t a2 (c := 3000) (by decide) rfl, bI_s]
  by_cases c : cdT b T (bk b T 0) = 3000
  · rw [if_pos c, if_pos c, if_neg (by decide)]
    exact ⟨1, g1, rfl, ⟨rfl, a2.2.2.1, P⟩, fun r h2 h4 h5 _ _ _ _ => a3 r h2 h4 h5, by rw [r11]⟩
  · rw [if_neg c, if_neg c, if_pos rfl]
    obtain ⟨v, g2, z1, z2, z3⟩ := C_lread_L t tw 12 (bk b T 0) [] g1 rfl (Nat.zero_le _) a2 P (by rw [r11]; exact e1) 999987
    exact ⟨v, g2, z1, z2, fun r h2 h4 h5 h11 h12 h13 h14 => (z3.1 r h2 h11 h12 h13 h14).trans (a3 r h2 h4 h5), z3.2.trans (by rw [r11])⟩
end U58
