/-! ===== a law's text: the class reads it ===== -/
section U56
variable {h : Hp} {g g' g1 g2 : Nat → Nat → Int32} {b : Nat → Nat} {T p q n i j k m c s r d : Nat} {e es x E : List (Nat × Nat)} {at' : Nat → Nat ⊕ (List (Nat × Nat) × Nat)} {o : Bool} {v y : Int32} {fa : Hp → Nat → Int32 → Option (Int32 × Hp)}
/-- the steps that the class has written -/
def ST (g : Nat → Nat → Int32) (E : List (Nat × Nat)) : Prop := g 11 6 = nI E.length ∧ ∀ i s n, E[i]? = some (s, n) → g 14 i = encS (nI s) (nI n)
/-- no more than the place and the steps have changed -/
def FWt (g g' : Nat → Nat → Int32) : Prop := (∀ r, r ≠ 2 → r ≠ 11 → r ≠ 14 → g' r = g r) ∧ ∀ j, j ≠ 6 → g' 11 j = g 11 j
theorem FWt.rf : FWt g g := ⟨fun _ _ _ _ => rfl, fun _ _ => rfl⟩
theorem FWt.tr (x : FWt g g1) (y : FWt g1 g') : FWt g g' := ⟨fun r h1 h2 h3 => (y.1 r h1 h2 h3).trans (x.1 r h1 h2 h3), fun j hj => (y.2 j hj).trans (x.2 j hj)⟩
theorem FT.fw (x : FT g g') : FWt g g' := ⟨fun r h1 _ _ => x r h1, fun j _ => by rw [x 11 (by decide)]⟩
theorem ST.ft (S : ST g E) (x : FT g g') : ST g' E := ⟨by rw [x 11 (by decide)]; exact S.1, fun i s n hi => by rw [x 14 (by decide)]; exact S.2 i s n hi⟩
/-- what the class has read, or where the fault is -/
def CW (r : Nat ⊕ (List (Nat × Nat) × Nat)) (E : List (Nat × Nat)) (v : Int32) (g : Nat → Nat → Int32) (b : Nat → Nat) (T : Nat) : Prop := match r with
  | .inl q => v = 0 ∧ g 2 5 = nI q
  | .inr (e, q) => v = 1 ∧ CA g b T q ∧ ST g (E ++ e)
theorem C_emit (tw : TSw h) (A : CA g b T p) (S : ST g E) (hl : E.length < 400) (hy : y = encS (nI s) (nI n)) : ∃ g', f_LawText_emit (uI h g) 11 y = some (uI h g') ∧ CA g' b T p ∧ ST g' (E ++ [(s, n)]) ∧ FWt g g' := by
  have s11 : ∀ g, hS (uI h g) 11 = 7 := fun g => tw.1
  have r5 : ∀ g, hR (uI h g) 11 5 = 14 := fun g => tw.2.1.2.2.2
  have s14 : ∀ g, hS (uI h g) 14 = 20 := fun g => tw.2.2.2.2.1
  have l14 : ∀ g, hL (uI h g) 14 = 400 := fun g => tw.2.2.2.2.2
  refine ⟨up2 (up2 g 14 E.length y) 11 6 (nI (E.length + 1)), ?_, A.fr fun r hr => by rw [up_row (by omega), up_row (by omega)], ⟨?_, fun i s' n' hi => ?_⟩, fun r h1 h2 h3 => by rw [up_row h2, up_row h3], fun j hj => by rw [up_k hj, up_row (by decide)]⟩
  · unfold f_LawText_emit f_LawText_emit_b0
    rw [if_pos (s11 _), hI_u, S.1, if_neg (nI_pos (by omega)), r5, if_pos (s14 _), l14, if_neg (show ¬ Int32.ofNat 400 ≤ nI E.length from nI_ge (b := 400) hl (by decide)), if_pos (ib_n hl (by decide)), ix_n (by omega), wr_s, sI_u, hI_u, up_r (by decide), S.1, wr_s, sI_u, nI_1]
  · rw [up_eq, List.length_append]; rfl
  · rw [up_r (by decide)]
    by_cases q : i < E.length
    · rw [up_k (by omega)]
      rw [List.getElem?_append_left q] at hi
      exact S.2 i s' n' hi
    · by_cases q2 : i = E.length
      · subst q2
        rw [List.getElem?_append_right (Nat.le_refl _), Nat.sub_self] at hi
        cases hi
        rw [up_eq, hy]
      · rw [List.getElem?_eq_none (by rw [List.length_append]; show E.length + 1 ≤ i; omega)] at hi
        cases hi
theorem enc_pt (hc : c < 1005) : cK c = encS (nI (ptC c).1) (nI (ptC c).2) := by
  rw [cK_n (by omega)]
  unfold ptC
  by_cases e : c < 1000
  · rw [if_pos e]; rfl
  · rw [if_neg e]
    have : c - 1000 < 9 := by omega
    rw [encS_k this, show 1000 + (c - 1000) = c from by omega]
theorem CW.ap {rr : Nat ⊕ (List (Nat × Nat) × Nat)} (z : CW rr (E ++ es) v g b T) : CW (apP es rr) E v g b T := by
  cases rr with
  | inl p => exact z
  | inr u =>
    obtain ⟨e, q⟩ := u
    obtain ⟨z1, z2, z3⟩ := z
    exact ⟨z1, z2, by rw [← List.append_assoc]; exact z3⟩
theorem cK_no {x : Int32} (hn : n ≤ 5000) (hc : c < 5000) (hx : x = nI c) (e : ¬ n = c) : ¬ cK n = x := fun z => e ((cK_eq hn hc).mp (z.trans hx))
theorem cK_ys {x : Int32} (hc : c < 5000) (hx : x = nI c) (e : n = c) : cK n = x := by rw [e, cK_n (by omega), hx]
/-- a fault where p is -/
theorem C_failW (t : TSt h) (tw : TSw h) (A : CA g b T p) : ∃ g', f_Tape_fail (uI h g) (hR (uI h g) 11 0) = some (0, uI h g') ∧ CW (.inl p) E 0 g' b T ∧ FWt g g' := by
  obtain ⟨g', z1, z2, z3⟩ := C_fail t A
  exact ⟨g', by rw [show hR (uI h g) 11 0 = 2 from tw.2.1.1]; exact z1, ⟨rfl, z2⟩, z3.fw⟩
theorem C_sum_L (t : TSt h) (tw : TSw h) : ∀ (m i p : Nat) (E x : List (Nat × Nat)) (g : Nat → Nat → Int32), T < p + m → i < p → E.length + x.length < p → (i = 0 ∧ x = [] ∨ 0 < i ∧ x = [(10, 0)]) → CA g b T p → ST g E → ∀ q, ∃ v g', f_LawText_isSum_L2 (q + m + 1) (uI h g) 11 (nI i) = some (v, uI h g') ∧ CW (suP b T m x p) E v g' b T ∧ FWt g g' := by
  have s2 : ∀ g, hS (uI h g) 2 = 9 := fun g => t.1
  have s11 : ∀ g, hS (uI h g) 11 = 7 := fun g => tw.1
  have r0 : ∀ g, hR (uI h g) 11 0 = 2 := fun g => tw.2.1.1
  intro m
  induction m with
  | zero => intro i p E x g hm _ _ _ A; have := A.le; omega
  | succ m ih =>
    intro i p E x g hm hi hE hx A S q
    have pT := A.le
    have hT := A.2.1
    have cd := A.cd
    obtain ⟨gf, f1, f2, f3⟩ := C_fail t A
    have b52 : f_LawText_isSum_b52 (uI h g) 11 = some (0, uI h gf) := by
      unfold f_LawText_isSum_b52
      rw [if_pos (s11 _), r0, if_pos (s2 _), f1, bI_s, if_pos (Or.inl rfl)]
    have E0 : f_LawText_isSum_L2 (q + (m + 1) + 1) (uI h g) 11 (nI i) = f_LawText_isSum_b2 (f_LawText_isSum_L2 (q + m + 1)) (uI h g) 11 (nI i) := rfl
    rw [E0]
    by_cases c : cdT b T p < 1005
    · have hp : p < T := cd_T (b := b) (by omega)
      have n1 := nx_lt (b := b) hp
      obtain ⟨g1, a1, a2, a3, a4⟩ := C_emit tw A S (by omega) (enc_pt c)
      -- the part and what stands behind it
      have em : ∃ g2, f_LawText_isSum_b60 (f_LawText_isSum_L2 (q + m + 1)) (uI h g) 11 (nI i) (cK (cdT b T p)) = f_LawText_isSum_b76 (f_LawText_isSum_L2 (q + m + 1)) (uI h g2) 11 (nI i) ∧ CA g2 b T p ∧ ST g2 (E ++ ptC (cdT b T p) :: x) ∧ FWt g g2 := by
        rcases hx with ⟨h1, rfl⟩ | ⟨h1, rfl⟩
        · refine ⟨g1, ?_, a2, a3, a4⟩
          unfold f_LawText_isSum_b60
          rw [if_pos (s11 _), a1, bV_s, h1, if_pos (show nI 0 ≤ 0 by decide)]
        · have l1 : E.length + 1 < p := hE
          obtain ⟨g2, b1, b2, b3, b4⟩ := C_emit (s := 10) (n := 0) (y := 2043) tw a2 a3 (by rw [List.length_append]; show E.length + 1 < 400; omega) (by decide)
          refine ⟨g2, ?_, b2, ?_, a4.tr b4⟩
          · unfold f_LawText_isSum_b60
            rw [if_pos (s11 _), a1, bV_s, if_neg (nI_nle h1 (by omega)), if_pos (s11 _), b1, bV_s]
          · rw [List.append_assoc] at b3; exact b3
      obtain ⟨g2, e1, e2, e3, e4⟩ := em
      have ln : (E ++ ptC (cdT b T p) :: x).length = E.length + x.length + 1 := by rw [List.length_append]; show E.length + (x.length + 1) = _; omega
      have go : f_LawText_isSum_b2 (f_LawText_isSum_L2 (q + m + 1)) (uI h g) 11 (nI i) = f_LawText_isSum_b60 (f_LawText_isSum_L2 (q + m + 1)) (uI h g) 11 (nI i) (cK (cdT b T p)) := by
        unfold f_LawText_isSum_b2
        rw [if_neg (show ¬ (400 : Int32) ≤ nI i from nI_ge (b := 400) (by omega) (by decide)), if_pos (s11 _), r0, if_pos (s2 _), C_code t A, bI_s, cK_n (by omega), if_neg (nI_pos (by omega))]
        by_cases c9 : 999 < cdT b T p
        · unfold f_LawText_isSum_b32 f_LawText_isSum_b33
          rw [if_pos (show (999 : Int32) < _ from nI_lt (a := 999) c9 (by omega)), if_pos rfl, if_neg (show ¬ nI (cdT b T p) < (1000 : Int32) from nI_nlt (b := 1000) (by omega) (by omega)), if_pos (show nI (cdT b T p) ≤ (1004 : Int32) from nI_le (b := 1004) (by omega) (by decide))]
        · unfold f_LawText_isSum_b33
          rw [if_neg (show ¬ (999 : Int32) < _ from nI_nlt (a := 999) (by omega) (by decide)), if_neg (by decide)]
      obtain ⟨g3, d1, d2, d3⟩ := C_step t e2 hp
      have S3 := e3.ft d3
      rw [go, e1]
      have pure : suP b T (m + 1) x p = apP (ptC (cdT b T p) :: x) (if cdT b T (nx b T p) = 2043 then suP b T m [(10, 0)] (nx b T (nx b T p)) else .inr ([], nx b T p)) := if_pos c
      rw [pure]
      by_cases c2 : cdT b T (nx b T p) = 2043
      · have hp2 : nx b T p < T := cd_T (b := b) (by omega)
        have n2 := nx_lt (b := b) hp2
        obtain ⟨g4, k1, k2, k3⟩ := C_step t d2 hp2
        obtain ⟨v, g5, z1, z2, z3⟩ := ih (i + 1) (nx b T (nx b T p)) (E ++ ptC (cdT b T p) :: x) [(10, 0)] g4 (by omega) (by omega) (by rw [ln]; show E.length + x.length + 1 + 1 < _; omega) (Or.inr ⟨by omega, rfl⟩) k2 (S3.ft k3) q
        refine ⟨v, g5, ?_, ?_, e4.tr (d3.fw.tr (k3.fw.tr z3))⟩
        · unfold f_LawText_isSum_b76
          rw [if_pos (s11 _), r0, if_pos (s2 _), d1, bV_s, if_pos (s11 _), r0, if_pos (s2 _), C_is (x := 2043) t d2 (c := 2043) (by decide) rfl, bI_s, if_pos c2, if_neg (by decide), if_pos (s11 _), r0, if_pos (s2 _), k1, bV_s, nI_1]
          exact z1
        · rw [if_pos c2]
          exact z2.ap
      · refine ⟨1, g3, ?_, ?_, e4.tr d3.fw⟩
        · unfold f_LawText_isSum_b76
          rw [if_pos (s11 _), r0, if_pos (s2 _), d1, bV_s, if_pos (s11 _), r0, if_pos (s2 _), C_is (x := 2043) t d2 (c := 2043) (by decide) rfl, bI_s, if_neg c2, if_pos rfl]
        · rw [if_neg c2]
          exact ⟨rfl, d2, by rw [List.append_nil]; exact S3⟩
    · refine ⟨0, gf, ?_, ?_, f3.fw⟩
      · unfold f_LawText_isSum_b2
        rw [if_neg (show ¬ (400 : Int32) ≤ nI i from nI_ge (b := 400) (by omega) (by decide)), if_pos (s11 _), r0, if_pos (s2 _), C_code t A, bI_s]
        by_cases c5 : cdT b T p = 5000
        · have : cK (cdT b T p) = -1 := if_pos c5
          unfold f_LawText_isSum_b32 f_LawText_isSum_b33
          rw [this, if_pos (by decide), if_pos rfl, if_pos (by decide)]
          exact b52
        · unfold f_LawText_isSum_b32 f_LawText_isSum_b33
          rw [cK_n c5, if_neg (nI_pos (by omega)), if_pos (show (999 : Int32) < _ from nI_lt (a := 999) (by omega) (by omega)), if_pos rfl, if_neg (show ¬ nI (cdT b T p) < (1000 : Int32) from nI_nlt (b := 1000) (by omega) (by omega)), if_neg (show ¬ nI (cdT b T p) ≤ (1004 : Int32) from nI_ge (a := 1004) (by omega) (by omega))]
          exact b52
      · rw [show suP b T (m + 1) x p = .inl p from if_neg c]
        exact ⟨rfl, f2⟩
/-- a sum -/
theorem C_sum (t : TSt h) (tw : TSw h) (A : CA g b T p) (S : ST g E) (hE : E.length < p) : ∃ v g', f_LawText_isSum (uI h g) 11 = some (v, uI h g') ∧ CW (suP b T 401 [] p) E v g' b T ∧ FWt g g' := by
  have := C_sum_L t tw 401 0 p E [] g (by have := A.2.1; omega) (by omega) hE (Or.inl ⟨rfl, rfl⟩) A S 999598
  exact this
theorem CW.go {rr : Nat ⊕ (List (Nat × Nat) × Nat)} {f : Nat → Nat ⊕ (List (Nat × Nat) × Nat)} (z : CW rr E v g b T) : (v = 0 ∧ CW (thP rr f) E 0 g b T) ∨ (v = 1 ∧ ∃ e q, rr = .inr (e, q) ∧ CA g b T q ∧ ST g (E ++ e) ∧ thP rr f = apP e (f q)) := by
  cases rr with
  | inl p => exact Or.inl ⟨z.1, rfl, z.2⟩
  | inr u =>
    obtain ⟨e, q⟩ := u
    exact Or.inr ⟨z.1, e, q, rfl, z.2.1, z.2.2, rfl⟩
theorem C_cmp (t : TSt h) (tw : TSw h) (A : CA g b T p) (S : ST g E) (hE : E.length < p) : ∃ v g', f_LawText_isComparison (uI h g) 11 = some (v, uI h g') ∧ (v = 0 ∨ v = 1) ∧ CW (cmP b T p) E v g' b T ∧ FWt g g' := by
  have s2 : ∀ g, hS (uI h g) 2 = 9 := fun g => t.1
  have s11 : ∀ g, hS (uI h g) 11 = 7 := fun g => tw.1
  have r0 : ∀ g, hR (uI h g) 11 0 = 2 := fun g => tw.2.1.1
  obtain ⟨v1, g1, a1, a2, a3⟩ := C_sum t tw A S hE
  unfold f_LawText_isComparison f_LawText_isComparison_b0 cmP
  rw [if_pos (s11 _), a1, bI_s]
  rcases a2.go (f := fun q => if cdT b T q = 2060 then thP (suP b T 401 [] (nx b T q)) (fun r => .inr ([(11, 0)], r)) else if cdT b T q = 2062 then thP (suP b T 401 [] (nx b T q)) (fun r => .inr ([(12, 0)], r)) else .inl q) with ⟨rfl, z⟩ | ⟨rfl, e, q, er, A1, S1, ep⟩
  · exact ⟨0, g1, by rw [if_pos rfl], Or.inl rfl, z, a3⟩
  · have ok := (su_ok 401 p).1 [] (by decide) _ _ er
    have lE : (E ++ e).length < q := by rw [List.length_append]; omega
    rw [ep, if_neg (by decide), if_pos (s11 _), r0, if_pos (s2 _), C_code t A1, bI_s]
    have both : ∀ s, (s = 11 ∧ cdT b T q = 2060 ∨ s = 12 ∧ cdT b T q = 2062) → ∃ v g', f_LawText_isComparison_b39 (uI h g1) 11 (cK (cdT b T q)) = some (v, uI h g') ∧ (v = 0 ∨ v = 1) ∧ CW (apP e (thP (suP b T 401 [] (nx b T q)) (fun r => .inr ([(s, 0)], r)))) E v g' b T ∧ FWt g g' := by
      intro s hs
      have hq : q < T := cd_T (b := b) (by omega)
      have n1 := nx_lt (b := b) hq
      obtain ⟨g2, b1, b2, b3⟩ := C_step t A1 hq
      obtain ⟨v3, g3, c1, c2, c3⟩ := C_sum t tw b2 (S1.ft b3) (by omega)
      unfold f_LawText_isComparison_b39
      rw [if_pos (s11 _), r0, if_pos (s2 _), b1, bV_s, if_pos (s11 _), c1, bI_s]
      rcases c2.go (f := fun r => .inr ([(s, 0)], r)) with ⟨rfl, z⟩ | ⟨rfl, e3, q3, er3, A3, S3, ep3⟩
      · exact ⟨0, g3, by rw [if_pos rfl], Or.inl rfl, z.ap, a3.tr (b3.fw.tr c3)⟩
      · have ok3 := (su_ok 401 (nx b T q)).1 [] (by decide) _ _ er3
        have q4 := A3.2.1
        have q5 := A3.le
        obtain ⟨g4, d1, d2, d3, d4⟩ := C_emit (s := s) (n := 0) (y := cK (cdT b T q)) tw A3 S3 (by rw [List.length_append]; omega) (by
          rcases hs with ⟨rfl, hs⟩ | ⟨rfl, hs⟩
          · rw [hs]; decide
          · rw [hs]; decide)
        refine ⟨1, g4, ?_, Or.inr rfl, ?_, a3.tr (b3.fw.tr (c3.tr d4))⟩
        · rw [if_neg (by decide), if_pos (s11 _), d1, bV_s]
        · rw [ep3]
          refine CW.ap (CW.ap ?_)
          exact ⟨rfl, d2, d3⟩
    by_cases c1 : cdT b T q = 2060
    · obtain ⟨v, g', z1, z2, z3, z4⟩ := both 11 (Or.inl ⟨rfl, c1⟩)
      refine ⟨v, g', ?_, z2, ?_, z4⟩
      · rw [if_pos (by rw [c1]; decide)]
        exact z1
      · rw [if_pos c1]
        exact z3
    · by_cases c2 : cdT b T q = 2062
      · obtain ⟨v, g', z1, z2, z3, z4⟩ := both 12 (Or.inr ⟨rfl, c2⟩)
        refine ⟨v, g', ?_, z2, ?_, z4⟩
        · rw [if_neg (cK_no A1.cd (x := 2060) (c := 2060) (by decide) rfl c1), if_pos (by rw [c2]; decide)]
          exact z1
        · rw [if_neg c1, if_pos c2]
          exact z3
      · obtain ⟨g', f1, f2, f3⟩ := C_fail t A1
        refine ⟨0, g', ?_, Or.inl rfl, ?_, a3.tr f3.fw⟩
        · rw [if_neg (cK_no A1.cd (x := 2060) (c := 2060) (by decide) rfl c1), if_neg (cK_no A1.cd (x := 2062) (c := 2062) (by decide) rfl c2), if_pos (s11 _), r0, if_pos (s2 _), f1, bI_s, if_pos (Or.inl rfl)]
        · rw [if_neg c1, if_neg c2]
          exact ⟨rfl, f2⟩
end U56
