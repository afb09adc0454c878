/-! ===== a law's text: conditions of the class ===== -/
section U57
variable {h : Hp} {g g' g1 g2 : Nat → Nat → Int32} {b : Nat → Nat} {T p q n i j k m c s r d : Nat} {e es x E : List (Nat × Nat)} {at' : Nat → Nat ⊕ (List (Nat × Nat) × Nat)} {o : Bool} {v y : Int32} {fa fc : Hp → Nat → Int32 → Option (Int32 × Hp)}
theorem ap_nil {rr : Nat ⊕ (List (Nat × Nat) × Nat)} : apP [] rr = rr := by
  cases rr with
  | inl p => rfl
  | inr u => rfl
def ooI (o : Bool) : Int32 := if o = true then 1 else 0
/-- what an atom of the class does -/
def HAT (h : Hp) (b : Nat → Nat) (T d : Nat) (fa : Hp → Nat → Int32 → Option (Int32 × Hp)) (at' : Nat → Nat ⊕ (List (Nat × Nat) × Nat)) : Prop := ∀ p E g, CA g b T p → ST g E → E.length < p → ∃ v g', fa (uI h g) 11 (nI d) = some (v, uI h g') ∧ (v = 0 ∨ v = 1) ∧ CW (at' p) E v g' b T ∧ FWt g g'
theorem C_cond_L (t : TSt h) (tw : TSw h) (Hat : HAT h b T d fa at') (hok : ∀ p e q, at' p = .inr (e, q) → p < q ∧ e.length + p ≤ q) : ∀ (m i p : Nat) (E x : List (Nat × Nat)) (g : Nat → Nat → Int32) (j : Int32) (o : Bool), T < p + m → i < p → (j = 1010 ∧ x = [(14, 0)] ∨ j ≠ 1010 ∧ x = []) → E.length + x.length + (if o = true then 1 else 0) < p → CA g b T p → ST g E → ∀ q, ∃ v g', f_LawText_isCondition_L7 fa (q + m + 1) (uI h g) 11 (nI d) j (ooI o) (nI i) = some (v, uI h g') ∧ (v = 0 ∨ v = 1) ∧ CW (thP (at' p) fun u => apP x (kcP b T at' m o u)) E v g' b T ∧ FWt g g' := by
  have s2 : ∀ g, hS (uI h g) 2 = 9 := fun g => t.1
  have s11 : ∀ g, hS (uI h g) 11 = 7 := fun g => tw.1
  have r0 : ∀ g, hR (uI h g) 11 0 = 2 := fun g => tw.2.1.1
  intro m
  induction m with
  | zero => intro i p E x g j o hm _ _ _ A; have := A.le; omega
  | succ m ih =>
    intro i p E x g j o hm hi hj hE A S q
    have pT := A.le
    have hT := A.2.1
    -- behind the atom
    have behind : ∀ (u : Nat) (E : List (Nat × Nat)) (g : Nat → Nat → Int32), p < u → E.length + (if o = true then 1 else 0) < u → CA g b T u → ST g E → ∃ v g', f_LawText_isCondition_b39 fa (f_LawText_isCondition_L7 fa (q + m + 1)) (uI h g) 11 (nI d) (ooI o) (nI i) = some (v, uI h g') ∧ (v = 0 ∨ v = 1) ∧ CW (kcP b T at' (m + 1) o u) E v g' b T ∧ FWt g g' := by
      intro u E g hu hE A S
      have uT := A.le
      by_cases c1 : cdT b T u = 1010
      · have hq : u < T := cd_T (b := b) (by omega)
        have n1 := nx_lt (b := b) hq
        obtain ⟨g2, b1, b2, b3⟩ := C_step t A hq
        obtain ⟨v, g3, z1, z2, z3, z4⟩ := ih (i + 1) (nx b T u) E [(14, 0)] g2 1010 o (by omega) (by omega) (Or.inl ⟨rfl, rfl⟩) (by show E.length + 1 + _ < _; omega) b2 (S.ft b3) q
        refine ⟨v, g3, ?_, z2, ?_, b3.fw.tr z4⟩
        · unfold f_LawText_isCondition_b39 f_LawText_isCondition_b65 f_LawText_isCondition_b81 f_LawText_isCondition_b94
          rw [if_pos (s11 _), r0, if_pos (s2 _), C_code t A, bI_s, cK_ys (x := 1010) (c := 1010) (by decide) rfl c1, if_pos rfl, if_pos rfl, if_neg (by decide), if_pos (s11 _), r0, if_pos (s2 _), b1, bV_s, nI_1, Int32.or_zero]
          exact z1
        · rw [show kcP b T at' (m + 1) o u = thP (at' (nx b T u)) (fun q => apP [(14, 0)] (kcP b T at' m o q)) from if_pos c1]
          exact z3
      · have em : ∃ g2, f_LawText_isCondition_b39 fa (f_LawText_isCondition_L7 fa (q + m + 1)) (uI h g) 11 (nI d) (ooI o) (nI i) = f_LawText_isCondition_b65 fa (f_LawText_isCondition_L7 fa (q + m + 1)) (uI h g2) 11 (nI d) (cK (cdT b T u)) (ooI o) (nI i) ∧ CA g2 b T u ∧ ST g2 (E ++ if o = true then [(15, 0)] else []) ∧ FWt g g2 := by
          by_cases co : o = true
          · rw [if_pos co] at hE
            obtain ⟨g2, b1, b2, b3, b4⟩ := C_emit (s := 15) (n := 0) (y := 1011) tw A S (by omega) (by decide)
            refine ⟨g2, ?_, b2, by rw [if_pos co]; exact b3, b4⟩
            unfold f_LawText_isCondition_b39 ooI
            rw [if_pos (s11 _), r0, if_pos (s2 _), C_code t A, bI_s, if_neg (cK_no A.cd (x := 1010) (c := 1010) (by decide) rfl c1), if_pos co, if_neg (by decide), if_pos (s11 _), b1, bV_s]
          · refine ⟨g, ?_, A, by rw [if_neg co, List.append_nil]; exact S, FWt.rf⟩
            unfold f_LawText_isCondition_b39 ooI
            rw [if_pos (s11 _), r0, if_pos (s2 _), C_code t A, bI_s, if_neg (cK_no A.cd (x := 1010) (c := 1010) (by decide) rfl c1), if_neg co, if_pos rfl]
        obtain ⟨g2, e1, e2, e3, e4⟩ := em
        have pure : kcP b T at' (m + 1) o u = apP (if o = true then [(15, 0)] else []) (if cdT b T u = 1011 then thP (at' (nx b T u)) (fun q => kcP b T at' m true q) else .inr ([], u)) := if_neg c1
        rw [e1, pure]
        by_cases c2 : cdT b T u = 1011
        · have hq : u < T := cd_T (b := b) (by omega)
          have n1 := nx_lt (b := b) hq
          obtain ⟨g3, b1, b2, b3⟩ := C_step t e2 hq
          have ln : (E ++ if o = true then [(15, 0)] else []).length = E.length + (if o = true then 1 else 0) := by
            rw [List.length_append]
            by_cases co : o = true
            · rw [if_pos co, if_pos co]; rfl
            · rw [if_neg co, if_neg co]; rfl
          obtain ⟨v, g4, z1, z2, z3, z4⟩ := ih (i + 1) (nx b T u) _ [] g3 1011 true (by omega) (by omega) (Or.inr ⟨by decide, rfl⟩) (by rw [ln]; show E.length + _ + 0 + 1 < _; omega) b2 (e3.ft b3) q
          refine ⟨v, g4, ?_, z2, ?_, e4.tr (b3.fw.tr z4)⟩
          · unfold f_LawText_isCondition_b65 f_LawText_isCondition_b81 f_LawText_isCondition_b94
            rw [cK_ys (x := 1011) (c := 1011) (by decide) rfl c2, if_neg (by decide), if_pos rfl, if_pos rfl, if_pos (s11 _), r0, if_pos (s2 _), b1, bV_s, nI_1, show ooI o ||| 1 = ooI true from by cases o <;> decide]
            exact z1
          · rw [if_pos c2]
            have : (fun u => apP [] (kcP b T at' m true u)) = fun q => kcP b T at' m true q := funext fun u => ap_nil
            rw [this] at z3
            exact z3.ap
        · refine ⟨1, g2, ?_, Or.inr rfl, ?_, e4⟩
          · unfold f_LawText_isCondition_b65
            rw [if_neg (cK_no A.cd (x := 1010) (c := 1010) (by decide) rfl c1), if_neg (cK_no A.cd (x := 1011) (c := 1011) (by decide) rfl c2)]
          · rw [if_neg c2]
            refine CW.ap ⟨rfl, e2, ?_⟩
            rw [List.append_nil]
            exact e3
    obtain ⟨v1, g1, a1, a0, a2, a3⟩ := Hat p E g A S (by omega)
    have E0 : f_LawText_isCondition_L7 fa (q + (m + 1) + 1) (uI h g) 11 (nI d) j (ooI o) (nI i) = f_LawText_isCondition_b7 fa (f_LawText_isCondition_L7 fa (q + m + 1)) (uI h g) 11 (nI d) j (ooI o) (nI i) := rfl
    rw [E0]
    unfold f_LawText_isCondition_b7
    rw [if_neg (show ¬ (400 : Int32) ≤ nI i from nI_ge (b := 400) (by omega) (by decide)), if_pos (s11 _), a1, bI_s]
    rcases a2.go (f := fun u => apP x (kcP b T at' (m + 1) o u)) with ⟨rfl, z⟩ | ⟨rfl, e, u, er, A1, S1, ep⟩
    · exact ⟨0, g1, by rw [if_pos rfl], Or.inl rfl, z, a3⟩
    · have ok := hok _ _ _ er
      have lE : (E ++ e).length + p ≤ E.length + u := by rw [List.length_append]; omega
      have uT := A1.le
      rw [ep, if_neg (by decide)]
      rcases hj with ⟨rfl, rfl⟩ | ⟨hj, rfl⟩
      · have hE : E.length + 1 + (if o = true then 1 else 0) < p := hE
        obtain ⟨g2, b1, b2, b3, b4⟩ := C_emit (s := 14) (n := 0) (y := 1010) tw A1 S1 (by omega) (by decide)
        obtain ⟨v, g3, z1, z2, z3, z4⟩ := behind u (E ++ e ++ [(14, 0)]) g2 ok.1 (by rw [List.length_append]; show (E ++ e).length + 1 + _ < u; omega) b2 b3
        refine ⟨v, g3, ?_, z2, (CW.ap (CW.ap z3)), a3.tr (b4.tr z4)⟩
        rw [if_pos rfl, if_pos (s11 _), b1, bV_s]
        exact z1
      · have hE : E.length + 0 + (if o = true then 1 else 0) < p := hE
        obtain ⟨v, g3, z1, z2, z3, z4⟩ := behind u (E ++ e) g1 ok.1 (by omega) A1 S1
        refine ⟨v, g3, ?_, z2, ?_, a3.tr z4⟩
        · rw [if_neg hj]
          exact z1
        · show CW (apP e (apP [] (kcP b T at' (m + 1) o u))) E v g3 b T
          rw [ap_nil]
          exact CW.ap z3
theorem C_cond (t : TSt h) (tw : TSw h) (Hat : HAT h b T d fa at') (hok : ∀ p e q, at' p = .inr (e, q) → p < q ∧ e.length + p ≤ q) : HAT h b T d (f_LawText_isCondition_B fa) (coP b T at') := by
  intro p E g A S hE
  obtain ⟨v, g', z1, z2, z3, z4⟩ := C_cond_L t tw Hat hok 401 0 p E [] g (-1) false (by have := A.2.1; omega) (by omega) (Or.inr ⟨by decide, rfl⟩) hE A S 999598
  refine ⟨v, g', z1, z2, ?_, z4⟩
  have : (fun u => apP [] (kcP b T at' 401 false u)) = fun q => kcP b T at' 401 false q := funext fun u => ap_nil
  rw [this] at z3
  exact z3
theorem at_pr {r : Nat} (hr : r ≤ 6) : ∀ p e q, atP b T r p = .inr (e, q) → p < q ∧ e.length + p ≤ q := fun p e q h => by
  obtain ⟨a1, a2, a3, a4⟩ := at_ok r p [] (by show 0 + _ ≤ 32; omega) e q h
  exact ⟨a1, a3⟩
theorem co_pr {r : Nat} (hr : r ≤ 6) : ∀ p e q, coP b T (atP b T r) p = .inr (e, q) → p < q ∧ e.length + p ≤ q := fun p e q h => by
  obtain ⟨a1, a2, a3, a4⟩ := co_ok (r := 3 + 2 * r) (fun p ts hl => at_ok r p ts hl) (ts := []) (by show 0 + _ + 2 ≤ 32; omega) e q h
  exact ⟨a1, a3⟩
theorem C_atom0 (t : TSt h) (tw : TSw h) (A : CA g b T p) (S : ST g E) (hE : E.length < p) (c1 : ¬ (1005 ≤ cdT b T p ∧ cdT b T p ≤ 1008)) (c2 : ¬ cdT b T p = 2040) (c3 : ¬ cdT b T p = 1009) : ∃ v g', f_LawText_isAtom_B fc fa (uI h g) 11 (nI d) = some (v, uI h g') ∧ (v = 0 ∨ v = 1) ∧ CW (cmP b T p) E v g' b T ∧ FWt g g' := by
  have s2 : ∀ g, hS (uI h g) 2 = 9 := fun g => t.1
  have s11 : ∀ g, hS (uI h g) 11 = 7 := fun g => tw.1
  have r0 : ∀ g, hR (uI h g) 11 0 = 2 := fun g => tw.2.1.1
  have hd := A.cd
  obtain ⟨v, g', z1, z2, z3, z4⟩ := C_cmp t tw A S hE
  refine ⟨v, g', ?_, z2, z3, z4⟩
  have k36 : f_LawText_isAtom_b36 fc fa (uI h g) 11 (nI d) (cK (cdT b T p)) = some (v, uI h g') := by
    unfold f_LawText_isAtom_b36
    rw [if_neg (cK_no hd (x := 1009) (c := 1009) (by decide) rfl c3), if_neg (cK_no hd (x := 2040) (c := 2040) (by decide) rfl c2), if_pos (s11 _), z1, bI_s, if_pos z2]
  unfold f_LawText_isAtom_B f_LawText_isAtom_b0
  rw [if_pos (s11 _), r0, if_pos (s2 _), C_code t A, bI_s]
  by_cases a : cK (cdT b T p) < 1005
  · rw [if_pos a]; exact k36
  · rw [if_neg a]
    have b' := fun z => a ((cK_lt hd (c := 1005) (by decide)).mpr z)
    have b1 : cdT b T p ≠ 5000 := fun z => b' (Or.inl z)
    have b2 : ¬ cdT b T p < 1005 := fun z => b' (Or.inr z)
    rw [if_pos (show (1008 : Int32) < cK (cdT b T p) by rw [cK_n b1]; exact nI_lt (a := 1008) (by omega) (by omega))]
    exact k36
theorem C_atom_tag (t : TSt h) (tw : TSw h) (A : CA g b T p) (S : ST g E) (hE : E.length < p) (c1 : 1005 ≤ cdT b T p ∧ cdT b T p ≤ 1008) : ∃ g', f_LawText_isAtom_B fc fa (uI h g) 11 (nI d) = some (1, uI h g') ∧ CW (.inr ([(cdT b T p - 1000, 0)], nx b T p)) E 1 g' b T ∧ FWt g g' := by
  have s2 : ∀ g, hS (uI h g) 2 = 9 := fun g => t.1
  have s11 : ∀ g, hS (uI h g) 11 = 7 := fun g => tw.1
  have r0 : ∀ g, hR (uI h g) 11 0 = 2 := fun g => tw.2.1.1
  have hp : p < T := cd_T (b := b) (by omega)
  have hT := A.2.1
  obtain ⟨g1, a1, a2, a3, a4⟩ := C_emit (s := cdT b T p - 1000) (n := 0) (y := nI (cdT b T p)) tw A S (by omega) (by
    rw [encS_k (by omega), show 1000 + (cdT b T p - 1000) = cdT b T p from by omega])
  obtain ⟨g2, b1, b2, b3⟩ := C_step t a2 hp
  refine ⟨g2, ?_, ⟨rfl, b2, a3.ft b3⟩, a4.tr b3.fw⟩
  unfold f_LawText_isAtom_B f_LawText_isAtom_b0
  rw [if_pos (s11 _), r0, if_pos (s2 _), C_code t A, bI_s, cK_n (by omega), if_neg (show ¬ nI (cdT b T p) < 1005 from nI_nlt (b := 1005) (by omega) (by omega)), if_neg (show ¬ (1008 : Int32) < nI (cdT b T p) from nI_nlt (a := 1008) (by omega) (by omega)), if_pos (s11 _), a1, bV_s, if_pos (s11 _), r0, if_pos (s2 _), b1, bV_s]
/-- ( or not -/
theorem C_atom_55 (t : TSt h) (tw : TSw h) (A : CA g b T p) (c1 : cdT b T p = 2040 ∨ cdT b T p = 1009) : f_LawText_isAtom_B fc fa (uI h g) 11 (nI d) = f_LawText_isAtom_b55 fc fa (uI h g) 11 (nI d) (nI (cdT b T p)) := by
  have s2 : ∀ g, hS (uI h g) 2 = 9 := fun g => t.1
  have s11 : ∀ g, hS (uI h g) 11 = 7 := fun g => tw.1
  have r0 : ∀ g, hR (uI h g) 11 0 = 2 := fun g => tw.2.1.1
  unfold f_LawText_isAtom_B f_LawText_isAtom_b0 f_LawText_isAtom_b36
  rw [if_pos (s11 _), r0, if_pos (s2 _), C_code t A, bI_s]
  rcases c1 with c1 | c1
  · rw [cK_n (by omega), c1, if_neg (by decide), if_pos (by decide), if_neg (by decide), if_pos (by decide)]
  · rw [cK_n (by omega), c1, if_neg (by decide), if_pos (by decide), if_pos (by decide)]
theorem lawG (n : Nat) : f_LawText_G (n + 1) = (f_LawText_isCondition_B (f_LawText_G n).2, f_LawText_isAtom_B (f_LawText_G n).1 (f_LawText_G n).2) := rfl
theorem lawG1 (n : Nat) : (f_LawText_G (n + 1)).1 = f_LawText_isCondition_B (f_LawText_G n).2 := by rw [lawG]
theorem lawG2 (n : Nat) : (f_LawText_G (n + 1)).2 = f_LawText_isAtom_B (f_LawText_G n).1 (f_LawText_G n).2 := by rw [lawG]
theorem C_atom : ∀ (r : Nat), r ≤ 6 → ∀ n, 2 * r + 1 ≤ n → TSt h → TSw h → HAT h b T (6 - r) (f_LawText_G n).2 (atP b T r) := by
  intro r
  induction r with
  | zero =>
    intro _ n hn t tw p E g A S hE
    have s2 : ∀ g, hS (uI h g) 2 = 9 := fun g => t.1
    have s11 : ∀ g, hS (uI h g) 11 = 7 := fun g => tw.1
    have r0 : ∀ g, hR (uI h g) 11 0 = 2 := fun g => tw.2.1.1
    obtain ⟨n, rfl⟩ : ∃ k, n = k + 1 := ⟨n - 1, by omega⟩
    have G : (f_LawText_G (n + 1)).2 = f_LawText_isAtom_B (f_LawText_G n).1 (f_LawText_G n).2 := lawG2 n
    rw [G]
    obtain ⟨gf, f1, f2, f3⟩ := C_fail t A
    have deep : cdT b T p = 2040 ∨ cdT b T p = 1009 → f_LawText_isAtom_B (f_LawText_G n).1 (f_LawText_G n).2 (uI h g) 11 (nI 6) = some (0, uI h gf) := by
      intro c
      rw [C_atom_55 t tw A c]
      unfold f_LawText_isAtom_b55
      rw [if_neg (by decide), if_pos (s11 _), r0, if_pos (s2 _), f1, bI_s, if_pos (Or.inl rfl)]
    by_cases c1 : 1005 ≤ cdT b T p ∧ cdT b T p ≤ 1008
    · obtain ⟨g', z1, z2, z3⟩ := C_atom_tag (d := 6) (fa := (f_LawText_G n).2) (fc := (f_LawText_G n).1) t tw A S hE c1
      refine ⟨1, g', z1, Or.inr rfl, ?_, z3⟩
      rw [show atP b T 0 p = .inr ([(cdT b T p - 1000, 0)], nx b T p) from if_pos c1]
      exact z2
    · by_cases c2 : cdT b T p = 2040
      · refine ⟨0, gf, deep (Or.inl c2), Or.inl rfl, ?_, f3.fw⟩
        rw [show atP b T 0 p = .inl p from (if_neg c1).trans (if_pos c2)]
        exact ⟨rfl, f2⟩
      · by_cases c3 : cdT b T p = 1009
        · refine ⟨0, gf, deep (Or.inr c3), Or.inl rfl, ?_, f3.fw⟩
          rw [show atP b T 0 p = .inl p from (if_neg c1).trans ((if_neg c2).trans (if_pos c3))]
          exact ⟨rfl, f2⟩
        · rw [show atP b T 0 p = cmP b T p from (if_neg c1).trans ((if_neg c2).trans (if_neg c3))]
          exact C_atom0 t tw A S hE c1 c2 c3
  | succ r ih =>
    intro hr n hn t tw p E g A S hE
    have s2 : ∀ g, hS (uI h g) 2 = 9 := fun g => t.1
    have s11 : ∀ g, hS (uI h g) 11 = 7 := fun g => tw.1
    have r0 : ∀ g, hR (uI h g) 11 0 = 2 := fun g => tw.2.1.1
    obtain ⟨n, rfl⟩ : ∃ k, n = k + 2 := ⟨n - 2, by omega⟩
    have G : (f_LawText_G (n + 2)).2 = f_LawText_isAtom_B (f_LawText_G (n + 1)).1 (f_LawText_G (n + 1)).2 := lawG2 (n + 1)
    have G1 : (f_LawText_G (n + 1)).1 = f_LawText_isCondition_B (f_LawText_G n).2 := lawG1 n
    rw [G]
    have d1 : nI (6 - (r + 1)) + (1 : Int32) = nI (6 - r) := by rw [nI_1, show 6 - (r + 1) + 1 = 6 - r from by omega]
    have lt6 : nI (6 - (r + 1)) < (6 : Int32) := nI_lt (b := 6) (by omega) (by decide)
    by_cases c1 : 1005 ≤ cdT b T p ∧ cdT b T p ≤ 1008
    · obtain ⟨g', z1, z2, z3⟩ := C_atom_tag (d := 6 - (r + 1)) (fa := (f_LawText_G (n + 1)).2) (fc := (f_LawText_G (n + 1)).1) t tw A S hE c1
      refine ⟨1, g', z1, Or.inr rfl, ?_, z3⟩
      rw [show atP b T (r + 1) p = .inr ([(cdT b T p - 1000, 0)], nx b T p) from if_pos c1]
      exact z2
    · by_cases c2 : cdT b T p = 2040
      · have hp : p < T := cd_T (b := b) (by omega)
        have n1 := nx_lt (b := b) hp
        obtain ⟨g1, a1, a2, a3⟩ := C_step t A hp
        have Hc := C_cond t tw (ih (by omega) n (by omega) t tw) (at_pr (by omega))
        obtain ⟨v2, g2, b1, b0, b2, b3⟩ := Hc (nx b T p) E g1 a2 (S.ft a3) (by omega)
        rw [show atP b T (r + 1) p = thP (coP b T (atP b T r) (nx b T p)) (fun q => if cdT b T q = 2041 then .inr ([], nx b T q) else .inl q) from (if_neg c1).trans (if_pos c2), C_atom_55 t tw A (Or.inl c2)]
        unfold f_LawText_isAtom_b55
        rw [if_pos lt6, if_pos (s11 _), r0, if_pos (s2 _), a1, bV_s, c2, if_pos (by decide), if_pos (s11 _), d1, G1, b1, bI_s]
        rcases b2.go (f := fun q => if cdT b T q = 2041 then .inr ([], nx b T q) else .inl q) with ⟨rfl, z⟩ | ⟨rfl, e, q, er, A2, S2, ep⟩
        · exact ⟨0, g2, by rw [if_pos rfl], Or.inl rfl, z, a3.fw.tr b3⟩
        · rw [ep, if_neg (by decide), if_pos (s11 _), r0, if_pos (s2 _)]
          rcases C_takes (x := 2041) (c := 2041) t A2 (by decide) rfl with ⟨k1, k2, g3, k3, k4, k5⟩ | ⟨k1, g3, k3, k4, k5⟩
          · refine ⟨1, g3, ?_, Or.inr rfl, ?_, a3.fw.tr (b3.tr k5.fw)⟩
            · rw [k3, bI_s, if_neg (by decide)]
            · rw [if_pos k1]
              refine CW.ap ⟨rfl, k4, ?_⟩
              rw [List.append_nil]
              exact S2.ft k5
          · refine ⟨0, g3, ?_, Or.inl rfl, ?_, a3.fw.tr (b3.tr k5.fw)⟩
            · rw [k3, bI_s, if_pos rfl]
            · rw [if_neg k1]
              exact ⟨rfl, k4⟩
      · by_cases c3 : cdT b T p = 1009
        · have hp : p < T := cd_T (b := b) (by omega)
          have n1 := nx_lt (b := b) hp
          obtain ⟨g1, a1, a2, a3⟩ := C_step t A hp
          obtain ⟨v2, g2, b1, b0, b2, b3⟩ := ih (by omega) (n + 1) (by omega) t tw (nx b T p) E g1 a2 (S.ft a3) (by omega)
          rw [show atP b T (r + 1) p = thP (atP b T r (nx b T p)) (fun q => .inr ([(13, 0)], q)) from (if_neg c1).trans ((if_neg c2).trans (if_pos c3)), C_atom_55 t tw A (Or.inr c3)]
          unfold f_LawText_isAtom_b55
          rw [if_pos lt6, if_pos (s11 _), r0, if_pos (s2 _), a1, bV_s, c3, if_neg (by decide), if_pos (s11 _), d1, b1, bI_s]
          rcases b2.go (f := fun q => .inr ([(13, 0)], q)) with ⟨rfl, z⟩ | ⟨rfl, e, q, er, A2, S2, ep⟩
          · exact ⟨0, g2, by rw [if_pos rfl], Or.inl rfl, z, a3.fw.tr b3⟩
          · have ok := at_pr (by omega) _ _ _ er
            have q4 := A2.2.1
            have q5 := A2.le
            obtain ⟨g3, k1, k2, k3, k4⟩ := C_emit (s := 13) (n := 0) (y := 1009) tw A2 S2 (by rw [List.length_append]; omega) (by decide)
            refine ⟨1, g3, ?_, Or.inr rfl, ?_, a3.fw.tr (b3.tr k4)⟩
            · rw [if_neg (by decide), if_pos (s11 _), k1, bV_s]
            · rw [ep]
              exact CW.ap ⟨rfl, k2, k3⟩
        · rw [show atP b T (r + 1) p = cmP b T p from (if_neg c1).trans ((if_neg c2).trans (if_neg c3))]
          exact C_atom0 t tw A S hE c1 c2 c3
theorem C_condition (t : TSt h) (tw : TSw h) : HAT h b T 0 f_LawText_isCondition (coP b T (atP b T 6)) := by
  unfold f_LawText_isCondition
  rw [lawG1 39]
  exact C_cond t tw (C_atom (h := h) (b := b) (T := T) 6 (by decide) 39 (by decide) t tw) (at_pr (by decide))
end U57
