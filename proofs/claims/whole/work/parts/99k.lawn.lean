/-! ===== a law's text: conditions of the reference ===== -/
section U60
variable {h : Hp} {g g' g1 g2 : Nat → Nat → Int32} {b : Nat → Nat} {T p q n i j k m c s r d w : Nat} {e es x E : List (Nat × Nat)} {v y u : Int32} {at' : Nat → Nat ⊕ (List (Nat × Nat) × Nat)} {fa fc : Hp → Nat → Option (Int32 × Hp)} {o : Bool}
/-- what an atom of the reference does -/
def HNA (h : Hp) (b : Nat → Nat) (T d : Nat) (fa : Hp → Nat → Option (Int32 × Hp)) (at' : Nat → Nat ⊕ (List (Nat × Nat) × Nat)) : Prop := ∀ p E g, RS g b T p → DR g E → g 755 13 = nI d → E.length < p → ∃ v g', fa (uI h g) 755 = some (v, uI h g') ∧ (v = 0 ∨ v = 1) ∧ NW (at' p) E d v g' b T ∧ FQ g g'
theorem N_cmp_172 (t : TSr h) (R : RS g b T p) (D : DR g E) (d13 : g 755 13 = nI d) (hE : E.length < p) (hs : u = 0 ∧ s = 12 ∨ u = 1 ∧ s = 11) : ∃ v g', f_Model_readAtom_b172 fc fa (uI h g) 755 u = some (v, uI h g') ∧ (v = 0 ∨ v = 1) ∧ NW (thP (suP b T 401 [] p) (fun r => .inr ([(s, 0)], r))) E d v g' b T ∧ FQ g g' := by
  have s7 : ∀ g, hS (uI h g) 755 = 11 := fun g => t.1
  have hT := R.1.2.1
  obtain ⟨v1, g1, a1, a2, a3⟩ := N_sum t R D d13 hE
  unfold f_Model_readAtom_b172
  rw [if_pos (s7 _), a1, bI_s]
  rcases a2.go (f := fun r => .inr ([(s, 0)], r)) with ⟨rfl, z⟩ | ⟨rfl, e, q, er, R1, D1, k1, ep⟩
  · exact ⟨0, g1, by rw [if_pos rfl], Or.inl rfl, z, a3⟩
  · have ok := (su_ok 401 p).1 [] (by decide) _ _ er
    have qT := R1.le
    obtain ⟨g3, b1, b2, b3, b4, b5⟩ := N_emit (v := nI s) (u := 0) (s := s) (n := 0) t R1 D1 (by rw [List.length_append]; omega) rfl rfl
    refine ⟨1, g3, ?_, Or.inr rfl, ?_, a3.tr b5⟩
    · rw [if_neg (by decide)]
      unfold f_Model_readAtom_b193
      rcases hs with ⟨h1, h2⟩ | ⟨h1, h2⟩
      · rw [h2] at b1
        rw [h1, if_pos rfl, if_pos (s7 _), show (12 : Int32) = nI 12 from rfl, b1, bV_s]
      · rw [h2] at b1
        rw [h1, if_neg (by decide), if_pos (s7 _), show (11 : Int32) = nI 11 from rfl, b1, bV_s]
    · rw [ep]
      exact NW.ap ⟨rfl, b2, b3, b4.trans k1⟩
/-- the tag at hand -/
theorem N_tag (t : TSr h) (S : LTS g b T p) : f_Model_tagAt (uI h g) 755 = some (if 1005 ≤ cdT b T p ∧ cdT b T p ≤ 1008 then nI (cdT b T p - 1000) else -1, uI h g) := by
  have s7 : ∀ g, hS (uI h g) 755 = 11 := fun g => t.1
  unfold f_Model_tagAt f_Model_tagAt_b0
  rw [if_pos (s7 _), N_isWord (k := 23) (i := 5) t S (by decide), bI_s]
  by_cases c0 : cdT b T p = 1000 + 5
  · rw [if_pos c0, if_neg (by decide), if_pos (by omega), c0]; rfl
  · rw [if_neg c0, if_pos rfl, if_pos (s7 _), N_isWord (k := 24) (i := 6) t S (by decide), bI_s]
    by_cases c1 : cdT b T p = 1000 + 6
    · rw [if_pos c1, if_neg (by decide), if_pos (by omega), c1]; rfl
    · rw [if_neg c1, if_pos rfl, if_pos (s7 _), N_isWord (k := 25) (i := 7) t S (by decide), bI_s]
      by_cases c2 : cdT b T p = 1000 + 7
      · rw [if_pos c2, if_neg (by decide), if_pos (by omega), c2]; rfl
      · rw [if_neg c2, if_pos rfl, if_pos (s7 _), N_isWord (k := 42) (i := 8) t S (by decide), bI_s]
        by_cases c3 : cdT b T p = 1000 + 8
        · rw [if_pos c3, if_neg (by decide), if_pos (by omega), c3]; rfl
        · rw [if_neg c3, if_pos rfl, if_neg (by omega)]
/-- an atom that is no ( and no not -/
theorem N_atom0 (t : TSr h) (R : RS g b T p) (D : DR g E) (d13 : g 755 13 = nI d) (hE : E.length < p) (c2 : ¬ cdT b T p = 2040) (c3 : ¬ cdT b T p = 1009) : ∃ v g', f_Model_readAtom_B fc fa (uI h g) 755 = some (v, uI h g') ∧ (v = 0 ∨ v = 1) ∧ NW (if 1005 ≤ cdT b T p ∧ cdT b T p ≤ 1008 then .inr ([(cdT b T p - 1000, 0)], nx b T p) else cmP b T p) E d v g' b T ∧ FQ g g' := by
  have s7 : ∀ g, hS (uI h g) 755 = 11 := fun g => t.1
  have hT := R.1.2.1
  unfold f_Model_readAtom_B f_Model_readAtom_b0
  rw [if_pos (s7 _)]
  rcases N_sign (x := 40) (c := 40) t R (by decide) (by decide) (by decide) rfl with ⟨c, -⟩ | ⟨-, g1, a1, a2, -, a3⟩
  · exact absurd c c2
  rw [a1, bI_s, if_pos rfl, if_pos (s7 _)]
  rcases N_passes (k := 41) (i := 9) t a2 (by decide) with ⟨c, -⟩ | ⟨-, g2, b1, b2, b3⟩
  · exact absurd c c3
  rw [b1, bI_s, if_pos rfl, if_pos (s7 _)]
  obtain ⟨g3, k1, k2, k3⟩ := N_letters t b2
  have F3 := a3.tr (b3.tr k3)
  have D3 := D.fb F3
  have h13 := F3.d13 d13
  rw [k1, bV_s, if_pos (s7 _), N_tag t k2, bI_s]
  by_cases c1 : 1005 ≤ cdT b T p ∧ cdT b T p ≤ 1008
  · obtain ⟨R4, -⟩ := k2.nx (i := cdT b T p - 1000) (by omega) (by omega)
    obtain ⟨g4, m1, m2, m3, m4, m5⟩ := N_emit (v := nI (cdT b T p - 1000)) (u := 0) (s := cdT b T p - 1000) (n := 0) t R4 D3 (by have := R.le; omega) rfl rfl
    refine ⟨1, g4, ?_, Or.inr rfl, ?_, F3.fq.tr m5⟩
    · rw [if_pos c1, if_neg (nI_pos (by omega)), if_pos (s7 _), m1, bV_s]
    · rw [if_pos c1]
      exact ⟨rfl, m2, m3, m4.trans h13⟩
  · have R4 := k2.fb
    have F4 : FB g (up2 g3 755 10 (nI p)) := F3.tr (FB.up (Or.inl rfl))
    obtain ⟨v1, g5, m1, m2, m3⟩ := N_sum t R4 (D.fb F4) (F4.d13 d13) hE
    rw [if_neg c1, if_pos (by decide), if_pos (s7 _), hI_u, k2.2.2.2.2, wr_s, sI_u, m1, bI_s, if_neg c1]
    unfold cmP
    rcases m2.go (f := fun q => if cdT b T q = 2060 then thP (suP b T 401 [] (nx b T q)) (fun r => .inr ([(11, 0)], r)) else if cdT b T q = 2062 then thP (suP b T 401 [] (nx b T q)) (fun r => .inr ([(12, 0)], r)) else .inl q) with ⟨rfl, z⟩ | ⟨rfl, e, q, er, R5, D5, h5, ep⟩
    · exact ⟨0, g5, by rw [if_pos rfl], Or.inl rfl, z, F4.fq.tr m3⟩
    · have ok := (su_ok 401 p).1 [] (by decide) _ _ er
      have lE : (E ++ e).length < q := by rw [List.length_append]; omega
      rw [ep, if_neg (by decide), if_pos (s7 _)]
      rcases N_sign (x := 60) (c := 60) t R5 (by decide) (by decide) (by decide) rfl with ⟨c, hq, g6, n1, n2, n3⟩ | ⟨c, g6, n1, n2, -, n3⟩
      · have c : cdT b T q = 2060 := c
        have nn := nx_lt (b := b) hq
        obtain ⟨v, g7, z1, z2, z3, z4⟩ := N_cmp_172 (fc := fc) (fa := fa) (d := d) (u := 1) (s := 11) t n2 (D5.fb n3) (n3.d13 h5) (by omega) (Or.inr ⟨rfl, rfl⟩)
        refine ⟨v, g7, ?_, z2, ?_, F4.fq.tr (m3.tr (n3.fq.tr z4))⟩
        · rw [n1, bI_s, if_neg (by decide)]
          exact z1
        · rw [if_pos c]
          exact NW.ap z3
      · have c : ¬ cdT b T q = 2060 := c
        rw [n1, bI_s, if_pos rfl, if_pos (s7 _)]
        rcases N_sign (x := 62) (c := 62) t n2 (by decide) (by decide) (by decide) rfl with ⟨c', hq, g7, o1, o2, o3⟩ | ⟨c', g7, o1, o2, o4, o3⟩
        · have c' : cdT b T q = 2062 := c'
          have nn := nx_lt (b := b) hq
          obtain ⟨v, g8, z1, z2, z3, z4⟩ := N_cmp_172 (fc := fc) (fa := fa) (d := d) (u := 0) (s := 12) t o2 ((D5.fb n3).fb o3) (o3.d13 (n3.d13 h5)) (by omega) (Or.inl ⟨rfl, rfl⟩)
          refine ⟨v, g8, ?_, z2, ?_, F4.fq.tr (m3.tr (n3.fq.tr (o3.fq.tr z4)))⟩
          · rw [o1, bI_s, if_neg (by decide)]
            exact z1
          · rw [if_neg c, if_pos c']
            exact NW.ap z3
        · have c' : ¬ cdT b T q = 2062 := c'
          refine ⟨0, g7, ?_, Or.inl rfl, ?_, F4.fq.tr (m3.tr (n3.fq.tr o3.fq))⟩
          · rw [o1, bI_s, if_pos rfl]
          · rw [if_neg c, if_neg c']
            exact ⟨rfl, o4⟩
/-- what is left of a condition of the reference: its ands, then its ors -/
def kN (fa : Hp → Nat → Option (Int32 × Hp)) (na no : Nat) (o : Bool) (H : Hp) : Option (Int32 × Hp) := bI (f_Model_readAllOf_L9 fa na H 755) fun v h' => if v = 0 then some (0, h') else if o = true then (if hS h' 755 = 11 then bV (f_Model_emits h' 755 15 0) fun h'' => f_Model_readCond_L9 (f_Model_readAllOf_B fa) no h'' 755 else none) else f_Model_readCond_L9 (f_Model_readAllOf_B fa) no h' 755
theorem N_cond_L (t : TSr h) (Hat : HNA h b T d fa at') (hok : ∀ p e q, at' p = .inr (e, q) → p < q ∧ e.length + p ≤ q) : ∀ (m : Nat), m ≤ 401 → ∀ (p : Nat) (E : List (Nat × Nat)) (g : Nat → Nat → Int32) (o : Bool), T < p + m → E.length + (if o = true then 1 else 0) < p → RS g b T p → DR g E → g 755 13 = nI d → ∀ q1 q2, ∃ v g', kN fa (q1 + m + 1) (q2 + m + 1) o (uI h g) = some (v, uI h g') ∧ (v = 0 ∨ v = 1) ∧ NW (kcP b T at' m o p) E d v g' b T ∧ FQ g g' := by
  have s7 : ∀ g, hS (uI h g) 755 = 11 := fun g => t.1
  intro m
  induction m with
  | zero => intro _ p E g o hm _ R; have := R.le; omega
  | succ m ih =>
    intro hm4 p E g o hm hE R D d13 q1 q2
    have hT := R.1.2.1
    have hp := R.le
    have EA : ∀ H, f_Model_readAllOf_L9 fa (q1 + (m + 1) + 1) H 755 = f_Model_readAllOf_b9 fa (f_Model_readAllOf_L9 fa (q1 + m + 1)) H 755 := fun H => rfl
    have EC : ∀ H, f_Model_readCond_L9 (f_Model_readAllOf_B fa) (q2 + (m + 1) + 1) H 755 = f_Model_readCond_b9 (f_Model_readAllOf_B fa) (f_Model_readCond_L9 (f_Model_readAllOf_B fa) (q2 + m + 1)) H 755 := fun H => rfl
    unfold kN
    rw [EA]
    unfold f_Model_readAllOf_b9
    rw [if_pos (s7 _)]
    rcases N_passes (k := 47) (i := 10) t R (by decide) with ⟨c, hq, g1, a1, a2, a3⟩ | ⟨c, g1, a1, a2, a3⟩
    · have c : cdT b T p = 1010 := c
      have n1 := nx_lt (b := b) hq
      obtain ⟨v2, g2, b1, b0, b2, b3⟩ := Hat (nx b T p) E g1 a2 (D.fb a3) (a3.d13 d13) (by omega)
      rw [a1, bI_s, if_neg (by decide), if_pos (s7 _), b1, bI_s, show kcP b T at' (m + 1) o p = thP (at' (nx b T p)) (fun q => apP [(14, 0)] (kcP b T at' m o q)) from if_pos c]
      rcases b2.go (f := fun q => apP [(14, 0)] (kcP b T at' m o q)) with ⟨rfl, z⟩ | ⟨rfl, e, q, er, R2, D2, h2, ep⟩
      · exact ⟨0, g2, by rw [if_pos rfl, bI_s, if_pos rfl], Or.inl rfl, z, a3.fq.tr b3⟩
      · have ok := hok _ _ _ er
        have qT := R2.le
        have ll : (E ++ e).length + nx b T p ≤ E.length + q := by rw [List.length_append]; omega
        obtain ⟨g3, k1, k2, k3, k4, k5⟩ := N_emit (v := 14) (u := 0) (s := 14) (n := 0) t R2 D2 (by omega) rfl rfl
        obtain ⟨v, g4, z1, z0, z2, z3⟩ := ih (by omega) q (E ++ e ++ [(14, 0)]) g3 o (by omega) (by rw [List.length_append]; show (E ++ e).length + 1 + _ < q; omega) k2 k3 (k4.trans h2) q1 (q2 + 1)
        refine ⟨v, g4, ?_, z0, ?_, a3.fq.tr (b3.tr (k5.tr z3))⟩
        · rw [if_neg (by decide), if_pos (s7 _), k1, bV_s]
          rw [show q2 + (m + 1) + 1 = q2 + 1 + m + 1 from by omega]
          exact z1
        · rw [ep]
          exact NW.ap (NW.ap z2)
    · have c : ¬ cdT b T p = 1010 := c
      have D1 := D.fb a3
      have h1 := a3.d13 d13
      rw [a1, bI_s, if_pos rfl, bI_s, if_neg (by decide), show kcP b T at' (m + 1) o p = apP (if o = true then [(15, 0)] else []) (if cdT b T p = 1011 then thP (at' (nx b T p)) (fun q => kcP b T at' m true q) else .inr ([], p)) from if_neg c]
      have em : ∃ g2, (if o = true then (if hS (uI h g1) 755 = 11 then bV (f_Model_emits (uI h g1) 755 15 0) fun h'' => f_Model_readCond_L9 (f_Model_readAllOf_B fa) (q2 + (m + 1) + 1) h'' 755 else none) else f_Model_readCond_L9 (f_Model_readAllOf_B fa) (q2 + (m + 1) + 1) (uI h g1) 755) = f_Model_readCond_L9 (f_Model_readAllOf_B fa) (q2 + (m + 1) + 1) (uI h g2) 755 ∧ RS g2 b T p ∧ DR g2 (E ++ if o = true then [(15, 0)] else []) ∧ g2 755 13 = nI d ∧ FQ g1 g2 := by
        by_cases co : o = true
        · rw [if_pos co] at hE
          obtain ⟨g2, k1, k2, k3, k4, k5⟩ := N_emit (v := 15) (u := 0) (s := 15) (n := 0) t a2 D1 (by omega) rfl rfl
          exact ⟨g2, by rw [if_pos co, if_pos (s7 _), k1, bV_s], k2, by rw [if_pos co]; exact k3, k4.trans h1, k5⟩
        · exact ⟨g1, by rw [if_neg co], a2, by rw [if_neg co, List.append_nil]; exact D1, h1, FQ.rf⟩
      have ln : (E ++ if o = true then [(15, 0)] else []).length = E.length + (if o = true then 1 else 0) := by
        rw [List.length_append]
        by_cases co : o = true
        · rw [if_pos co, if_pos co]; rfl
        · rw [if_neg co, if_neg co]; rfl
      obtain ⟨g2, e1, R2, D2, h2, F2⟩ := em
      rw [e1, EC]
      unfold f_Model_readCond_b9
      rw [if_pos (s7 _)]
      rcases N_passes (k := 48) (i := 11) t R2 (by decide) with ⟨c2, hq, g3, b1, b2, b3⟩ | ⟨c2, g3, b1, b2, b3⟩
      · have c2 : cdT b T p = 1011 := c2
        have n1 := nx_lt (b := b) hq
        obtain ⟨v4, g4, k1, k0, k2, k3⟩ := Hat (nx b T p) _ g3 b2 (D2.fb b3) (b3.d13 h2) (by omega)
        rw [b1, bI_s, if_neg (by decide), if_pos (s7 _), if_pos c2]
        unfold f_Model_readAllOf_B f_Model_readAllOf_b0
        rw [if_pos (s7 _), k1, bI_s]
        rcases k2.go (f := fun q => kcP b T at' m true q) with ⟨rfl, z⟩ | ⟨rfl, e, q, er, R4, D4, h4, ep⟩
        · exact ⟨0, g4, by rw [if_pos rfl, bI_s, if_pos rfl], Or.inl rfl, NW.ap z, a3.fq.tr (F2.tr (b3.fq.tr k3))⟩
        · have ok := hok _ _ _ er
          obtain ⟨v, g5, z1, z0, z2, z3⟩ := ih (by omega) q _ g4 true (by omega) (by rw [List.length_append, ln, if_pos rfl]; omega) R4 D4 h4 (999999 - m) q2
          refine ⟨v, g5, ?_, z0, NW.ap ?_, a3.fq.tr (F2.tr (b3.fq.tr (k3.tr z3)))⟩
          · rw [← FU_mm (by omega)] at z1
            rw [if_neg (by decide)]
            exact z1
          · rw [ep]
            exact NW.ap z2
      · have c2 : ¬ cdT b T p = 1011 := c2
        refine ⟨1, g3, ?_, Or.inr rfl, ?_, a3.fq.tr (F2.tr b3.fq)⟩
        · rw [b1, bI_s, if_pos rfl]
        · rw [if_neg c2]
          exact NW.ap ⟨rfl, b2, by rw [List.append_nil]; exact D2.fb b3, b3.d13 h2⟩
theorem N_cond (t : TSr h) (Hat : HNA h b T d fa at') (hok : ∀ p e q, at' p = .inr (e, q) → p < q ∧ e.length + p ≤ q) : HNA h b T d (f_Model_readCond_B (f_Model_readAllOf_B fa)) (coP b T at') := by
  intro p E g R D d13 hE
  have s7 : ∀ g, hS (uI h g) 755 = 11 := fun g => t.1
  have hT := R.1.2.1
  obtain ⟨v1, g1, a1, a0, a2, a3⟩ := Hat p E g R D d13 hE
  have e1 : f_Model_readCond_B (f_Model_readAllOf_B fa) (uI h g) 755 = bI (f_Model_readAllOf_B fa (uI h g) 755) fun v2 h3 => if v2 = 0 then some (0, h3) else f_Model_readCond_L9 (f_Model_readAllOf_B fa) FU h3 755 := by
    unfold f_Model_readCond_B f_Model_readCond_b0
    rw [if_pos (s7 _)]
  have e2 : f_Model_readAllOf_B fa (uI h g) 755 = (if v1 = 0 then some (0, uI h g1) else f_Model_readAllOf_L9 fa FU (uI h g1) 755) := by
    unfold f_Model_readAllOf_B f_Model_readAllOf_b0
    rw [if_pos (s7 _), a1, bI_s]
  unfold coP
  rw [e1, e2]
  rcases a2.go (f := fun q => kcP b T at' 401 false q) with ⟨rfl, z⟩ | ⟨rfl, e, q, er, R2, D2, h2, ep⟩
  · exact ⟨0, g1, by rw [if_pos rfl, bI_s, if_pos rfl], Or.inl rfl, z, a3⟩
  · have ok := hok _ _ _ er
    obtain ⟨v, g2, z1, z0, z2, z3⟩ := N_cond_L t Hat hok 401 (Nat.le_refl _) q (E ++ e) g1 false (by omega) (by rw [List.length_append, if_neg (by decide)]; omega) R2 D2 h2 (999999 - 401) (999999 - 401)
    rw [← FU_mm (by decide)] at z1
    refine ⟨v, g2, ?_, z0, ?_, a3.tr z3⟩
    · rw [if_neg (by decide)]
      exact z1
    · rw [ep]
      exact NW.ap z2
theorem NW.d0 {rr : Nat ⊕ (List (Nat × Nat) × Nat)} {d' : Nat} (z : NW rr E d 0 g b T) : NW rr E d' 0 g b T := by
  cases rr with
  | inl p => exact z
  | inr u => exact absurd z.1 (by decide)
theorem N_sign12 (t : TSr h) (R : RS g b T p) (hc : c < 128) {x : Int32} (hx : x = nI c) (z : f_Model_sign (uI h g) 755 x = some (v, uI h g')) : g' 755 12 = nI p := by
  have s7 : ∀ g, hS (uI h g) 755 = 11 := fun g => t.1
  obtain ⟨g1, z1, z2, z3, z4⟩ := N_blanks t R
  have w := N_at (lo := c) (hi := c) t (R.1.fb z4) z2 R.le hc hc hx hx
  have key : ∀ G, hI (uI h G) = G := fun G => rfl
  unfold f_Model_sign f_Model_sign_b0 at z
  rw [if_pos (s7 _), z1, bV_s, if_pos (s7 _), w, bI_s] at z
  by_cases e : p < T ∧ c ≤ b p ∧ b p ≤ c
  · rw [if_pos e, if_neg (by decide), if_pos (s7 _), wr_s, sI_u] at z
    have z5 := congrArg (fun o => (Option.map (fun q : Int32 × Hp => hI q.2 755 12) o)) z
    have z6 : up2 g1 755 10 (g1 755 10 + 1) 755 12 = g' 755 12 := Option.some.inj z5
    rw [← z6, up_k (by decide)]
    exact z3
  · rw [if_neg e, if_pos rfl] at z
    have z5 := congrArg (fun o => (Option.map (fun q : Int32 × Hp => hI q.2 755 12) o)) z
    have z6 : g1 755 12 = g' 755 12 := Option.some.inj z5
    rw [← z6]
    exact z3
theorem N_passes12 (t : TSr h) (R : RS g b T p) (hk : (k, i) ∈ kwL) (z : f_Model_passes (uI h g) 755 (STR + k) = some (v, uI h g')) : g' 755 12 = nI p := by
  have s7 : ∀ g, hS (uI h g) 755 = 11 := fun g => t.1
  obtain ⟨g1, z1, z2, z3⟩ := N_letters t R
  unfold f_Model_passes f_Model_passes_b0 at z
  rw [if_pos (s7 _), z1, bV_s, if_pos (s7 _), N_isWord t z2 hk, bI_s] at z
  by_cases e : cdT b T p = 1000 + i
  · rw [if_pos e, if_neg (by decide)] at z
    have z5 := congrArg (fun o => (Option.map (fun q : Int32 × Hp => hI q.2 755 12) o)) z
    have z6 : g1 755 12 = g' 755 12 := Option.some.inj z5
    rw [← z6]
    exact z2.2.2.2.2
  · rw [if_neg e, if_pos rfl, if_pos (s7 _), wr_s, sI_u] at z
    have z5 := congrArg (fun o => (Option.map (fun q : Int32 × Hp => hI q.2 755 12) o)) z
    have z6 : up2 g1 755 10 (g1 755 12) 755 12 = g' 755 12 := Option.some.inj z5
    rw [← z6, up_k (by decide)]
    exact z2.2.2.2.2
theorem mdG (n : Nat) : f_Model_G (n + 1) = (f_Model_readAtom_B (f_Model_G n).2.2 (f_Model_G n).1, f_Model_readAllOf_B (f_Model_G n).1, f_Model_readCond_B (f_Model_G n).2.1) := rfl
theorem mdG1 (n : Nat) : (f_Model_G (n + 1)).1 = f_Model_readAtom_B (f_Model_G n).2.2 (f_Model_G n).1 := by rw [mdG]
theorem mdG2 (n : Nat) : (f_Model_G (n + 1)).2.1 = f_Model_readAllOf_B (f_Model_G n).1 := by rw [mdG]
theorem mdG3 (n : Nat) : (f_Model_G (n + 1)).2.2 = f_Model_readCond_B (f_Model_G n).2.1 := by rw [mdG]
/-- ( or not of the reference, one deeper -/
theorem N_atom_par (t : TSr h) (R : RS g b T p) (d13 : g 755 13 = nI d) (hd : d < 2 ^ 31) (c : cdT b T p = 2040) : ∃ g1, f_Model_readAtom_B fc fa (uI h g) 755 = (if d = 6 then some (0, uI h g1) else bI (fc (uI h (up2 g1 755 13 (nI (d + 1)))) 755) fun v59 h60 => if v59 = 0 then some (0, h60) else if hS h60 755 = 11 then wr (sI h60 755 13 ((hI h60 755 13) - 1)) fun h64 => bI (f_Model_sign h64 755 41) fun v66 h67 => if v66 = 0 ∨ v66 = 1 then some (v66, h67) else none else none) ∧ RS g1 b T (nx b T p) ∧ FB g g1 ∧ p < T ∧ g1 755 12 = nI p := by
  have s7 : ∀ g, hS (uI h g) 755 = 11 := fun g => t.1
  rcases N_sign (x := 40) (c := 40) t R (by decide) (by decide) (by decide) rfl with ⟨-, hq, g1, a1, a2, a3⟩ | ⟨c', -⟩
  · refine ⟨g1, ?_, a2, a3, hq, N_sign12 (x := 40) t R (by decide) rfl a1⟩
    unfold f_Model_readAtom_B f_Model_readAtom_b0
    rw [if_pos (s7 _), a1, bI_s, if_neg (by decide), if_pos (s7 _), hI_u, a3.d13 d13]
    by_cases e : d = 6
    · rw [if_pos e, if_pos (by rw [e]; rfl)]
    · rw [if_neg e, if_neg (show ¬ nI d = (6 : Int32) from fun z => e ((nI_eq (b := 6) hd (by decide)).mp z)), wr_s, sI_u, nI_1]
  · exact absurd c c'
theorem N_atom_not (t : TSr h) (R : RS g b T p) (d13 : g 755 13 = nI d) (hd : d < 2 ^ 31) (c : cdT b T p = 1009) : ∃ g1, f_Model_readAtom_B fc fa (uI h g) 755 = (if d = 6 then some (0, uI h g1) else bI (fa (uI h (up2 g1 755 13 (nI (d + 1)))) 755) fun v45 h46 => if v45 = 0 then some (0, h46) else if hS h46 755 = 11 then wr (sI h46 755 13 ((hI h46 755 13) - 1)) fun h50 => bV (f_Model_emits h50 755 13 0) fun h53 => some (1, h53) else none) ∧ RS g1 b T (nx b T p) ∧ FB g g1 ∧ p < T ∧ g1 755 12 = nI p := by
  have s7 : ∀ g, hS (uI h g) 755 = 11 := fun g => t.1
  rcases N_sign (x := 40) (c := 40) t R (by decide) (by decide) (by decide) rfl with ⟨c', -⟩ | ⟨-, g1, a1, a2, -, a3⟩
  · omega
  · rcases N_passes (k := 41) (i := 9) t a2 (by decide) with ⟨-, hq, g2, b1, b2, b3⟩ | ⟨c', -⟩
    · refine ⟨g2, ?_, b2, a3.tr b3, hq, N_passes12 (k := 41) (i := 9) t a2 (by decide) b1⟩
      unfold f_Model_readAtom_B f_Model_readAtom_b0
      rw [if_pos (s7 _), a1, bI_s, if_pos rfl, if_pos (s7 _), b1, bI_s, if_neg (by decide), if_pos (s7 _), hI_u, (a3.tr b3).d13 d13]
      by_cases e : d = 6
      · rw [if_pos e, if_pos (by rw [e]; rfl)]
      · rw [if_neg e, if_neg (show ¬ nI d = (6 : Int32) from fun z => e ((nI_eq (b := 6) hd (by decide)).mp z)), wr_s, sI_u, nI_1]
    · exact absurd c c'
theorem RS.dd (R : RS g b T p) : RS (up2 g 755 13 v) b T p := R.fr (fun r hr => up_row (by omega)) (fun j hj => up_k (by omega))
theorem DR.dd (D : DR g E) : DR (up2 g 755 13 v) E := ⟨by rw [up_k (by decide)]; exact D.1, fun i s n hi => by rw [up_r (by decide), up_r (by decide)]; exact D.2 i s n hi⟩
theorem FQ.dd : FQ g (up2 g 755 13 v) := ⟨fun r h1 _ => up_row h1, fun j _ _ h3 _ => up_k h3, fun k _ => up_r (by decide)⟩
theorem N_atom (t : TSr h) : ∀ (r : Nat), r ≤ 6 → ∀ n, 3 * r + 1 ≤ n → HNA h b T (6 - r) (f_Model_G n).1 (atP b T r) := by
  have s7 : ∀ g, hS (uI h g) 755 = 11 := fun g => t.1
  intro r
  induction r with
  | zero =>
    intro _ n hn p E g R D d13 hE
    obtain ⟨n, rfl⟩ : ∃ k, n = k + 1 := ⟨n - 1, by omega⟩
    rw [mdG1]
    by_cases c2 : cdT b T p = 2040
    · obtain ⟨g1, a1, a2, a3, hq, a4⟩ := N_atom_par (fc := (f_Model_G n).2.2) (fa := (f_Model_G n).1) (d := 6) t R d13 (by decide) c2
      refine ⟨0, g1, by rw [a1, if_pos rfl], Or.inl rfl, ?_, a3.fq⟩
      rw [show atP b T 0 p = .inl p from (if_neg (by omega)).trans (if_pos c2)]
      exact ⟨rfl, a4⟩
    · by_cases c3 : cdT b T p = 1009
      · obtain ⟨g1, a1, a2, a3, hq, a4⟩ := N_atom_not (fc := (f_Model_G n).2.2) (fa := (f_Model_G n).1) (d := 6) t R d13 (by decide) c3
        refine ⟨0, g1, by rw [a1, if_pos rfl], Or.inl rfl, ?_, a3.fq⟩
        rw [show atP b T 0 p = .inl p from (if_neg (by omega)).trans ((if_neg c2).trans (if_pos c3))]
        exact ⟨rfl, a4⟩
      · obtain ⟨v, g', z1, z2, z3, z4⟩ := N_atom0 (fc := (f_Model_G n).2.2) (fa := (f_Model_G n).1) t R D d13 hE c2 c3
        refine ⟨v, g', z1, z2, ?_, z4⟩
        have : atP b T 0 p = (if 1005 ≤ cdT b T p ∧ cdT b T p ≤ 1008 then .inr ([(cdT b T p - 1000, 0)], nx b T p) else cmP b T p) := by
          unfold atP
          rw [if_neg c2, if_neg c3]
        rw [this]
        exact z3
  | succ r ih =>
    intro hr n hn p E g R D d13 hE
    have hT := R.1.2.1
    obtain ⟨n, rfl⟩ : ∃ k, n = k + 3 := ⟨n - 3, by omega⟩
    rw [mdG1]
    have n6 : ¬ 6 - (r + 1) = 6 := by omega
    have d1 : nI (6 - (r + 1) + 1) = nI (6 - r) := by rw [show 6 - (r + 1) + 1 = 6 - r from by omega]
    have dm : nI (6 - r) - 1 = nI (6 - (r + 1)) := by rw [show 6 - r = 6 - (r + 1) + 1 from by omega, nI_pred]
    by_cases c2 : cdT b T p = 2040
    · obtain ⟨g1, a1, a2, a3, hq, -⟩ := N_atom_par (fc := (f_Model_G (n + 2)).2.2) (fa := (f_Model_G (n + 2)).1) (d := 6 - (r + 1)) t R d13 (by omega) c2
      have n1 := nx_lt (b := b) hq
      rw [a1, if_neg n6, d1, mdG3, mdG2]
      have Hc := N_cond t (ih (by omega) n (by omega)) (at_pr (by omega))
      obtain ⟨v2, g2, b1, b0, b2, b3⟩ := Hc (nx b T p) E (up2 g1 755 13 (nI (6 - r))) a2.dd (D.fb a3).dd up_eq (by omega)
      rw [b1, bI_s, show atP b T (r + 1) p = thP (coP b T (atP b T r) (nx b T p)) (fun q => if cdT b T q = 2041 then .inr ([], nx b T q) else .inl q) from (if_neg (by omega)).trans (if_pos c2)]
      rcases b2.go (f := fun q => if cdT b T q = 2041 then .inr ([], nx b T q) else .inl q) with ⟨rfl, z⟩ | ⟨rfl, e, q, er, R2, D2, h2, ep⟩
      · refine ⟨0, g2, by rw [if_pos rfl], Or.inl rfl, ?_, a3.fq.tr (FQ.dd.tr b3)⟩
        exact z.d0
      · rw [ep, if_neg (by decide), if_pos (s7 _), hI_u, h2, dm, wr_s, sI_u]
        rcases N_sign (x := 41) (c := 41) t (R2.dd (v := nI (6 - (r + 1)))) (by decide) (by decide) (by decide) rfl with ⟨c, hq2, g3, k1, k2, k3⟩ | ⟨c, g3, k1, -, k2, k3⟩
        · have c : cdT b T q = 2041 := c
          refine ⟨1, g3, by rw [k1, bI_s, if_pos (Or.inr rfl)], Or.inr rfl, ?_, a3.fq.tr (FQ.dd.tr (b3.tr (FQ.dd.tr k3.fq)))⟩
          rw [if_pos c]
          exact NW.ap ⟨rfl, k2, by rw [List.append_nil]; exact D2.dd.fb k3, k3.d13 up_eq⟩
        · have c : ¬ cdT b T q = 2041 := c
          refine ⟨0, g3, by rw [k1, bI_s, if_pos (Or.inl rfl)], Or.inl rfl, ?_, a3.fq.tr (FQ.dd.tr (b3.tr (FQ.dd.tr k3.fq)))⟩
          rw [if_neg c]
          exact ⟨rfl, k2⟩
    · by_cases c3 : cdT b T p = 1009
      · obtain ⟨g1, a1, a2, a3, hq, -⟩ := N_atom_not (fc := (f_Model_G (n + 2)).2.2) (fa := (f_Model_G (n + 2)).1) (d := 6 - (r + 1)) t R d13 (by omega) c3
        have n1 := nx_lt (b := b) hq
        rw [a1, if_neg n6, d1]
        obtain ⟨v2, g2, b1, b0, b2, b3⟩ := ih (by omega) (n + 2) (by omega) (nx b T p) E (up2 g1 755 13 (nI (6 - r))) a2.dd (D.fb a3).dd up_eq (by omega)
        rw [b1, bI_s, show atP b T (r + 1) p = thP (atP b T r (nx b T p)) (fun q => .inr ([(13, 0)], q)) from (if_neg (by omega)).trans ((if_neg c2).trans (if_pos c3))]
        rcases b2.go (f := fun q => .inr ([(13, 0)], q)) with ⟨rfl, z⟩ | ⟨rfl, e, q, er, R2, D2, h2, ep⟩
        · refine ⟨0, g2, by rw [if_pos rfl], Or.inl rfl, ?_, a3.fq.tr (FQ.dd.tr b3)⟩
          exact z.d0
        · have ok := at_pr (by omega) _ _ _ er
          have qT := R2.le
          obtain ⟨g3, k1, k2, k3, k4, k5⟩ := N_emit (v := 13) (u := 0) (s := 13) (n := 0) t (R2.dd (v := nI (6 - (r + 1)))) D2.dd (by rw [List.length_append]; omega) rfl rfl
          rw [ep, if_neg (by decide), if_pos (s7 _), hI_u, h2, dm, wr_s, sI_u, k1, bV_s]
          exact ⟨1, g3, rfl, Or.inr rfl, NW.ap ⟨rfl, k2, k3, k4.trans up_eq⟩, a3.fq.tr (FQ.dd.tr (b3.tr (FQ.dd.tr k5)))⟩
      · obtain ⟨v, g', z1, z2, z3, z4⟩ := N_atom0 (fc := (f_Model_G (n + 2)).2.2) (fa := (f_Model_G (n + 2)).1) t R D d13 hE c2 c3
        refine ⟨v, g', z1, z2, ?_, z4⟩
        have : atP b T (r + 1) p = (if 1005 ≤ cdT b T p ∧ cdT b T p ≤ 1008 then .inr ([(cdT b T p - 1000, 0)], nx b T p) else cmP b T p) := by
          unfold atP
          rw [if_neg c2, if_neg c3]
        rw [this]
        exact z3
theorem N_condition (t : TSr h) : HNA h b T 0 f_Model_readCond (coP b T (atP b T 6)) := by
  unfold f_Model_readCond
  rw [mdG3 39, mdG2 38]
  exact N_cond t (N_atom t 6 (by decide) 38 (by decide)) (at_pr (by decide))
end U60
