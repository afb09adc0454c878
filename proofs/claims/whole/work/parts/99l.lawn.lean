/-! ===== a law's text: lines of the reference ===== -/
section U61
variable {h : Hp} {g g' g1 g2 : Nat → Nat → Int32} {b : Nat → Nat} {T p q n i j k m c s r d w : Nat} {e es x E : List (Nat × Nat)} {v y u : Int32} {L l : List (Nat × List (Nat × Nat))}
/-- the lines that the reference has written -/
def DL (g : Nat → Nat → Int32) (L : List (Nat × List (Nat × Nat))) : Prop := ∀ k w es, L[k]? = some (w, es) → g 756 (1455 + 3 * k) = fI w ∧ g 756 (1456 + 3 * k) = nI (stpL (L.take k)).length ∧ g 756 (1457 + 3 * k) = nI (stpL (L.take (k + 1))).length
/-- what reading a text changes -/
def FZr (g g' : Nat → Nat → Int32) : Prop := (∀ r, r ≠ 755 → r ≠ 756 → g' r = g r) ∧ (∀ j, j ≠ 10 → j ≠ 12 → j ≠ 13 → j ≠ 16 → g' 755 j = g 755 j) ∧ ∀ k, k < 1455 → g' 756 k = g 756 k
theorem FZr.rf : FZr g g := ⟨fun _ _ _ => rfl, fun _ _ _ _ _ => rfl, fun _ _ => rfl⟩
theorem FZr.tr (x : FZr g g1) (y : FZr g1 g') : FZr g g' := ⟨fun r h1 h2 => (y.1 r h1 h2).trans (x.1 r h1 h2), fun j h1 h2 h3 h4 => (y.2.1 j h1 h2 h3 h4).trans (x.2.1 j h1 h2 h3 h4), fun k hk => (y.2.2 k hk).trans (x.2.2 k hk)⟩
theorem FQ.z (x : FQ g g') : FZr g g' := ⟨x.1, x.2.1, fun k hk => x.2.2 k (by omega)⟩
theorem DL.fq (D : DL g L) (hl : L.length ≤ 12) (x : FQ g g') : DL g' L := fun k w es hk => by
  have hk' : k < L.length := by
    rcases Nat.lt_or_ge k L.length with z | z
    · exact z
    · rw [List.getElem?_eq_none z] at hk; cases hk
  rw [x.2.2 _ (by omega), x.2.2 _ (by omega), x.2.2 _ (by omega)]
  exact D k w es hk
theorem RS.ww (R : RS g b T p) : RS (up2 g 756 k v) b T p := R.fr (fun r hr => up_row (by omega)) (fun j hj => up_r (by decide))
theorem DL.up (D : DL g L) (hk : 1455 + 3 * L.length ≤ k) : DL (up2 g 756 k v) L := fun j w es hj => by
  have hj' : j < L.length := by
    rcases Nat.lt_or_ge j L.length with z | z
    · exact z
    · rw [List.getElem?_eq_none z] at hj; cases hj
  rw [up_k (by omega), up_k (by omega), up_k (by omega)]
  exact D j w es hj
theorem DL.dd (D : DL g L) : DL (up2 g 755 k v) L := fun j w es hj => by rw [up_row (by decide)]; exact D j w es hj
theorem DR.up (S : DR g E) (hk : k < 1491) : DR (up2 g 756 k v) E := ⟨by rw [up_r (by decide)]; exact S.1, fun i s n hi => by rw [up_k (by omega), up_k (by omega)]; exact S.2 i s n hi⟩
/-- what the reference has read of a line -/
def NLn (r : Nat ⊕ (Nat × List (Nat × Nat) × Nat)) (L : List (Nat × List (Nat × Nat))) (v : Int32) (g : Nat → Nat → Int32) (b : Nat → Nat) (T : Nat) : Prop := match r with
  | .inl q => v = 0 ∧ g 755 12 = nI q
  | .inr (w, e, q) => v = 1 ∧ RS g b T q ∧ DL g (L ++ [(w, e)]) ∧ DR g (stpL (L ++ [(w, e)]))
theorem N_b67 (t : TSr h) (R : RS g b T p) (D : DL g L) (S : DR g (stpL L)) (hl : L.length < 12) (hE : (stpL L).length < p) (ew : g 756 (1455 + 3 * L.length) = fI w) : ∃ v g', f_Model_readLawLine_b67 (uI h g) 755 (nI (1455 + 3 * L.length)) = some (v, uI h g') ∧ NLn (lwA b T w p) L v g' b T ∧ FZr g g' := by
  have s7 : ∀ g, hS (uI h g) 755 = 11 := fun g => t.1
  have r1 : ∀ g, hR (uI h g) 755 1 = 756 := fun g => t.2.1.1
  have sa : ∀ g, hS (uI h g) 756 = 20 := fun g => t.2.2.1.1
  have la' : ∀ g, hL (uI h g) 756 = 2291 := fun g => t.2.2.1.2
  have hT := R.1.2.1
  have hp := R.le
  -- the end of a line
  have fin : ∀ (q : Nat) (e : List (Nat × Nat)) (G : Nat → Nat → Int32), RS G b T q → DR G (stpL L ++ e) → FZr g G → G 756 (1455 + 3 * L.length) = fI w → G 756 (1456 + 3 * L.length) = nI (stpL L).length → DL G L → ∃ g', f_Model_readLawLine_b102 (uI h G) 755 (nI (1455 + 3 * L.length)) = some (1, uI h g') ∧ NLn (.inr (w, e, q)) L 1 g' b T ∧ FZr g g' := by
    intro q e G RG DG FG w1 w2 DLG
    have lE : (L ++ [(w, e)]).length = L.length + 1 := List.length_append
    refine ⟨up2 G 756 (1457 + 3 * L.length) (nI (stpL L ++ e).length), ?_, ⟨rfl, RG.ww, fun k w' es hk => ?_, ?_⟩, FG.tr ⟨fun r h1 h2 => up_row h2, fun j _ _ _ _ => up_r (by decide), fun k hk => up_k (by omega)⟩⟩
    · unfold f_Model_readLawLine_b102
      rw [if_pos (s7 _), r1, if_pos (sa _), la', show (2 : Int32) = nI 2 from rfl, nI_add, show 1455 + 3 * L.length + 2 = 1457 + 3 * L.length from by omega, if_pos (ib_n (by omega) (by decide)), ix_n (by omega), hI_u, DG.1, wr_s, sI_u]
    · by_cases q : k < L.length
      · rw [List.getElem?_append_left q] at hk
        rw [List.take_append_of_le_length (by omega), List.take_append_of_le_length (by omega), up_k (by omega), up_k (by omega), up_k (by omega)]
        exact DLG k w' es hk
      · by_cases q2 : k = L.length
        · subst q2
          rw [List.getElem?_append_right (Nat.le_refl _), Nat.sub_self] at hk
          cases hk
          rw [List.take_append_of_le_length (Nat.le_refl _), List.take_length, List.take_of_length_le (by rw [lE]; exact Nat.le_refl _), stp_app, stp_one, up_k (by omega), up_k (by omega), up_eq]
          exact ⟨w1, w2, rfl⟩
        · rw [List.getElem?_eq_none (by rw [lE]; omega)] at hk
          cases hk
    · rw [stp_app, stp_one]
      exact ⟨by rw [up_r (by decide)]; exact DG.1, fun i s n hi => by rw [up_k (by omega), up_k (by omega)]; exact DG.2 i s n hi⟩
  -- the begin of its steps, and no depth
  have F1 : FZr g (up2 (up2 g 756 (1456 + 3 * L.length) (nI (stpL L).length)) 755 13 0) := ⟨fun r h1 h2 => by rw [up_row h1, up_row h2], fun j _ _ h3 _ => by rw [up_k h3, up_r (by decide)], fun k hk => by rw [up_r (by decide), up_k (by omega)]⟩
  have R1 : RS (up2 (up2 g 756 (1456 + 3 * L.length) (nI (stpL L).length)) 755 13 0) b T p := R.ww.dd
  have S1 : DR (up2 (up2 g 756 (1456 + 3 * L.length) (nI (stpL L).length)) 755 13 0) (stpL L) := (S.up (by omega)).dd
  have D1 : DL (up2 (up2 g 756 (1456 + 3 * L.length) (nI (stpL L).length)) 755 13 0) L := (D.up (by omega)).dd
  have a1 : (up2 (up2 g 756 (1456 + 3 * L.length) (nI (stpL L).length)) 755 13 0) 756 (1455 + 3 * L.length) = fI w := by rw [up_r (by decide), up_k (by omega)]; exact ew
  have a2 : (up2 (up2 g 756 (1456 + 3 * L.length) (nI (stpL L).length)) 755 13 0) 756 (1456 + 3 * L.length) = nI (stpL L).length := by rw [up_r (by decide), up_eq]
  have a3 : (up2 (up2 g 756 (1456 + 3 * L.length) (nI (stpL L).length)) 755 13 0) 755 13 = nI 0 := up_eq
  have go : f_Model_readLawLine_b67 (uI h g) 755 (nI (1455 + 3 * L.length)) = bI (f_Model_passes (uI h (up2 (up2 g 756 (1456 + 3 * L.length) (nI (stpL L).length)) 755 13 0)) 755 (STR + 40)) fun v8 h9 => if v8 = 0 then f_Model_readLawLine_b102 h9 755 (nI (1455 + 3 * L.length)) else if hS h9 755 = 11 then bI (f_Model_readCond h9 755) fun v13 h14 => if v13 = 0 then some (0, h14) else f_Model_readLawLine_b102 h14 755 (nI (1455 + 3 * L.length)) else none := by
    unfold f_Model_readLawLine_b67
    rw [if_pos (s7 _), r1, if_pos (sa _), la', nI_1, show 1455 + 3 * L.length + 1 = 1456 + 3 * L.length from by omega, if_pos (ib_n (by omega) (by decide)), ix_n (by omega), hI_u, S.1, wr_s, sI_u, wr_s, sI_u]
  generalize up2 (up2 g 756 (1456 + 3 * L.length) (nI (stpL L).length)) 755 13 0 = G at F1 R1 S1 D1 a1 a2 a3 go
  rw [go]
  unfold lwA
  rcases N_passes (k := 40) (i := 13) t R1 (by decide) with ⟨c, hq, g1, k1, k2, k3⟩ | ⟨c, g1, k1, k2, k3⟩
  · have c : cdT b T p = 1013 := c
    have n1 := nx_lt (b := b) hq
    obtain ⟨v2, g2, m1, m0, m2, m3⟩ := N_condition t (nx b T p) (stpL L) g1 k2 (S1.fb k3) (k3.d13 a3) (by omega)
    have F2 := k3.fq.tr m3
    rw [k1, bI_s, if_neg (by decide), if_pos (s7 _), m1, bI_s, if_pos c]
    cases hr : coP b T (atP b T 6) (nx b T p) with
    | inl z =>
      rw [hr] at m2
      rw [m2.1, if_pos rfl]
      exact ⟨0, g2, rfl, ⟨rfl, m2.2⟩, F1.tr F2.z⟩
    | inr z =>
      obtain ⟨e, z⟩ := z
      rw [hr] at m2
      obtain ⟨o1, o2, o3, o4⟩ := m2
      rw [o1, if_neg (by decide)]
      obtain ⟨g3, z1, z2, z3⟩ := fin z e g2 o2 o3 (F1.tr F2.z) (by rw [F2.2.2 _ (by omega)]; exact a1) (by rw [F2.2.2 _ (by omega)]; exact a2) (D1.fq (by omega) F2)
      exact ⟨1, g3, z1, z2, z3⟩
  · have c : ¬ cdT b T p = 1013 := c
    rw [k1, bI_s, if_pos rfl, if_neg c]
    obtain ⟨g3, z1, z2, z3⟩ := fin p [] g1 k2 (by rw [List.append_nil]; exact S1.fb k3) (F1.tr k3.fq.z) (by rw [k3.1 756 (by decide)]; exact a1) (by rw [k3.1 756 (by decide)]; exact a2) (D1.fq (by omega) k3.fq)
    exact ⟨1, g3, z1, z2, z3⟩
theorem N_lline (t : TSr h) (S0 : LTS g b T p) (D : DL g L) (S : DR g (stpL L)) (hl : L.length < 12) (hE : (stpL L).length ≤ p) : ∃ v g', f_Model_readLawLine (uI h g) 755 (nI L.length) = some (v, uI h g') ∧ NLn (lwP b T p) L v g' b T ∧ FZr g g' := by
  have s7 : ∀ g, hS (uI h g) 755 = 11 := fun g => t.1
  have r1 : ∀ g, hR (uI h g) 755 1 = 756 := fun g => t.2.1.1
  have sa : ∀ g, hS (uI h g) 756 = 20 := fun g => t.2.2.1.1
  have la' : ∀ g, hL (uI h g) 756 = 2291 := fun g => t.2.2.1.2
  have ad : (1455 : Int32) + (3 : Int32) * nI L.length = nI (1455 + 3 * L.length) := by
    rw [show (3 : Int32) = nI 3 from rfl, nI_mul, show (1455 : Int32) = nI 1455 from rfl, nI_add]
  have kf : ∀ (g : Nat → Nat → Int32) v, FZr g (up2 g 756 (1455 + 3 * L.length) v) := fun g v => ⟨fun r _ h2 => up_row h2, fun j _ _ _ _ => up_r (by decide), fun k hk => up_k (by omega)⟩
  unfold f_Model_readLawLine f_Model_readLawLine_b0 lwP
  rw [if_pos (s7 _), N_isWord (k := 38) (i := 14) t S0 (by decide), bI_s, ad]
  by_cases c14 : cdT b T p = 1000 + 14
  · have c14' : cdT b T p = 1014 := c14
    obtain ⟨R1, hq⟩ := S0.nx (i := 14) (by decide) c14
    have n1 := nx_lt (b := b) hq
    rw [if_pos c14, if_neg (by decide), if_neg (show ¬ cdT b T p = 1012 by omega), if_pos c14']
    unfold f_Model_readLawLine_b30
    rw [if_pos (s7 _), if_neg (by decide)]
    rcases N_number (x := 0) (y := 999) (lo := 0) (hi := 1000) t R1 (by decide) (by decide) rfl (by decide) with ⟨-, c3, hq2, g2, b1, b2, b3⟩ | ⟨c3, g2, b1, b2, b3⟩
    · have n2 := nx_lt (b := b) hq2
      have ef : nI (cdT b T (nx b T p)) = fI (cdT b T (nx b T p)) := (if_neg (by omega)).symm
      have hl' := hl
      obtain ⟨v, g4, z1, z2, z3⟩ := N_b67 (w := cdT b T (nx b T p)) (g := up2 g2 756 (1455 + 3 * L.length) (nI (cdT b T (nx b T p)))) t b2.ww ((D.fq (by omega) b3.fq).up (Nat.le_refl _)) ((S.fb b3).up (by omega)) hl (by omega) (by rw [up_eq]; exact ef)
      refine ⟨v, g4, ?_, ?_, b3.fq.z.tr (FZr.tr (kf g2 _) z3)⟩
      · rw [b1, bI_s, r1]
        unfold f_Model_readLawLine_b51
        rw [if_pos (sa _), la', if_pos (ib_n (by omega) (by decide)), ix_n (by omega), wr_s, sI_u, if_neg (by decide), if_pos (s7 _), r1, if_pos (sa _), la', if_pos (ib_n (by omega) (by decide)), hI_u, up_eq, if_pos (nI_pos' (by omega))]
        exact z1
      · rw [if_pos c3]
        exact z2
    · refine ⟨0, up2 g2 756 (1455 + 3 * L.length) (-1), ?_, ?_, b3.fq.z.tr (kf g2 _)⟩
      · rw [b1, bI_s, r1]
        unfold f_Model_readLawLine_b51
        rw [if_pos (sa _), la', if_pos (ib_n (by omega) (by decide)), ix_n (by omega), wr_s, sI_u, if_neg (by decide), if_pos (s7 _), r1, if_pos (sa _), la', if_pos (ib_n (by omega) (by decide)), hI_u, up_eq, if_neg (by decide)]
      · rw [if_neg (fun z => c3 ⟨Nat.zero_le _, z⟩)]
        exact ⟨rfl, by rw [up_r (by decide)]; exact b2⟩
  · have c14' : ¬ cdT b T p = 1014 := c14
    rw [if_neg c14, if_pos rfl, if_pos (s7 _), N_isWord (k := 39) (i := 12) t S0 (by decide), bI_s, if_neg c14']
    by_cases c12 : cdT b T p = 1000 + 12
    · have c12' : cdT b T p = 1012 := c12
      obtain ⟨R1, hq⟩ := S0.nx (i := 12) (by decide) c12
      have n1 := nx_lt (b := b) hq
      obtain ⟨v, g4, z1, z2, z3⟩ := N_b67 (w := 1000) (g := up2 g 756 (1455 + 3 * L.length) (-1)) t R1.ww (D.up (Nat.le_refl _)) (S.up (by omega)) hl (by omega) (by rw [up_eq]; rfl)
      refine ⟨v, g4, ?_, ?_, FZr.tr (kf g _) z3⟩
      · rw [if_pos c12, if_neg (by decide)]
        unfold f_Model_readLawLine_b30
        rw [if_pos (s7 _), if_pos rfl, r1]
        unfold f_Model_readLawLine_b51
        rw [if_pos (sa _), la', if_pos (ib_n (by omega) (by decide)), ix_n (by omega), wr_s, sI_u, if_pos rfl]
        exact z1
      · rw [if_pos c12']
        exact z2
    · have c12' : ¬ cdT b T p = 1012 := c12
      rw [if_neg c12, if_pos rfl, if_neg c12']
      exact ⟨0, g, rfl, ⟨rfl, S0.2.2.2.2⟩, FZr.rf⟩
theorem cd_3000 (hb : ∀ k, k < T → b k < 256) (hp : p ≤ T) : cdT b T p = 3000 ↔ p = T := by
  constructor
  · intro e
    rcases cd_all b T p with ⟨a, -⟩ | ⟨-, -, ⟨i, a, a'⟩ | a⟩ | ⟨-, -, a⟩ | ⟨a', -, -, a⟩
    · omega
    · omega
    · omega
    · omega
    · have := hb p a'; omega
  · intro e
    exact cd_end (by omega)
theorem RB.b8 (R : RB g b T) : ∀ k, k < T → b k < 256 := fun k hk => by
  rcases R.2.2 k hk with ⟨h1, -⟩ | ⟨-, h2, -⟩ <;> omega
/-- what stands behind a line: the end, or one more -/
theorem N_semi (t : TSr h) (R : RS g b T q) : ∃ g1, f_Model_blanks (uI h g) 755 = some (uI h g1) ∧ g1 755 10 = nI q ∧ g1 755 11 = nI T ∧ g1 755 12 = nI q ∧ FB g g1 ∧ (f_Model_isAt (uI h g1) 755 59 59 = some (if cdT b T q = 2059 then 1 else 0, uI h g1)) ∧ (cdT b T q = 2059 → q < T ∧ RS (up2 g1 755 10 (nI (q + 1))) b T (nx b T q)) := by
  have hq := R.le
  have hT := R.1.2.1
  obtain ⟨g1, a1, a2, a3, a4⟩ := N_blanks t R
  have R1 := R.1.fb a4
  have w := N_at (lo := 59) (hi := 59) (x := 59) (y := 59) t R1 a2 hq (by decide) (by decide) rfl rfl
  have key : cdT b T q = 2059 ↔ q < T ∧ 59 ≤ b q ∧ b q ≤ 59 := by
    constructor
    · intro e
      rcases cd_all b T q with ⟨-, a⟩ | ⟨-, -, ⟨i, a, a'⟩ | a⟩ | ⟨-, -, a⟩ | ⟨a', -, -, a⟩ <;> omega
    · rintro ⟨e1, e2, e3⟩
      rw [cd_sign e1 (fun z => by have := lB_i.mp z; omega) (fun z => by have := dB_i.mp z; omega)]
      omega
  refine ⟨g1, a1, a2, R1.1, a3, a4, ?_, fun e => ?_⟩
  · rw [w]
    by_cases c : cdT b T q = 2059
    · rw [if_pos c, if_pos (key.mp c)]
    · rw [if_neg c, if_neg (fun z => c (key.mpr z))]
  · obtain ⟨e1, e2, e3⟩ := key.mp e
    refine ⟨e1, R1.fb (FB.up (Or.inl rfl)), q + 1, e1, up_eq, ?_⟩
    show _ = bk b T (th b T q)
    rw [th_sign (fun z => by have := lB_i.mp z; omega) (fun z => by have := dB_i.mp z; omega)]
/-- what the reference has read of a law -/
def NLt (r : Nat ⊕ List (Nat × List (Nat × Nat))) (L : List (Nat × List (Nat × Nat))) (v : Int32) (g : Nat → Nat → Int32) : Prop := match r with
  | .inl q => v = -1 ∧ g 755 12 = nI q
  | .inr l => v = nI (L ++ l).length ∧ DL g (L ++ l) ∧ DR g (stpL (L ++ l))
theorem N_lread_L (t : TSr h) : ∀ (m p : Nat) (L : List (Nat × List (Nat × Nat))) (g : Nat → Nat → Int32), L.length + m = 12 → (stpL L).length ≤ p → RS g b T p → DL g L → DR g (stpL L) → ∀ q, ∃ v g', f_Model_readAll_L28 (q + m + 1) (uI h g) 755 0 (nI L.length) = some (v, uI h g') ∧ NLt (laP b T m p) L v g' ∧ FZr g g' := by
  have s7 : ∀ g, hS (uI h g) 755 = 11 := fun g => t.1
  intro m
  induction m with
  | zero =>
    intro p L g hm hE R D S q
    obtain ⟨g1, a1, a2, a3⟩ := N_letters t R
    refine ⟨-1, g1, ?_, ⟨rfl, a2.2.2.2.2⟩, a3.fq.z⟩
    show f_Model_readAll_b28 (f_Model_readAll_L28 q) (uI h g) 755 0 (nI L.length) = _
    unfold f_Model_readAll_b28 f_Model_readLine f_Model_readLine_b0 f_Model_readLine_b16
    rw [if_pos (s7 _), if_pos (s7 _), a1, bV_s, if_pos rfl, if_pos (show (12 : Int32) ≤ nI L.length from nI_le (a := 12) (by omega) (by omega)), bI_s, if_pos rfl]
  | succ m ih =>
    intro p L g hm hE R D S q
    obtain ⟨g1, a1, a2, a3⟩ := N_letters t R
    obtain ⟨v2, g2, b1, b2, b3⟩ := N_lline t a2 (D.fq (by omega) a3.fq) (S.fb a3) (by omega) hE
    have E0 : f_Model_readAll_L28 (q + (m + 1) + 1) (uI h g) 755 0 (nI L.length) = f_Model_readAll_b28 (f_Model_readAll_L28 (q + m + 1)) (uI h g) 755 0 (nI L.length) := rfl
    rw [E0]
    unfold f_Model_readAll_b28 f_Model_readLine f_Model_readLine_b0 f_Model_readLine_b16 laP
    rw [if_pos (s7 _), if_pos (s7 _), a1, bV_s, if_pos rfl, if_neg (show ¬ (12 : Int32) ≤ nI L.length from nI_ge (b := 12) (by omega) (by decide)), if_pos rfl, if_pos (s7 _), b1, bI_s]
    cases hr : lwP b T p with
    | inl z =>
      rw [hr] at b2
      rw [b2.1, if_pos rfl, bI_s, if_pos rfl]
      exact ⟨-1, g2, rfl, ⟨rfl, b2.2⟩, a3.fq.z.tr b3⟩
    | inr u =>
      obtain ⟨w, e, u⟩ := u
      rw [hr] at b2
      obtain ⟨d1, d2, d3, d4⟩ := b2
      obtain ⟨k1, k2, k3, k4, k5⟩ := lw_ok _ _ _ hr
      have hT := d2.1.2.1
      have uT := d2.le
      have lE : (L ++ [(w, e)]).length = L.length + 1 := List.length_append
      obtain ⟨g3, m1, m2, m3, m4, m5, m6, m7⟩ := N_semi t d2
      unfold f_Model_readLine_b41
      rw [d1, if_neg (by decide), bI_s, if_neg (by decide), if_pos (s7 _), m1, bV_s, if_pos (s7 _), hI_u, m2, m3, nI_1]
      show ∃ v g', _ ∧ NLt (if cdT b T u = 3000 then .inr [(w, e)] else if cdT b T u = 2059 then (match laP b T m (nx b T u) with
        | .inl z => .inl z
        | .inr l => .inr ((w, e) :: l)) else .inl u) L v g' ∧ FZr g g'
      have D3 := d3.fq (by omega) m5.fq
      have S3 := d4.fb m5
      by_cases c : cdT b T u = 3000
      · have cu := (cd_3000 d2.1.b8 uT).mp c
        rw [if_pos (by rw [cu]), if_pos c]
        exact ⟨nI (L.length + 1), g3, rfl, ⟨by rw [lE], D3, S3⟩, a3.fq.z.tr (b3.tr m5.fq.z)⟩
      · have cu : ¬ nI u = nI T := fun z => c ((cd_3000 d2.1.b8 uT).mpr ((nI_eq (by omega) (by omega)).mp z))
        rw [if_neg cu, if_neg c, m6, bI_s]
        by_cases c2 : cdT b T u = 2059
        · obtain ⟨n1, n2⟩ := m7 c2
          have n3 := nx_lt (b := b) n1
          obtain ⟨v, g4, z1, z2, z3⟩ := ih (nx b T u) (L ++ [(w, e)]) (up2 g3 755 10 (nI (u + 1))) (by omega) (by rw [stp_app, stp_one, List.length_append]; omega) n2 D3.dd (S3.fb (FB.up (Or.inl rfl))) q
          rw [if_pos c2, if_neg (by decide), if_pos (s7 _), hI_u, m2, wr_s, sI_u, nI_1, ← lE, if_pos c2]
          refine ⟨v, g4, z1, ?_, a3.fq.z.tr (b3.tr (m5.fq.z.tr ((FB.up (Or.inl rfl)).fq.z.tr z3)))⟩
          cases hl : laP b T m (nx b T u) with
          | inl z => rw [hl] at z2; exact z2
          | inr l =>
            rw [hl] at z2
            have e0 : L ++ (w, e) :: l = L ++ [(w, e)] ++ l := by rw [List.append_assoc]; rfl
            show v = nI (L ++ (w, e) :: l).length ∧ DL g4 (L ++ (w, e) :: l) ∧ DR g4 (stpL (L ++ (w, e) :: l))
            rw [e0]
            exact z2
        · rw [if_neg c2, if_pos rfl, if_neg c2]
          exact ⟨-1, g3, rfl, ⟨rfl, m4⟩, a3.fq.z.tr (b3.tr m5.fq.z)⟩
end U61
