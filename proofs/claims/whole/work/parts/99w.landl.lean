/-! ===== a land's text: all lines of the class ===== -/
section U72
variable {h h' : Hp} {g g' g1 g2 G : Nat → Nat → Int32} {w w' : Nat → Int32} {b : Nat → Nat} {T p q n i j k m c s r d S M A a B N K y lo hi e nn hh : Nat} {v u x : Int32} {L l : List (Nat × Nat × Nat × Nat)} {z : Nat × Nat × Nat × Nat}
theorem C_mayBegin (tl : TSl h) (hc : c ≤ 5000) (e7 : g 6 7 = nI nn) (e8 : g 6 8 = nI hh) (n8 : nn ≤ 8) (h8 : hh ≤ 8) : f_LandText_mayBegin (uI h g) 6 (cK c) = some (if c = 1002 ∨ (c = 1015 ∧ nn < 8) ∨ c = 1016 ∨ (c = 1019 ∧ hh < 8) ∨ c = 1022 ∨ c = 1025 ∨ c = 1026 then 1 else 0, uI h g) := by
  have s6 : ∀ g, hS (uI h g) 6 = 5 := fun g => tl.1
  have ge8 : ∀ n, n ≤ 8 → ((8 : Int32) ≤ nI n ↔ ¬ n < 8) := by decide +kernel
  unfold f_LandText_mayBegin f_LandText_mayBegin_b0
  by_cases c1 : c = 1002
  · rw [if_pos (cK_ys (x := 1002) (c := 1002) (by decide) rfl c1), if_pos (Or.inl c1)]
  rw [if_neg (cK_no hc (x := 1002) (c := 1002) (by decide) rfl c1)]
  by_cases c2 : c = 1015
  · rw [if_pos (cK_ys (x := 1015) (c := 1015) (by decide) rfl c2), if_pos (s6 _), hI_u, e7]
    by_cases l : nn < 8
    · rw [if_neg (fun z => ((ge8 nn n8).mp z) l), if_pos (Or.inr (Or.inl ⟨c2, l⟩))]
    · rw [if_pos ((ge8 nn n8).mpr l), if_neg (by omega)]
  rw [if_neg (cK_no hc (x := 1015) (c := 1015) (by decide) rfl c2)]
  by_cases c3 : c = 1016
  · rw [if_pos (cK_ys (x := 1016) (c := 1016) (by decide) rfl c3), if_pos (by omega)]
  rw [if_neg (cK_no hc (x := 1016) (c := 1016) (by decide) rfl c3)]
  by_cases c4 : c = 1019
  · rw [if_pos (cK_ys (x := 1019) (c := 1019) (by decide) rfl c4), if_pos (s6 _), hI_u, e8]
    by_cases l : hh < 8
    · rw [if_neg (fun z => ((ge8 hh h8).mp z) l), if_pos (by omega)]
    · rw [if_pos ((ge8 hh h8).mpr l), if_neg (by omega)]
  rw [if_neg (cK_no hc (x := 1019) (c := 1019) (by decide) rfl c4)]
  by_cases c5 : c = 1022
  · rw [if_pos (cK_ys (x := 1022) (c := 1022) (by decide) rfl c5), if_pos (by omega)]
  rw [if_neg (cK_no hc (x := 1022) (c := 1022) (by decide) rfl c5)]
  by_cases c6 : c = 1025
  · rw [if_pos (cK_ys (x := 1025) (c := 1025) (by decide) rfl c6), if_pos (by omega)]
  rw [if_neg (cK_no hc (x := 1025) (c := 1025) (by decide) rfl c6)]
  by_cases c7 : c = 1026
  · rw [if_pos (cK_ys (x := 1026) (c := 1026) (by decide) rfl c7), if_pos (by omega)]
  rw [if_neg (cK_no hc (x := 1026) (c := 1026) (by decide) rfl c7), if_neg (by omega)]
theorem C_rest (t : TSt h) (tl : TSl h) (A : CA g b T p) (e7 : g 6 7 = nI nn) (e8 : g 6 8 = nI hh) (n8 : nn ≤ 8) (hc : c = 1002 ∨ (c = 1015 ∧ nn < 8) ∨ c = 1016 ∨ (c = 1019 ∧ hh < 8) ∨ c = 1022 ∨ c = 1025 ∨ c = 1026) {rr : Nat ⊕ ((Nat × Nat × Nat × Nat) × Nat)} (hr : rr = (if c = 1002 then saR b T p else if c = 1015 then ciR b T p else if c = 1016 then poR b T nn p else if c = 1019 then hoR b T nn p else if c = 1022 then leR b T nn p else if c = 1025 then seR b T nn 1025 p else seR b T nn 1026 p)) : ∃ v g', f_LandText_isRest (uI h g) 6 (cK c) = some (v, uI h g') ∧ CLd rr nn hh v g' b T ∧ F6l g g' := by
  subst hr
  rcases hc with rfl | ⟨rfl, -⟩ | rfl | ⟨rfl, -⟩ | rfl | rfl | rfl
  · exact C_saR t tl A e7 e8
  · exact C_ciR t tl A e7 e8
  · exact C_poR t tl A e7 e8 n8
  · exact C_hoR t tl A e7 e8 n8
  · exact C_leR t tl A e7 e8 n8
  · exact C_seR t tl A e7 e8 n8 (Or.inl rfl)
  · exact C_seR t tl A e7 e8 n8 (Or.inr rfl)
def FLd (g g' : Nat → Nat → Int32) : Prop := (∀ r, r ≠ 2 → ¬ (6 ≤ r ∧ r ≤ 10) → g' r = g r) ∧ g' 6 1 = g 6 1
theorem FLd.tr (x : FLd g g1) (y : FLd g1 g') : FLd g g' := ⟨fun r h1 h2 => (y.1 r h1 h2).trans (x.1 r h1 h2), y.2.trans x.2⟩
theorem F6l.dd (x : F6l g g') : FLd g g' := ⟨fun r h1 h2 => x.1 r h1 (by omega), x.2 1 (Or.inl rfl)⟩
def nnU (z : Nat × Nat × Nat × Nat) (nn : Nat) : Nat := if z.1 = 1015 then nn + 1 else nn
def hhU (z : Nat × Nat × Nat × Nat) (hh : Nat) : Nat := if z.1 = 1019 then hh + 1 else hh
/-- what the class has read and written of a line -/
def CLx (r : Nat ⊕ ((Nat × Nat × Nat × Nat) × Nat)) (L : List (Nat × Nat × Nat × Nat)) (nn hh : Nat) (v : Int32) (g : Nat → Nat → Int32) (b : Nat → Nat) (T : Nat) : Prop := match r with
  | .inl q => v = 0 ∧ g 2 5 = nI q
  | .inr (z, q) => v = 1 ∧ CA g b T q ∧ LND g (L ++ [z]) ∧ g 6 7 = nI (nnU z nn) ∧ g 6 8 = nI (hhU z hh)
theorem C_dline (t : TSt h) (tl : TSl h) (A : CA g b T p) (P : LND g L) (e7 : g 6 7 = nI nn) (e8 : g 6 8 = nI hh) (n8 : nn ≤ 8) (h8 : hh ≤ 8) (hl : L.length < 14) : ∃ v g', f_LandText_isLine (uI h g) 6 = some (v, uI h g') ∧ CLx (ldP b T nn hh p) L nn hh v g' b T ∧ FLd g g' := by
  have s2 : ∀ g, hS (uI h g) 2 = 9 := fun g => t.1
  have s6 : ∀ g, hS (uI h g) 6 = 5 := fun g => tl.1
  have r0 : ∀ g, hR (uI h g) 6 0 = 2 := fun g => tl.2.1.1
  have r3 : ∀ g, hR (uI h g) 6 3 = 7 := fun g => tl.2.1.2.1
  have r4 : ∀ g, hR (uI h g) 6 4 = 8 := fun g => tl.2.1.2.2.1
  have r5 : ∀ g, hR (uI h g) 6 5 = 9 := fun g => tl.2.1.2.2.2.1
  have r6 : ∀ g, hR (uI h g) 6 6 = 10 := fun g => tl.2.1.2.2.2.2
  have s7 : ∀ g, hS (uI h g) 7 = 20 := fun g => tl.2.2.1.1
  have s8 : ∀ g, hS (uI h g) 8 = 20 := fun g => tl.2.2.2.1.1
  have s9 : ∀ g, hS (uI h g) 9 = 20 := fun g => tl.2.2.2.2.1.1
  have s10 : ∀ g, hS (uI h g) 10 = 20 := fun g => tl.2.2.2.2.2.1
  have l7 : ∀ g, hL (uI h g) 7 = 14 := fun g => tl.2.2.1.2
  have l8 : ∀ g, hL (uI h g) 8 = 14 := fun g => tl.2.2.2.1.2
  have l9 : ∀ g, hL (uI h g) 9 = 14 := fun g => tl.2.2.2.2.1.2
  have l10 : ∀ g, hL (uI h g) 10 = 14 := fun g => tl.2.2.2.2.2.2
  have cd := A.cd
  unfold f_LandText_isLine f_LandText_isLine_b0
  rw [if_pos (s6 _), r0, if_pos (s2 _), C_code t A, bI_s, if_pos (s6 _), C_mayBegin tl cd e7 e8 n8 h8, bI_s]
  by_cases ok : cdT b T p = 1002 ∨ (cdT b T p = 1015 ∧ nn < 8) ∨ cdT b T p = 1016 ∨ (cdT b T p = 1019 ∧ hh < 8) ∨ cdT b T p = 1022 ∨ cdT b T p = 1025 ∨ cdT b T p = 1026
  · have hp : p < T := cd_T (b := b) (by omega)
    obtain ⟨g1, a1, a2, a3⟩ := C_step t A hp
    obtain ⟨v, g2, b1, b2, b3⟩ := C_rest (c := cdT b T p) (rr := ldP b T nn hh p) t tl a2 (by rw [a3.c6]; exact e7) (by rw [a3.c6]; exact e8) n8 ok (by
      unfold ldP
      by_cases c1 : cdT b T p = 1002
      · rw [if_pos c1, if_pos c1]
      rw [if_neg c1, if_neg c1]
      by_cases c2 : cdT b T p = 1015
      · rw [if_pos c2, if_pos c2, if_pos (by omega)]
      rw [if_neg c2, if_neg c2]
      by_cases c3 : cdT b T p = 1016
      · rw [if_pos c3, if_pos c3]
      rw [if_neg c3, if_neg c3]
      by_cases c4 : cdT b T p = 1019
      · rw [if_pos c4, if_pos c4, if_pos (by omega)]
      rw [if_neg c4, if_neg c4]
      by_cases c5 : cdT b T p = 1022
      · rw [if_pos c5, if_pos c5]
      rw [if_neg c5, if_neg c5]
      by_cases c6 : cdT b T p = 1025
      · rw [if_pos c6, if_pos c6]
      rw [if_neg c6, if_neg c6, if_pos (by omega)])
    have F2 := a3.l6.tr b3
    rw [if_pos ok, if_neg (by decide), if_pos (s6 _), r0, if_pos (s2 _), a1, bV_s, if_pos (s6 _), b1, bI_s]
    cases hr : ldP b T nn hh p with
    | inl q =>
      rw [hr] at b2
      rw [b2.1, if_pos rfl]
      exact ⟨0, g2, rfl, ⟨rfl, b2.2⟩, F2.dd⟩
    | inr zq =>
      obtain ⟨z, q⟩ := zq
      rw [hr] at b2
      obtain ⟨d1, d2, d3, d4, d5, d6, d7⟩ := b2
      obtain ⟨ev, -, -, -⟩ := ld_ok n8 hr
      have k2 : g2 6 2 = nI L.length := by rw [F2.2 2 (Or.inr rfl)]; exact P.1
      have lE : (L ++ [z]).length = L.length + 1 := List.length_append
      have ec : cK (cdT b T p) = nI z.1 := by rw [ev, cK_n (by omega)]
      have old : ∀ r, 7 ≤ r → r ≤ 10 → g2 r = g r := fun r h1 h2 => F2.1 r (by omega) (by omega)
      rw [d1, if_neg (by decide), if_pos (s6 _), hI_u, k2, if_pos (show nI L.length < (14 : Int32) from nI_lt (b := 14) hl (by decide)), r3, if_pos (s7 _), l7, if_pos (ib_n hl (by decide)), ix_n (by omega), wr_s, sI_u,
        r4, if_pos (s8 _), hI_u, up_r (by decide), k2, l8, if_pos (ib_n hl (by decide)), ix_n (by omega), up_r (by decide), wr_s, sI_u,
        r5, if_pos (s9 _), hI_u, up_r (by decide), up_r (by decide), k2, l9, if_pos (ib_n hl (by decide)), ix_n (by omega), up_r (by decide), up_r (by decide), wr_s, sI_u,
        r6, if_pos (s10 _), hI_u, up_r (by decide), up_r (by decide), up_r (by decide), k2, l10, if_pos (ib_n hl (by decide)), ix_n (by omega), up_r (by decide), up_r (by decide), up_r (by decide), wr_s, sI_u, hI_u, up_r (by decide), up_r (by decide), up_r (by decide), up_r (by decide), k2, wr_s, sI_u, nI_1]
      refine ⟨1, _, rfl, ⟨rfl, d2.fr fun r hr => by rw [up_row (by omega), up_row (by omega), up_row (by omega), up_row (by omega), up_row (by omega)], ⟨by rw [up_eq, lE], fun k v a b c hk => ?_⟩, ?_, ?_⟩, F2.dd.tr ⟨fun r h1 h2 => by rw [up_row (by omega), up_row (by omega), up_row (by omega), up_row (by omega), up_row (by omega)], by rw [up_k (by decide), up_r (by decide), up_r (by decide), up_r (by decide), up_r (by decide)]⟩⟩
      · by_cases q : k < L.length
        · rw [List.getElem?_append_left q] at hk
          obtain ⟨y1, y2, y3, y4⟩ := P.2 k v a b c hk
          refine ⟨?_, ?_, fun z => ?_, fun z => ?_⟩
          · rw [up_r (by decide), up_r (by decide), up_r (by decide), up_r (by decide), up_k (by omega), old 7 (by decide) (by decide)]; exact y1
          · rw [up_r (by decide), up_r (by decide), up_r (by decide), up_k (by omega), up_r (by decide), old 8 (by decide) (by decide)]; exact y2
          · rw [up_r (by decide), up_r (by decide), up_k (by omega), up_r (by decide), up_r (by decide), old 9 (by decide) (by decide)]; exact y3 z
          · rw [up_r (by decide), up_k (by omega), up_r (by decide), up_r (by decide), up_r (by decide), old 10 (by decide) (by decide)]; exact y4 z
        · by_cases q2 : k = L.length
          · subst q2
            rw [List.getElem?_append_right (Nat.le_refl _), Nat.sub_self] at hk
            cases hk
            refine ⟨?_, ?_, fun z => ?_, fun z => ?_⟩
            · rw [up_r (by decide), up_r (by decide), up_r (by decide), up_r (by decide), up_eq]; exact ec
            · rw [up_r (by decide), up_r (by decide), up_r (by decide), up_eq]; exact d3
            · rw [up_r (by decide), up_r (by decide), up_eq]; exact d4 z
            · rw [up_r (by decide), up_eq]; exact d5 z
          · rw [List.getElem?_eq_none (by rw [lE]; omega)] at hk
            cases hk
      · rw [up_k (by decide), up_r (by decide), up_r (by decide), up_r (by decide), up_r (by decide)]; exact d6
      · rw [up_k (by decide), up_r (by decide), up_r (by decide), up_r (by decide), up_r (by decide)]; exact d7
  · obtain ⟨g1, a1, a2, a3⟩ := C_fail t A
    rw [if_neg ok, if_pos rfl, if_pos (s6 _), r0, if_pos (s2 _), a1, bI_s, if_pos (Or.inl rfl)]
    refine ⟨0, g1, rfl, ?_, a3.l6.dd⟩
    have : ldP b T nn hh p = .inl p := by
      unfold ldP
      rw [if_neg (by omega)]
      by_cases c2 : cdT b T p = 1015
      · rw [if_pos c2, if_neg (by omega)]
      rw [if_neg c2, if_neg (by omega)]
      by_cases c4 : cdT b T p = 1019
      · rw [if_pos c4, if_neg (by omega)]
      rw [if_neg c4, if_neg (by omega), if_neg (by omega), if_neg (by omega)]
    rw [this]
    exact ⟨rfl, a2⟩
/-- the lines from p on, m more at most -/
def laD (b : Nat → Nat) (T : Nat) : Nat → Nat → Nat → Nat → Nat ⊕ List (Nat × Nat × Nat × Nat)
  | 0, _, _, p => .inl p
  | m + 1, nn, hh, p => match ldP b T nn hh p with
    | .inl z => .inl z
    | .inr (z, q) => if cdT b T q = 3000 then .inr [z] else if cdT b T q = 2059 then (match laD b T m (nnU z nn) (hhU z hh) (nx b T q) with
      | .inl z => .inl z
      | .inr l => .inr (z :: l)) else .inl q
def laDT (b : Nat → Nat) (T nn hh : Nat) : Nat ⊕ List (Nat × Nat × Nat × Nat) := if cdT b T (bk b T 0) = 3000 then .inr [] else laD b T 14 nn hh (bk b T 0)
/-- what the class has read of a land -/
def CLw (r : Nat ⊕ List (Nat × Nat × Nat × Nat)) (L : List (Nat × Nat × Nat × Nat)) (v : Int32) (g : Nat → Nat → Int32) : Prop := match r with
  | .inl q => v = 0 ∧ g 2 5 = nI q
  | .inr l => v = 1 ∧ g 2 5 = -1 ∧ LND g (L ++ l)
theorem LOp.up8 (o : LOp nn hh z) (n8 : nn ≤ 8) (h8 : hh ≤ 8) : nnU z nn ≤ 8 ∧ hhU z hh ≤ 8 := by
  unfold nnU hhU
  rcases o with ⟨e, o, -⟩ | ⟨e, -⟩ | ⟨e, -⟩ | ⟨e, o, -⟩ | ⟨e, -⟩ | ⟨e, -⟩
  · rw [if_pos e, if_neg (by omega)]; omega
  · rw [if_neg (by omega), if_neg (by omega)]; omega
  · rw [if_neg (by omega), if_neg (by omega)]; omega
  · rw [if_neg (by omega), if_pos e]; omega
  · rw [if_neg (by omega), if_neg (by omega)]; omega
  · rw [if_neg (by omega), if_neg (by omega)]; omega
theorem C_dread_L (t : TSt h) (tl : TSl h) : ∀ (m p nn hh : Nat) (L : List (Nat × Nat × Nat × Nat)) (g : Nat → Nat → Int32), L.length + m = 14 → CA g b T p → LND g L → g 6 1 = 14 → g 6 7 = nI nn → g 6 8 = nI hh → nn ≤ 8 → hh ≤ 8 → ∀ q, ∃ v g', f_Lines_isRead_4_L24 (q + m + 1) (uI h g) 6 (nI L.length) = some (v, uI h g') ∧ CLw (laD b T m nn hh p) L v g' ∧ FLd g g' := by
  have s2 : ∀ g, hS (uI h g) 2 = 9 := fun g => t.1
  have s6 : ∀ g, hS (uI h g) 6 = 5 := fun g => tl.1
  have r0 : ∀ g, hR (uI h g) 6 0 = 2 := fun g => tl.2.1.1
  intro m
  induction m with
  | zero =>
    intro p nn hh L g hm A P g1 e7 e8 n8 h8 q
    obtain ⟨g', f1, f2, f3⟩ := C_fail t A
    refine ⟨0, g', ?_, ⟨rfl, f2⟩, f3.l6.dd⟩
    show f_Lines_isRead_4_b24 (f_Lines_isRead_4_L24 q) (uI h g) 6 (nI L.length) = _
    unfold f_Lines_isRead_4_b24
    rw [if_pos (s6 _), hI_u, g1, if_pos (show (14 : Int32) ≤ nI L.length from nI_le (a := 14) (by omega) (by omega)), r0, if_pos (s2 _), f1, bI_s, if_pos (Or.inl rfl)]
  | succ m ih =>
    intro p nn hh L g hm A P g1 e7 e8 n8 h8 q
    obtain ⟨v1, g2, a1, a2, a3⟩ := C_dline t tl A P e7 e8 n8 h8 (by omega)
    have E0 : f_Lines_isRead_4_L24 (q + (m + 1) + 1) (uI h g) 6 (nI L.length) = f_Lines_isRead_4_b24 (f_Lines_isRead_4_L24 (q + m + 1)) (uI h g) 6 (nI L.length) := rfl
    rw [E0]
    unfold f_Lines_isRead_4_b24 laD
    rw [if_pos (s6 _), hI_u, g1, if_neg (show ¬ (14 : Int32) ≤ nI L.length from nI_ge (b := 14) (by omega) (by decide)), a1, bI_s]
    cases hr : ldP b T nn hh p with
    | inl z =>
      rw [hr] at a2
      rw [a2.1, if_pos rfl]
      exact ⟨0, g2, rfl, ⟨rfl, a2.2⟩, a3⟩
    | inr u =>
      obtain ⟨z, u⟩ := u
      rw [hr] at a2
      obtain ⟨d1, d2, d3, d4, d5⟩ := a2
      obtain ⟨k1, k2, k3, k4⟩ := ld_ok n8 hr
      obtain ⟨n8', h8'⟩ := k4.up8 n8 h8
      rw [d1, if_neg (by decide), if_pos (s6 _), r0, if_pos (s2 _), C_is (x := 3000) t d2 (c := 3000) (by decide) rfl, bI_s]
      show ∃ v g', _ ∧ CLw (if cdT b T u = 3000 then .inr [z] else if cdT b T u = 2059 then (match laD b T m (nnU z nn) (hhU z hh) (nx b T u) with
        | .inl z => .inl z
        | .inr l => .inr (z :: l)) else .inl u) L v g' ∧ FLd g g'
      by_cases c : cdT b T u = 3000
      · rw [if_pos c, if_pos c, if_neg (by decide)]
        exact ⟨1, g2, rfl, ⟨rfl, d2.2.2.1, d3⟩, a3⟩
      · rw [if_neg c, if_neg c, if_pos rfl, if_pos (s6 _), r0, if_pos (s2 _)]
        rcases C_takes (x := 2059) (c := 2059) t d2 (by decide) rfl with ⟨c2, hq, g3, b1, b2, b3⟩ | ⟨c2, g3, b1, b2, b3⟩
        · have lE : (L ++ [z]).length = L.length + 1 := List.length_append
          have D3 : LND g3 (L ++ [z]) := ⟨by rw [b3.c6]; exact d3.1, fun k v a b c hk => by rw [b3 7 (by decide), b3 8 (by decide), b3 9 (by decide), b3 10 (by decide)]; exact d3.2 k v a b c hk⟩
          obtain ⟨v, g4, z1, z2, z3⟩ := ih (nx b T u) (nnU z nn) (hhU z hh) (L ++ [z]) g3 (by omega) b2 D3 (by rw [b3.c6, a3.2]; exact g1) (by rw [b3.c6]; exact d4) (by rw [b3.c6]; exact d5) n8' h8' q
          rw [if_pos c2, b1, bI_s, if_neg (by decide), nI_1, ← lE]
          refine ⟨v, g4, z1, ?_, a3.tr (b3.l6.dd.tr z3)⟩
          cases hl : laD b T m (nnU z nn) (hhU z hh) (nx b T u) with
          | inl z => rw [hl] at z2; exact z2
          | inr l =>
            rw [hl] at z2
            refine ⟨z2.1, z2.2.1, ?_⟩
            have := z2.2.2
            rw [List.append_assoc] at this
            exact this
        · rw [if_neg c2, b1, bI_s, if_pos rfl]
          exact ⟨0, g3, rfl, ⟨rfl, b2⟩, a3.tr b3.l6.dd⟩
/-- the class reads a land -/
theorem C_dread (t : TSt h) (tl : TSl h) (B : BC g b T) (e2 : g 6 2 = 0) (e1 : g 6 1 = 14) (e7 : g 6 7 = nI nn) (e8 : g 6 8 = nI hh) (n8 : nn ≤ 8) (h8 : hh ≤ 8) : ∃ v g', f_Lines_isRead_4 (uI h g) 6 = some (v, uI h g') ∧ CLw (laDT b T nn hh) [] v g' ∧ (∀ r, r ≠ 2 → r ≠ 4 → r ≠ 5 → ¬ (6 ≤ r ∧ r ≤ 10) → g' r = g r) ∧ g' 6 1 = g 6 1 := by
  have s2 : ∀ g, hS (uI h g) 2 = 9 := fun g => t.1
  have s6 : ∀ g, hS (uI h g) 6 = 5 := fun g => tl.1
  have r0 : ∀ g, hR (uI h g) 6 0 = 2 := fun g => tl.2.1.1
  obtain ⟨g1, a1, a2, a3⟩ := C_cut t B
  have r6 := a3 6 (by decide) (by decide) (by decide)
  have P : LND g1 [] := ⟨by rw [r6]; exact e2, fun k v a b c hk => by cases hk⟩
  unfold f_Lines_isRead_4 f_Lines_isRead_4_b0 laDT
  rw [if_pos (s6 _), r0, if_pos (s2 _), a1, bV_s, if_pos (s6 _), r0, if_pos (s2 _), C_is (x := 3000) t a2 (c := 3000) (by decide) rfl, bI_s]
  by_cases c : cdT b T (bk b T 0) = 3000
  · rw [if_pos c, if_pos c, if_neg (by decide)]
    exact ⟨1, g1, rfl, ⟨rfl, a2.2.2.1, P⟩, fun r h2 h4 h5 _ => a3 r h2 h4 h5, by rw [r6]⟩
  · rw [if_neg c, if_neg c, if_pos rfl]
    obtain ⟨v, g2, z1, z2, z3⟩ := C_dread_L t tl 14 (bk b T 0) nn hh [] g1 rfl a2 P (by rw [r6]; exact e1) (by rw [r6]; exact e7) (by rw [r6]; exact e8) n8 h8 999985
    exact ⟨v, g2, z1, z2, fun r h2 h4 h5 h6 => (z3.1 r h2 h6).trans (a3 r h2 h4 h5), z3.2.trans (by rw [r6])⟩
end U72
