/-! ===== the class cuts a text into things ===== -/
section U53
variable {h : Hp} {g g' g1 : Nat → Nat → Int32} {b : Nat → Nat} {P : Nat → Bool} {T p q n i j k m c s e lo hi : Nat} {l : List Nat} {ws : List (List Nat)} {x v : Int32}
/-- the bytes of the tape -/
def BC (g : Nat → Nat → Int32) (b : Nat → Nat) (T : Nat) : Prop := g 2 1 = nI T ∧ T ≤ 400 ∧ ∀ k, k < T → (g 3 k) &&& (255 : Int32) = nI (b k) ∧ b k < 256
theorem C_by (t : TSt h) (B : BC g b T) (hp : p < T) : f_Tape_byteAt (uI h g) 2 (nI p) = some (nI (b p), uI h g) := by
  rw [C_byte t B.1 B.2.1 hp, (B.2.2 p hp).1]
theorem lt_c (hn : n < 256) (hc : c < 256) : nI n < nI c ↔ n < c := nI_ltI (by omega) (by omega)
theorem C_letter (t : TSt h) (B : BC g b T) (hp : p < T) : f_Tape_isLetter (uI h g) 2 (nI p) = some (if lB b p = true then 1 else 0, uI h g) := by
  have s2 : hS (uI h g) 2 = 9 := t.1
  have h1 := (B.2.2 p hp).2
  unfold f_Tape_isLetter f_Tape_isLetter_b0
  rw [if_pos s2, C_by t B hp, bI_s, if_pos s2, C_by t B hp, bI_s, show (97 : Int32) = nI 97 from rfl, show (122 : Int32) = nI 122 from rfl]
  by_cases a : b p < 97
  · rw [if_pos ((lt_c h1 (by decide)).mpr a), if_neg (by rw [lB_i]; omega)]
  · rw [if_neg (fun z => a ((lt_c h1 (by decide)).mp z))]
    by_cases a2 : 122 < b p
    · rw [if_pos ((lt_c (by decide) h1).mpr a2), if_neg (by rw [lB_i]; omega)]
    · rw [if_neg (fun z => a2 ((lt_c (by decide) h1).mp z)), if_pos (lB_i.mpr (by omega))]
theorem C_digit (t : TSt h) (B : BC g b T) (hp : p < T) : f_Tape_isDigit (uI h g) 2 (nI p) = some (if dB b p = true then 1 else 0, uI h g) := by
  have s2 : hS (uI h g) 2 = 9 := t.1
  have h1 := (B.2.2 p hp).2
  unfold f_Tape_isDigit f_Tape_isDigit_b0
  rw [if_pos s2, C_by t B hp, bI_s, if_pos s2, C_by t B hp, bI_s, show (48 : Int32) = nI 48 from rfl, show (57 : Int32) = nI 57 from rfl]
  by_cases a : b p < 48
  · rw [if_pos ((lt_c h1 (by decide)).mpr a), if_neg (by rw [dB_i]; omega)]
  · rw [if_neg (fun z => a ((lt_c h1 (by decide)).mp z))]
    by_cases a2 : 57 < b p
    · rw [if_pos ((lt_c (by decide) h1).mpr a2), if_neg (by rw [dB_i]; omega)]
    · rw [if_neg (fun z => a2 ((lt_c (by decide) h1).mp z)), if_pos (dB_i.mpr (by omega))]
theorem C_blanks_L (t : TSt h) (B : BC g b T) : ∀ (m p : Nat), p + m = T → ∀ q, f_Tape_behindBlanks_L2 (q + m + 1) (uI h g) 2 (nI p) = some (nI (bk b T p), uI h g) := by
  have s2 : hS (uI h g) 2 = 9 := t.1
  have hT := B.2.1
  intro m
  induction m with
  | zero =>
    intro p hp q
    show f_Tape_behindBlanks_b2 (f_Tape_behindBlanks_L2 q) (uI h g) 2 (nI p) = _
    unfold f_Tape_behindBlanks_b2 bk
    rw [if_pos s2, hI_u, B.1, if_pos (nI_le (by omega) (by omega)), sc_end (by omega)]
  | succ m ih =>
    intro p hp q
    show f_Tape_behindBlanks_b2 (f_Tape_behindBlanks_L2 (q + m + 1)) (uI h g) 2 (nI p) = _
    have hb := (B.2.2 p (by omega)).2
    unfold f_Tape_behindBlanks_b2
    rw [if_pos s2, hI_u, B.1, if_neg (nI_ge (by omega) (by omega)), C_by t B (by omega), bI_s, show (32 : Int32) = nI 32 from rfl]
    by_cases e : b p = 32
    · rw [if_pos (by rw [e]), nI_1, ih (p + 1) (by omega) q]
      unfold bk
      rw [sc_yes (p := p) (by omega) (zB_i.mpr e)]
    · rw [if_neg (fun z => e ((nI_eq (by omega) (by decide)).mp z))]
      unfold bk
      rw [sc_no (fun z => e (zB_i.mp z))]
theorem C_blanks (t : TSt h) (B : BC g b T) (hp : p ≤ T) : f_Tape_behindBlanks (uI h g) 2 (nI p) = some (nI (bk b T p), uI h g) := by
  have hT := B.2.1
  have := C_blanks_L t B (T - p) p (by omega) (999999 - (T - p))
  rw [← FU_mm (by omega)] at this
  exact this
theorem C_thing_L (t : TSt h) (B : BC g b T) {x2 x3 : Int32} (hP : ∀ k, P k = true ↔ (x2 ≠ 0 ∧ lB b k = true) ∨ (x3 ≠ 0 ∧ dB b k = true)) : ∀ (m p : Nat), p + m = T → ∀ q, f_Tape_behindThing_L17 (q + m + 1) (uI h g) 2 x2 x3 (nI p) = some (nI (sc P T p), uI h g) := by
  have s2 : hS (uI h g) 2 = 9 := t.1
  have hT := B.2.1
  intro m
  induction m with
  | zero =>
    intro p hp q
    show f_Tape_behindThing_b17 (f_Tape_behindThing_L17 q) (uI h g) 2 x2 x3 (nI p) = _
    unfold f_Tape_behindThing_b17
    rw [if_pos s2, hI_u, B.1, if_pos (nI_le (by omega) (by omega)), sc_end (by omega)]
  | succ m ih =>
    intro p hp q
    show f_Tape_behindThing_b17 (f_Tape_behindThing_L17 (q + m + 1)) (uI h g) 2 x2 x3 (nI p) = _
    have nxt := ih (p + 1) (by omega) q
    have k39 : ¬ (x2 ≠ 0 ∧ lB b p = true) → f_Tape_behindThing_b39 (f_Tape_behindThing_L17 (q + m + 1)) (uI h g) 2 x2 x3 (nI p) = some (nI (sc P T p), uI h g) := by
      intro no
      unfold f_Tape_behindThing_b39
      by_cases e3 : x3 = 0
      · rw [if_pos e3, sc_no (fun z => by
          rcases (hP p).mp z with z | z
          · exact no z
          · exact z.1 e3)]
      · rw [if_neg e3, if_pos s2, C_digit t B (by omega), bI_s]
        by_cases e4 : dB b p = true
        · rw [if_pos e4, if_neg (by decide)]
          unfold f_Tape_behindThing_b52
          rw [nI_1, nxt, sc_yes (p := p) (by omega) ((hP p).mpr (Or.inr ⟨e3, e4⟩))]
        · rw [if_neg e4, if_pos rfl, sc_no (fun z => by
            rcases (hP p).mp z with z | z
            · exact no z
            · exact e4 z.2)]
    unfold f_Tape_behindThing_b17
    rw [if_pos s2, hI_u, B.1, if_neg (nI_ge (by omega) (by omega))]
    by_cases e2 : x2 = 0
    · rw [if_pos e2]
      exact k39 fun z => z.1 e2
    · rw [if_neg e2, C_letter t B (by omega), bI_s]
      by_cases e4 : lB b p = true
      · rw [if_pos e4, if_neg (by decide)]
        unfold f_Tape_behindThing_b52
        rw [nI_1, nxt, sc_yes (p := p) (by omega) ((hP p).mpr (Or.inl ⟨e2, e4⟩))]
      · rw [if_neg e4, if_pos rfl]
        exact k39 fun z => e4 z.2
theorem C_thing (t : TSt h) (B : BC g b T) (hp : p < T) : f_Tape_behindThing (uI h g) 2 (nI p) = some (nI (th b T p), uI h g) := by
  have s2 : hS (uI h g) 2 = 9 := t.1
  have hT := B.2.1
  have key : ∀ (x2 x3 : Int32) (P : Nat → Bool), (∀ k, P k = true ↔ (x2 ≠ 0 ∧ lB b k = true) ∨ (x3 ≠ 0 ∧ dB b k = true)) → f_Tape_behindThing_L17 FU (uI h g) 2 x2 x3 (nI (p + 1)) = some (nI (sc P T (p + 1)), uI h g) := by
    intro x2 x3 P hP
    have := C_thing_L t B hP (T - (p + 1)) (p + 1) (by omega) (999999 - (T - (p + 1)))
    rw [← FU_mm (by omega)] at this
    exact this
  unfold f_Tape_behindThing f_Tape_behindThing_b0 th
  rw [if_pos s2, C_letter t B hp, bI_s, if_pos s2, C_digit t B hp, bI_s, nI_1]
  by_cases e1 : lB b p = true
  · rw [if_pos e1, if_pos e1, if_neg (l_nd e1)]
    exact key 1 0 (lB b) fun k => ⟨fun z => Or.inl ⟨by decide, z⟩, fun z => z.elim (fun z => z.2) fun z => absurd rfl z.1⟩
  · rw [if_neg e1, if_neg e1]
    by_cases e2 : dB b p = true
    · rw [if_pos e2, if_pos e2]
      exact key 0 1 (dB b) fun k => ⟨fun z => Or.inr ⟨by decide, z⟩, fun z => z.elim (fun z => absurd rfl z.1) fun z => z.2⟩
    · rw [if_neg e2, if_neg e2, key 0 0 (fun _ => false) fun k => ⟨fun z => absurd z (by decide), fun z => z.elim (fun z => absurd rfl z.1) fun z => absurd rfl z.1⟩, sc_no (by decide)]
theorem C_same_L (t : TSt h) (B : BC g b T) (hs : s + n < 1000) (hl : jlen (STR + 0) = nI 137) (h0 : s + n ≤ 137) (hp : p + n ≤ T) : ∀ (j i : Nat), i + j = n → ∀ q,
    (f_Tape_isSame_L3 (q + j + 1) (uI h g) 2 (nI s) (nI p) (nI n) (nI i) = some (1, uI h g) ∧ ∀ k, i ≤ k → k < n → jch (STR + 0) (nI (s + k)) = nI (b (p + k))) ∨ (f_Tape_isSame_L3 (q + j + 1) (uI h g) 2 (nI s) (nI p) (nI n) (nI i) = some (0, uI h g) ∧ ∃ k, i ≤ k ∧ k < n ∧ jch (STR + 0) (nI (s + k)) ≠ nI (b (p + k))) := by
  have s2 : hS (uI h g) 2 = 9 := t.1
  have js : jst (STR + 0) := ⟨Nat.le_refl _, by omega⟩
  have ln : (stx (STR + 0)).length = 137 := by decide +kernel
  have hT := B.2.1
  intro j
  induction j with
  | zero =>
    intro i hi q
    left
    refine ⟨?_, fun k h1 h2 => by omega⟩
    show f_Tape_isSame_b3 (f_Tape_isSame_L3 q) (uI h g) 2 (nI s) (nI p) (nI n) (nI i) = _
    unfold f_Tape_isSame_b3
    rw [if_pos (nI_le (by omega) (by omega))]
  | succ j ih =>
    intro i hi q
    have E : f_Tape_isSame_L3 (q + (j + 1) + 1) (uI h g) 2 (nI s) (nI p) (nI n) (nI i) = f_Tape_isSame_b3 (f_Tape_isSame_L3 (q + j + 1)) (uI h g) 2 (nI s) (nI p) (nI n) (nI i) := rfl
    have F : f_Tape_isSame_b3 (f_Tape_isSame_L3 (q + j + 1)) (uI h g) 2 (nI s) (nI p) (nI n) (nI i) = if jch (STR + 0) (nI (s + i)) = nI (b (p + i)) then f_Tape_isSame_L3 (q + j + 1) (uI h g) 2 (nI s) (nI p) (nI n) (nI (i + 1)) else some (0, uI h g) := by
      unfold f_Tape_isSame_b3
      rw [if_neg (nI_ge (by omega) (by omega)), if_pos js, hl, nI_add, if_neg (nI_ge (by omega) (by omega)), if_pos js, ln, if_pos (ib_n (by omega) (by decide)), if_pos s2, nI_add, C_by t B (by omega), bI_s, nI_1]
    rw [E, F]
    by_cases c : jch (STR + 0) (nI (s + i)) = nI (b (p + i))
    · rw [if_pos c]
      rcases ih (i + 1) (by omega) q with ⟨z1, z2⟩ | ⟨z1, k, z2, z3, z4⟩
      · refine Or.inl ⟨z1, fun k h1 h2 => ?_⟩
        by_cases ek : k = i
        · subst ek; exact c
        · exact z2 k (by omega) h2
      · exact Or.inr ⟨z1, k, by omega, z3, z4⟩
    · rw [if_neg c]
      exact Or.inr ⟨rfl, i, Nat.le_refl _, by omega, c⟩
/-- the words stand in the text from s on -/
def woB : List (List Nat) → Nat → Bool
  | [], s => decide (s = 137)
  | w :: ws, s => decide (s + w.length < 137) && ((List.range w.length).all fun k => decide (jch (STR + 0) (nI (s + k)) = nI (w.getD k 0)) && decide (jch (STR + 0) (nI (s + k)) ≠ (32 : Int32))) && decide (jch (STR + 0) (nI (s + w.length)) = (32 : Int32)) && woB ws (s + w.length + 1)
theorem wo_wrds : woB wrds 0 = true := by decide +kernel
theorem jl0 : jlen (STR + 0) = nI 137 := by decide +kernel
theorem jl0' : (stx (STR + 0)).length = 137 := by decide +kernel
def toW : List (List Nat) → Nat
  | [] => 0
  | w :: ws => w.length + 1 + toW ws
theorem C_word_L (t : TSt h) (B : BC g b T) (hp : p + n ≤ T) : ∀ (ws : List (List Nat)) (s c : Nat), woB ws s = true → (∀ w ∈ ws, ∀ x ∈ w, x < 256) → c + ws.length ≤ 4000 → ∀ q, f_Tape_wordCode_L10 (q + toW ws + 1) (uI h g) 2 (nI p) (nI (p + n)) (nI c) (nI s) (nI s) = some (cK (wcF ws c (sl b p n)), uI h g) := by
  have s2 : hS (uI h g) 2 = 9 := t.1
  have js : jst (STR + 0) := ⟨Nat.le_refl _, by omega⟩
  have hT := B.2.1
  intro ws
  induction ws with
  | nil =>
    intro s c W _ _ q
    have W : s = 137 := of_decide_eq_true W
    show f_Tape_wordCode_b10 (f_Tape_wordCode_L10 q) (uI h g) 2 (nI p) (nI (p + n)) (nI c) (nI s) (nI s) = _
    unfold f_Tape_wordCode_b10
    rw [if_pos js, jl0, W, if_pos (Int32.le_refl _)]
    rfl
  | cons w ws ih =>
    intro s c W az hc q
    have hc : c + (ws.length + 1) ≤ 4000 := hc
    unfold woB at W
    rw [Bool.and_eq_true, Bool.and_eq_true, Bool.and_eq_true, decide_eq_true_iff, decide_eq_true_iff, List.all_eq_true] at W
    obtain ⟨⟨⟨W1, W2⟩, W3⟩, W4⟩ := W
    have W2 : ∀ k, k < w.length → jch (STR + 0) (nI (s + k)) = nI (w.getD k 0) ∧ jch (STR + 0) (nI (s + k)) ≠ (32 : Int32) := fun k hk => by
      have z := W2 k (List.mem_range.mpr hk)
      rw [Bool.and_eq_true, decide_eq_true_iff, decide_eq_true_iff] at z
      exact z
    have st : ∀ (j i : Nat), i + j = w.length → f_Tape_wordCode_L10 (q + toW ws + 1 + j + 1) (uI h g) 2 (nI p) (nI (p + n)) (nI c) (nI s) (nI (s + i)) = f_Tape_wordCode_L10 (q + toW ws + 1 + 1) (uI h g) 2 (nI p) (nI (p + n)) (nI c) (nI s) (nI (s + w.length)) := by
      intro j
      induction j with
      | zero => intro i hi; rw [show i = w.length from hi]
      | succ j ij =>
        intro i hi
        rw [← ij (i + 1) (by omega)]
        show f_Tape_wordCode_b10 (f_Tape_wordCode_L10 (q + toW ws + 1 + j + 1)) (uI h g) 2 (nI p) (nI (p + n)) (nI c) (nI s) (nI (s + i)) = _
        unfold f_Tape_wordCode_b10 f_Tape_wordCode_b67
        rw [if_pos js, jl0, if_neg (nI_ge (by omega) (by omega)), if_pos js, jl0', if_pos (ib_n (by omega) (by decide)), if_neg (W2 i (by omega)).2, nI_1]
        rfl
    have st0 : f_Tape_wordCode_L10 (q + toW ws + 1 + w.length + 1) (uI h g) 2 (nI p) (nI (p + n)) (nI c) (nI s) (nI s) = _ := st w.length 0 (by omega)
    rw [show q + toW (w :: ws) + 1 = q + toW ws + 1 + w.length + 1 from by show q + (w.length + 1 + toW ws) + 1 = _; omega, st0]
    show f_Tape_wordCode_b10 (f_Tape_wordCode_L10 (q + toW ws + 1)) (uI h g) 2 (nI p) (nI (p + n)) (nI c) (nI s) (nI (s + w.length)) = _
    have nxt : sl b p n ≠ w → f_Tape_wordCode_b58 (f_Tape_wordCode_L10 (q + toW ws + 1)) (uI h g) 2 (nI p) (nI (p + n)) (nI c) (nI (s + w.length)) = some (cK (wcF (w :: ws) c (sl b p n)), uI h g) := by
      intro ne
      unfold f_Tape_wordCode_b58 f_Tape_wordCode_b67
      rw [nI_1, nI_1, ih (s + w.length + 1) (c + 1) W4 (fun w' hw => az w' (List.mem_cons_of_mem _ hw)) (by omega) q, show wcF (w :: ws) c (sl b p n) = wcF ws (c + 1) (sl b p n) from if_neg ne]
    unfold f_Tape_wordCode_b10
    rw [if_pos js, jl0, if_neg (nI_ge (by omega) (by omega)), if_pos js, jl0', if_pos (ib_n (by omega) (by decide)), if_pos W3, pk_sub (by omega), pk_sub (by omega), show s + w.length - s = w.length from by omega, show p + n - p = n from by omega]
    by_cases e : w.length = n
    · rw [if_pos (by rw [e]), if_pos s2]
      have sm := C_same_L (s := s) (n := n) (p := p) t B (by omega) jl0 (by omega) hp n 0 (by omega) (999999 - n)
      rw [← FU_mm (by omega)] at sm
      unfold f_Tape_isSame f_Tape_isSame_b0
      rcases sm with ⟨z1, z2⟩ | ⟨z1, k, -, z3, z4⟩
      · rw [show (0 : Int32) = nI 0 from rfl, z1, bI_s, if_neg (by decide)]
        have : sl b p n = w := by
          rw [sl_eq]
          refine ⟨e, fun k hk => ?_⟩
          have z5 := z2 k (Nat.zero_le _) hk
          rw [(W2 k (by omega)).1] at z5
          have hw : w[k]? = some w[k] := List.getElem?_eq_getElem (by omega)
          have gd : w.getD k 0 = w[k] := by rw [List.getD_eq_getElem?_getD, hw]; rfl
          rw [gd] at z5
          rw [hw, (nI_eq (by have := az w List.mem_cons_self _ (List.getElem_mem (by omega : k < w.length)); omega) (by have := (B.2.2 (p + k) (by omega)).2; omega)).mp z5]
        rw [show wcF (w :: ws) c (sl b p n) = c from if_pos this, cK_n (by omega)]
      · rw [show (0 : Int32) = nI 0 from rfl, z1, bI_s, if_pos (show (0 : Int32) = nI 0 from rfl)]
        refine nxt fun ne => z4 ?_
        rw [(W2 k (by omega)).1]
        have := (sl_eq.mp ne).2 k z3
        rw [List.getD_eq_getElem?_getD, this]
        rfl
    · rw [if_neg (fun z => e ((nI_eq (by omega) (by omega)).mp z))]
      refine nxt fun ne => e ?_
      rw [← ne, sl_len]
theorem C_num_L (t : TSt h) (B : BC g b T) (hn : n ≤ 3) (hp : p + n ≤ T) (hd : ∀ k, k < n → 48 ≤ b (p + k) ∧ b (p + k) ≤ 57) : ∀ (j i : Nat), i + j = n → ∀ q, f_Tape_numberCode_L14 (q + j + 1) (uI h g) 2 (nI (p + n)) (nI (nmV b p i)) (nI (p + i)) = some (nI (nmV b p n), uI h g) := by
  have s2 : hS (uI h g) 2 = 9 := t.1
  have hT := B.2.1
  intro j
  induction j with
  | zero =>
    intro i hi q
    have hi : i = n := hi
    subst hi
    show f_Tape_numberCode_b14 (f_Tape_numberCode_L14 q) (uI h g) 2 (nI (p + i)) (nI (nmV b p i)) (nI (p + i)) = _
    unfold f_Tape_numberCode_b14
    rw [if_pos (Int32.le_refl _)]
  | succ j ih =>
    intro i hi q
    have h1 := hd i (by omega)
    have nxt := ih (i + 1) (by omega) q
    show f_Tape_numberCode_b14 (f_Tape_numberCode_L14 (q + j + 1)) (uI h g) 2 (nI (p + n)) (nI (nmV b p i)) (nI (p + i)) = _
    unfold f_Tape_numberCode_b14
    rw [if_neg (nI_ge (by omega) (by omega)), if_pos s2, C_by t B (by omega), bI_s, show (10 : Int32) = nI 10 from rfl, nI_mul, nI_add, show (48 : Int32) = nI 48 from rfl, pk_sub (by omega), nI_1]
    exact nxt
theorem C_codeOf (t : TSt h) (B : BC g b T) (hp : p < T) : f_Tape_codeOf (uI h g) 2 (nI p) (nI (th b T p)) = some (cK (cdT b T p), uI h g) := by
  have s2 : hS (uI h g) 2 = 9 := t.1
  have hT := B.2.1
  have hb := (B.2.2 p hp).2
  unfold f_Tape_codeOf f_Tape_codeOf_b0
  rw [if_pos s2, C_letter t B hp, bI_s]
  by_cases e1 : lB b p = true
  · have h1 := sc_le (P := lB b) (T := T) p
    have h2 := sc_T (P := lB b) (T := T) p (by omega)
    have L := C_word_L (p := p) (n := sc (lB b) T p - p) t B (by omega) wrds 0 1000 wo_wrds (fun w hw x hx => by have := wrds_az w hw x hx; omega) (by decide) (999999 - toW wrds)
    rw [← FU_mm (by decide), show p + (sc (lB b) T p - p) = sc (lB b) T p from by omega] at L
    rw [if_pos e1, if_neg (by decide), if_pos s2, th_word hp e1]
    unfold f_Tape_wordCode f_Tape_wordCode_b0
    rw [show (1000 : Int32) = nI 1000 from rfl, show (0 : Int32) = nI 0 from rfl, L, bI_s, cd_word hp e1]
  · rw [if_neg e1, if_pos rfl, if_pos s2, C_digit t B hp, bI_s]
    by_cases e2 : dB b p = true
    · have h1 := sc_le (P := dB b) (T := T) p
      have h2 := sc_T (P := dB b) (T := T) p (by omega)
      rw [if_pos e2, if_neg (by decide), if_pos s2, th_num hp e2, cd_num hp e2]
      unfold f_Tape_numberCode f_Tape_numberCode_b0
      rw [pk_sub h1, show (3 : Int32) = nI 3 from rfl]
      by_cases e3 : sc (dB b) T p - p ≤ 3
      · have L := C_num_L (n := sc (dB b) T p - p) (p := p) t B e3 (by omega) (fun k hk => dB_i.mp (sc_mid (T := T) p (p + k) (by omega) (by omega))) (sc (dB b) T p - p) 0 (by omega) (999999 - (sc (dB b) T p - p))
        rw [← FU_mm (by omega), show p + (sc (dB b) T p - p) = sc (dB b) T p from by omega] at L
        rw [if_pos (nI_le e3 (by decide)), if_pos e3, cK_n (by have := num_lt (b := b) (p := p) (T := T) (by omega) e3; omega)]
        have L2 : f_Tape_numberCode_L14 FU (uI h g) 2 (nI (sc (dB b) T p)) 0 (nI p) = some (nI (nmV b p (sc (dB b) T p - p)), uI h g) := L
        rw [L2, bI_s]
      · rw [if_neg (nI_ge (by omega) (by omega)), if_neg e3, bI_s]
        rfl
    · rw [if_neg e2, if_pos rfl, if_pos s2, C_by t B hp, bI_s, cd_sign hp e1 e2, cK_n (by omega), show (2000 : Int32) = nI 2000 from rfl, nI_add]
/-- the things of a text, one behind another -/
def tk (b : Nat → Nat) (T : Nat) : Nat → Nat
  | 0 => bk b T 0
  | k + 1 => if tk b T k < T then nx b T (tk b T k) else T
theorem tkn_le : ∀ k, tk b T k ≤ T := by
  intro k
  induction k with
  | zero => exact sc_T 0 (Nat.zero_le _)
  | succ k ih =>
    show (if tk b T k < T then nx b T (tk b T k) else T) ≤ T
    by_cases e : tk b T k < T
    · rw [if_pos e]; exact (nx_lt e).2
    · rw [if_neg e]; exact Nat.le_refl _
theorem tkn_ge : ∀ k, (∀ j, j < k → tk b T j < T) → k ≤ tk b T k := by
  intro k
  induction k with
  | zero => intro _; exact Nat.zero_le _
  | succ k ih =>
    intro h
    have h1 := ih fun j hj => h j (by omega)
    have h2 := h k (by omega)
    show k + 1 ≤ (if tk b T k < T then nx b T (tk b T k) else T)
    rw [if_pos h2]
    have := (nx_lt (b := b) h2).1
    omega
/-- the text is cut, and p is at hand -/
def CA (g : Nat → Nat → Int32) (b : Nat → Nat) (T p : Nat) : Prop := g 2 1 = nI T ∧ T ≤ 400 ∧ g 2 5 = -1 ∧ (∀ k, k < T → b k < 256) ∧ ∃ n k, k ≤ n ∧ n ≤ 400 ∧ (∀ j, j < n → tk b T j < T) ∧ tk b T n = T ∧ (∀ j, j ≤ n → g 4 j = nI (tk b T j) ∧ g 5 j = cK (cdT b T (tk b T j))) ∧ tk b T k = p ∧ g 2 4 = nI k
theorem C_cut_end (t : TSt h) (e1 : g 2 1 = nI T) (hT : T ≤ 400) (hb : ∀ k, k < T → b k < 256) (hn : n ≤ 400) (h1 : ∀ j, j < n → tk b T j < T) (h2 : tk b T n = T) (h3 : ∀ j, j < n → g 4 j = nI (tk b T j) ∧ g 5 j = cK (cdT b T (tk b T j))) : ∃ g', f_Tape_cut_b60 (uI h g) 2 (nI n) = some (uI h g') ∧ CA g' b T (bk b T 0) ∧ ∀ r, r ≠ 2 → r ≠ 4 → r ≠ 5 → g' r = g r := by
  have s2 : ∀ g, hS (uI h g) 2 = 9 := fun g => t.1
  have r2 : ∀ g, hR (uI h g) 2 2 = 4 := fun g => t.2.1.2.1
  have r3 : ∀ g, hR (uI h g) 2 3 = 5 := fun g => t.2.1.2.2
  have s4 : ∀ g, hS (uI h g) 4 = 20 := fun g => t.2.2.2.1.1
  have l4 : ∀ g, hL (uI h g) 4 = 401 := fun g => t.2.2.2.1.2
  have s5 : ∀ g, hS (uI h g) 5 = 20 := fun g => t.2.2.2.2.1
  have l5 : ∀ g, hL (uI h g) 5 = 401 := fun g => t.2.2.2.2.2
  refine ⟨up2 (up2 (up2 (up2 g 4 n (nI T)) 5 n 3000) 2 4 0) 2 5 (-1), ?_, ⟨?_, hT, up_eq, hb, n, 0, Nat.zero_le _, hn, h1, h2, fun j hj => ?_, rfl, ?_⟩, fun r a1 a2 a3 => ?_⟩
  · unfold f_Tape_cut_b60
    rw [if_pos (s2 _), r2, if_pos (s4 _), l4, if_pos (ib_n (by omega) (by decide)), hI_u, e1, ix_n (by omega), wr_s, sI_u, r3, if_pos (s5 _), l5, if_pos (ib_n (by omega) (by decide)), wr_s, sI_u, wr_s, sI_u, wr_s, sI_u]
  · rw [up_k (by decide), up_k (by decide), up_r (by decide), up_r (by decide)]; exact e1
  · by_cases q : j = n
    · subst q
      constructor
      · rw [up_r (by decide), up_r (by decide), up_r (by decide), up_eq, h2]
      · rw [up_r (by decide), up_r (by decide), up_eq, h2, cd_end (Nat.le_refl _)]
        rfl
    · constructor
      · rw [up_r (by decide), up_r (by decide), up_r (by decide), up_k q]
        exact (h3 j (by omega)).1
      · rw [up_r (by decide), up_r (by decide), up_k q, up_r (by decide)]
        exact (h3 j (by omega)).2
  · rw [up_k (by decide), up_eq]; rfl
  · rw [up_row a1, up_row a1, up_row a3, up_row a2]
theorem C_cut_L (t : TSt h) : ∀ (m k : Nat) (g : Nat → Nat → Int32), T ≤ tk b T k + m → BC g b T → (∀ j, j < k → tk b T j < T) → (∀ j, j < k → g 4 j = nI (tk b T j) ∧ g 5 j = cK (cdT b T (tk b T j))) → ∀ q, ∃ g', f_Tape_cut_L8 (q + m + 1) (uI h g) 2 (nI k) (nI (tk b T k)) = some (uI h g') ∧ CA g' b T (bk b T 0) ∧ ∀ r, r ≠ 2 → r ≠ 4 → r ≠ 5 → g' r = g r := by
  have s2 : ∀ g, hS (uI h g) 2 = 9 := fun g => t.1
  have r2 : ∀ g, hR (uI h g) 2 2 = 4 := fun g => t.2.1.2.1
  have r3 : ∀ g, hR (uI h g) 2 3 = 5 := fun g => t.2.1.2.2
  have s4 : ∀ g, hS (uI h g) 4 = 20 := fun g => t.2.2.2.1.1
  have l4 : ∀ g, hL (uI h g) 4 = 401 := fun g => t.2.2.2.1.2
  have s5 : ∀ g, hS (uI h g) 5 = 20 := fun g => t.2.2.2.2.1
  have l5 : ∀ g, hL (uI h g) 5 = 401 := fun g => t.2.2.2.2.2
  intro m
  induction m with
  | zero =>
    intro k g hm B h1 h3 q
    have hT := B.2.1
    have e : tk b T k = T := by have := tkn_le (b := b) (T := T) k; omega
    have hk := tkn_ge (b := b) k h1
    obtain ⟨g', z1, z2, z3⟩ := C_cut_end (n := k) t B.1 hT (fun k hk => (B.2.2 k hk).2) (by omega) h1 e h3
    refine ⟨g', ?_, z2, z3⟩
    show f_Tape_cut_b8 (f_Tape_cut_L8 q) (uI h g) 2 (nI k) (nI (tk b T k)) = _
    unfold f_Tape_cut_b8
    rw [if_pos (s2 _), hI_u, B.1, if_pos (nI_le (by omega) (by omega))]
    exact z1
  | succ m ih =>
    intro k g hm B h1 h3 q
    have hT := B.2.1
    have hk := tkn_ge (b := b) k h1
    by_cases e : tk b T k < T
    · have n1 := nx_lt (b := b) e
      have e2 : tk b T (k + 1) = nx b T (tk b T k) := if_pos e
      have B2 : BC (up2 (up2 g 4 k (nI (tk b T k))) 5 k (cK (cdT b T (tk b T k)))) b T := ⟨by rw [up_r (by decide), up_r (by decide)]; exact B.1, hT, fun j hj => by rw [up_r (by decide), up_r (by decide)]; exact B.2.2 j hj⟩
      have B1 : BC (up2 g 4 k (nI (tk b T k))) b T := ⟨by rw [up_r (by decide)]; exact B.1, hT, fun j hj => by rw [up_r (by decide)]; exact B.2.2 j hj⟩
      obtain ⟨g', z1, z2, z3⟩ := ih (k + 1) _ (by rw [e2]; omega) B2 (fun j hj => by
        by_cases q : j = k
        · subst q; exact e
        · exact h1 j (by omega)) (fun j hj => by
        by_cases q : j = k
        · subst q
          rw [up_r (by decide), up_eq, up_eq]
          exact ⟨rfl, rfl⟩
        · rw [up_r (by decide), up_k q, up_k q, up_r (by decide)]
          exact h3 j (by omega)) q
      refine ⟨g', ?_, z2, fun r a1 a2 a3 => by rw [z3 r a1 a2 a3, up_row a3, up_row a2]⟩
      show f_Tape_cut_b8 (f_Tape_cut_L8 (q + m + 1)) (uI h g) 2 (nI k) (nI (tk b T k)) = _
      unfold f_Tape_cut_b8
      rw [if_pos (s2 _), hI_u, B.1, if_neg (nI_ge (by omega) (by omega)), if_neg (show ¬ (400 : Int32) ≤ nI k from nI_ge (b := 400) (by omega) (by decide)), C_thing t B e, bI_s, if_pos (s2 _), r2, if_pos (s4 _), l4, if_pos (ib_n (by omega) (by decide)), ix_n (by omega), wr_s, sI_u, C_codeOf t B1 e, bI_s, r3, if_pos (s5 _), l5, if_pos (ib_n (by omega) (by decide)), wr_s, sI_u, if_pos (s2 _), C_blanks t B2 (th_lt e).2, bI_s, nI_1]
      rw [e2] at z1
      exact z1
    · have e : tk b T k = T := by have := tkn_le (b := b) (T := T) k; omega
      obtain ⟨g', z1, z2, z3⟩ := C_cut_end (n := k) t B.1 hT (fun k hk => (B.2.2 k hk).2) (by omega) h1 e h3
      refine ⟨g', ?_, z2, z3⟩
      show f_Tape_cut_b8 (f_Tape_cut_L8 (q + m + 1)) (uI h g) 2 (nI k) (nI (tk b T k)) = _
      unfold f_Tape_cut_b8
      rw [if_pos (s2 _), hI_u, B.1, if_pos (nI_le (by omega) (by omega))]
      exact z1
theorem C_cut (t : TSt h) (B : BC g b T) : ∃ g', f_Tape_cut (uI h g) 2 = some (uI h g') ∧ CA g' b T (bk b T 0) ∧ ∀ r, r ≠ 2 → r ≠ 4 → r ≠ 5 → g' r = g r := by
  have s2 : hS (uI h g) 2 = 9 := t.1
  have hT := B.2.1
  obtain ⟨g', z1, z2, z3⟩ := C_cut_L t T 0 g (by omega) B (fun j hj => absurd hj (Nat.not_lt_zero _)) (fun j hj => absurd hj (Nat.not_lt_zero _)) (999999 - T)
  rw [← FU_mm (by omega)] at z1
  refine ⟨g', ?_, z2, z3⟩
  unfold f_Tape_cut f_Tape_cut_b0
  rw [if_pos s2, show (0 : Int32) = nI 0 from rfl, C_blanks t B (Nat.zero_le _), bI_s]
  exact z1
/-- no more than the place on the tape has changed -/
def FT (g g' : Nat → Nat → Int32) : Prop := ∀ r, r ≠ 2 → g' r = g r
theorem FT.rf : FT g g := fun _ _ => rfl
theorem FT.tr (x : FT g g1) (y : FT g1 g') : FT g g' := fun r hr => (y r hr).trans (x r hr)
theorem CA.le (A : CA g b T p) : p ≤ T := by
  obtain ⟨-, -, -, -, n, k, -, -, -, -, -, rfl, -⟩ := A
  exact tkn_le k
theorem CA.cd (A : CA g b T p) : cdT b T p ≤ 5000 := by
  rcases Nat.lt_or_ge p T with e | e
  · exact cd_lt (A.2.2.2.1 p e)
  · rw [cd_end e]; decide
theorem CA.fr (A : CA g b T p) (x : ∀ r, r = 2 ∨ r = 4 ∨ r = 5 → g' r = g r) : CA g' b T p := by
  obtain ⟨a1, a2, a3, a4, n, k, a5, a6, a7, a8, a9, a10, a11⟩ := A
  exact ⟨by rw [x 2 (by omega)]; exact a1, a2, by rw [x 2 (by omega)]; exact a3, a4, n, k, a5, a6, a7, a8, fun j hj => by rw [x 4 (by omega), x 5 (by omega)]; exact a9 j hj, a10, by rw [x 2 (by omega)]; exact a11⟩
theorem C_code (t : TSt h) (A : CA g b T p) : f_Tape_code (uI h g) 2 = some (cK (cdT b T p), uI h g) := by
  have s2 : hS (uI h g) 2 = 9 := t.1
  have r3 : hR (uI h g) 2 3 = 5 := t.2.1.2.2
  have s5 : hS (uI h g) 5 = 20 := t.2.2.2.2.1
  have l5 : hL (uI h g) 5 = 401 := t.2.2.2.2.2
  obtain ⟨a1, a2, a3, a4, n, k, a5, a6, a7, a8, a9, rfl, a11⟩ := A
  unfold f_Tape_code f_Tape_code_b0
  rw [if_pos s2, hI_u, a11, if_neg (nI_pos (by omega)), r3, if_pos s5, l5, if_neg (show ¬ Int32.ofNat 401 ≤ nI k from nI_ge (b := 401) (by omega) (by decide)), if_pos (ib_n (by omega) (by decide)), ix_n (by omega), (a9 k a5).2]
theorem C_is (t : TSt h) (A : CA g b T p) (hc : c < 5000) {x : Int32} (hx : x = nI c) : f_Tape_is (uI h g) 2 x = some (if cdT b T p = c then 1 else 0, uI h g) := by
  have hd := A.cd
  have s2 : hS (uI h g) 2 = 9 := t.1
  have r3 : hR (uI h g) 2 3 = 5 := t.2.1.2.2
  have s5 : hS (uI h g) 5 = 20 := t.2.2.2.2.1
  have l5 : hL (uI h g) 5 = 401 := t.2.2.2.2.2
  obtain ⟨a1, a2, a3, a4, n, k, a5, a6, a7, a8, a9, rfl, a11⟩ := A
  unfold f_Tape_is f_Tape_is_b0
  rw [if_pos s2, hI_u, a11, if_neg (nI_pos (by omega)), r3, if_pos s5, l5, if_neg (show ¬ Int32.ofNat 401 ≤ nI k from nI_ge (b := 401) (by omega) (by decide)), if_pos (ib_n (by omega) (by decide)), ix_n (by omega), (a9 k a5).2, hx]
  by_cases e : cdT b T (tk b T k) = c
  · rw [if_pos e, if_pos ((cK_eq hd hc).mpr e)]
  · rw [if_neg e, if_neg (fun z => e ((cK_eq hd hc).mp z))]
theorem C_step (t : TSt h) (A : CA g b T p) (hp : p < T) : ∃ g', f_Tape_step (uI h g) 2 = some (uI h g') ∧ CA g' b T (nx b T p) ∧ FT g g' := by
  have s2 : hS (uI h g) 2 = 9 := t.1
  obtain ⟨a1, a2, a3, a4, n, k, a5, a6, a7, a8, a9, rfl, a11⟩ := A
  have hk : k < n := by
    by_cases q : k = n
    · subst q; omega
    · omega
  have e2 : tk b T (k + 1) = nx b T (tk b T k) := if_pos hp
  refine ⟨up2 g 2 4 (nI (k + 1)), ?_, ⟨by rw [up_k (by decide)]; exact a1, a2, by rw [up_k (by decide)]; exact a3, a4, n, k + 1, hk, a6, a7, a8, fun j hj => by rw [up_r (by decide), up_r (by decide)]; exact a9 j hj, e2, up_eq⟩, fun r hr => up_row hr⟩
  unfold f_Tape_step f_Tape_step_b0
  rw [if_pos s2, hI_u, a11, if_neg (show ¬ (400 : Int32) ≤ nI k from nI_ge (b := 400) (by omega) (by decide)), wr_s, sI_u, nI_1]
theorem C_fail (t : TSt h) (A : CA g b T p) : ∃ g', f_Tape_fail (uI h g) 2 = some (0, uI h g') ∧ g' 2 5 = nI p ∧ FT g g' := by
  have s2 : ∀ g, hS (uI h g) 2 = 9 := fun g => t.1
  have r2 : hR (uI h g) 2 2 = 4 := t.2.1.2.1
  have s4 : hS (uI h g) 4 = 20 := t.2.2.2.1.1
  have l4 : hL (uI h g) 4 = 401 := t.2.2.2.1.2
  obtain ⟨a1, a2, a3, a4, n, k, a5, a6, a7, a8, a9, rfl, a11⟩ := A
  refine ⟨up2 g 2 5 (nI (tk b T k)), ?_, up_eq, fun r hr => up_row hr⟩
  unfold f_Tape_fail f_Tape_fail_b0 f_Tape_fail_b36
  rw [if_pos (s2 _), hI_u, a11, if_neg (nI_pos (by omega)), r2, if_pos s4, l4, if_neg (show ¬ Int32.ofNat 401 ≤ nI k from nI_ge (b := 401) (by omega) (by decide)), if_pos (ib_n (by omega) (by decide)), ix_n (by omega), (a9 k a5).1, if_pos (s2 _), wr_s, sI_u]
theorem C_takes (t : TSt h) (A : CA g b T p) (hc : c < 3000) {x : Int32} (hx : x = nI c) : (cdT b T p = c ∧ p < T ∧ ∃ g', f_Tape_takes (uI h g) 2 x = some (1, uI h g') ∧ CA g' b T (nx b T p) ∧ FT g g') ∨ (cdT b T p ≠ c ∧ ∃ g', f_Tape_takes (uI h g) 2 x = some (0, uI h g') ∧ g' 2 5 = nI p ∧ FT g g') := by
  have s2 : ∀ g, hS (uI h g) 2 = 9 := fun g => t.1
  by_cases e : cdT b T p = c
  · have hp : p < T := cd_T (b := b) (by omega)
    obtain ⟨g', z1, z2, z3⟩ := C_step t A hp
    refine Or.inl ⟨e, hp, g', ?_, z2, z3⟩
    unfold f_Tape_takes f_Tape_takes_b0
    rw [if_pos (s2 _), C_is t A (by omega) hx, bI_s, if_pos e, if_neg (by decide), if_pos (s2 _), z1, bV_s]
  · obtain ⟨g', z1, z2, z3⟩ := C_fail t A
    refine Or.inr ⟨e, g', ?_, z2, z3⟩
    unfold f_Tape_takes f_Tape_takes_b0
    rw [if_pos (s2 _), C_is t A (by omega) hx, bI_s, if_neg e, if_pos rfl, if_pos (s2 _), z1, bI_s, if_pos (Or.inl rfl)]
theorem C_number (t : TSt h) (A : CA g b T p) (hh : hi ≤ 1000) {x y : Int32} (hx : x = nI lo) (hl : lo < 5000) (hy : y = nI hi - 1) : (lo ≤ cdT b T p ∧ cdT b T p < hi ∧ p < T ∧ ∃ g', f_Tape_number (uI h g) 2 x y = some (nI (cdT b T p), uI h g') ∧ CA g' b T (nx b T p) ∧ FT g g') ∨ (¬ (lo ≤ cdT b T p ∧ cdT b T p < hi) ∧ ∃ g', f_Tape_number (uI h g) 2 x y = some (-1, uI h g') ∧ g' 2 5 = nI p ∧ FT g g') := by
  have s2 : ∀ g, hS (uI h g) 2 = 9 := fun g => t.1
  have hd := A.cd
  obtain ⟨g2, y1, y2, y3⟩ := C_fail t A
  have bad : f_Tape_number_b15 (uI h g) 2 = some (-1, uI h g2) := by
    unfold f_Tape_number_b15
    rw [if_pos (s2 _), y1, bI_s]
  by_cases e : lo ≤ cdT b T p ∧ cdT b T p < hi
  · have hp : p < T := cd_T (b := b) (by omega)
    obtain ⟨g', z1, z2, z3⟩ := C_step t A hp
    refine Or.inl ⟨e.1, e.2, hp, g', ?_, z2, z3⟩
    unfold f_Tape_number f_Tape_number_b0
    rw [if_pos (s2 _), C_code t A, bI_s, hx, hy, cK_n (by omega), if_neg (nI_nlt e.1 (by omega)), if_pos ((cK_le (by omega) (by omega)).mpr e.2), if_pos (s2 _), z1, bV_s]
  · refine Or.inr ⟨e, g2, ?_, y2, y3⟩
    unfold f_Tape_number f_Tape_number_b0
    rw [if_pos (s2 _), C_code t A, bI_s, hx, hy, bad]
    by_cases e1 : cK (cdT b T p) < nI lo
    · rw [if_pos e1]
    · rw [if_neg e1]
      have e2 := fun z => e1 ((cK_lt hd hl).mpr z)
      have e3 : cdT b T p ≠ 5000 := fun z => e2 (Or.inl z)
      have e4 : lo ≤ cdT b T p := by
        rcases Nat.lt_or_ge (cdT b T p) lo with z | z
        · exact absurd (Or.inr z) e2
        · exact z
      rw [cK_n e3, if_neg (fun z => e ⟨e4, (cK_le (by omega) (by omega)).mp z⟩)]
end U53
