/-! ===== the reference reads a text byte by byte ===== -/
section U54
variable {h : Hp} {g g' g1 : Nat → Nat → Int32} {b : Nat → Nat} {P : Nat → Bool} {T p q n i j k m c s e lo hi : Nat} {l w : List Nat} {ws : List (List Nat)} {x v y : Int32}
def BY (x : Int32) (n : Nat) : Prop := (n < 128 ∧ x = nI n) ∨ (128 ≤ n ∧ n < 256 ∧ x < 0)
def RB (g : Nat → Nat → Int32) (b : Nat → Nat) (T : Nat) : Prop := g 755 11 = nI T ∧ T ≤ 400 ∧ ∀ k, k < T → BY (g 761 k) (b k)
/-- no more than the place on the tape has changed -/
def FB (g g' : Nat → Nat → Int32) : Prop := (∀ r, r ≠ 755 → g' r = g r) ∧ ∀ j, j ≠ 10 → j ≠ 12 → g' 755 j = g 755 j
theorem FB.rf : FB g g := ⟨fun _ _ => rfl, fun _ _ _ => rfl⟩
theorem FB.tr (x : FB g g1) (y : FB g1 g') : FB g g' := ⟨fun r hr => (y.1 r hr).trans (x.1 r hr), fun j h1 h2 => (y.2 j h1 h2).trans (x.2 j h1 h2)⟩
theorem FB.up (hj : j = 10 ∨ j = 12) : FB g (up2 g 755 j v) := ⟨fun r hr => up_row hr, fun k h1 h2 => up_k (by omega)⟩
theorem RB.fb (R : RB g b T) (x : FB g g') : RB g' b T := ⟨(x.2 11 (by decide) (by decide)).trans R.1, R.2.1, fun k hk => by rw [x.1 761 (by decide)]; exact R.2.2 k hk⟩
theorem neg_nI (h : x < 0) (hn : n < 2 ^ 31) : x < nI n := Int32.lt_of_lt_of_le h (nI_pos' hn)
theorem N_at (t : TSr h) (R : RB g b T) (e : g 755 10 = nI q) (hq : q ≤ T) (hl : lo < 128) (hh : hi < 128) {x y : Int32} (hx : x = nI lo) (hy : y = nI hi) : f_Model_isAt (uI h g) 755 x y = some (if q < T ∧ lo ≤ b q ∧ b q ≤ hi then 1 else 0, uI h g) := by
  have s7 : hS (uI h g) 755 = 11 := t.1
  have r8 : hR (uI h g) 755 8 = 761 := t.2.1.2.2.2.2.2.1
  obtain ⟨sa, la'⟩ : hS (uI h g) 761 = 21 ∧ hL (uI h g) 761 = 400 := ⟨t.2.2.2.2.2.2.2.1.1, t.2.2.2.2.2.2.2.1.2⟩
  have hT := R.2.1
  unfold f_Model_isAt f_Model_isAt_b0
  rw [if_pos s7, hI_u, R.1, e]
  by_cases c : q < T
  · rw [if_neg (nI_ge c (by omega)), r8, if_pos sa, la', if_pos (ib_n (by omega) (by decide)), ix_n (by omega), if_pos (ib_n (by omega) (by decide)), hx, hy]
    rcases R.2.2 q c with ⟨h1, h2⟩ | ⟨h1, h2, h3⟩
    · rw [h2]
      by_cases c1 : b q < lo
      · rw [if_pos (nI_lt c1 (by omega)), if_neg (by omega)]
      · rw [if_neg (nI_nlt (by omega) (by omega))]
        by_cases c2 : hi < b q
        · rw [if_pos (nI_lt c2 (by omega)), if_neg (by omega)]
        · rw [if_neg (nI_nlt (by omega) (by omega)), if_pos ⟨c, by omega, by omega⟩]
    · rw [if_pos (neg_nI h3 (by omega)), if_neg (by omega)]
  · rw [if_pos (nI_le (by omega) (by omega)), if_neg (fun z => c z.1)]
theorem N_at1 (t : TSr h) (R : RB g b T) (e : g 755 10 = nI q) (hq : q ≤ T) (hl : lo < 128) (hh : hi < 128) {x y : Int32} (hx : x = nI lo) (hy : y = nI hi) (c : q < T ∧ lo ≤ b q ∧ b q ≤ hi) : f_Model_isAt (uI h g) 755 x y = some (1, uI h g) := (N_at t R e hq hl hh hx hy).trans (by rw [if_pos c])
theorem N_at0 (t : TSr h) (R : RB g b T) (e : g 755 10 = nI q) (hq : q ≤ T) (hl : lo < 128) (hh : hi < 128) {x y : Int32} (hx : x = nI lo) (hy : y = nI hi) (c : ¬ (q < T ∧ lo ≤ b q ∧ b q ≤ hi)) : f_Model_isAt (uI h g) 755 x y = some (0, uI h g) := (N_at t R e hq hl hh hx hy).trans (by rw [if_neg c])
theorem N_blanks_L (t : TSr h) : ∀ (m p : Nat) (g : Nat → Nat → Int32), p + m = T → RB g b T → g 755 10 = nI p → ∀ q, ∃ g', f_Model_blanks_L0 (q + m + 1) (uI h g) 755 = some (uI h g') ∧ g' 755 10 = nI (bk b T p) ∧ g' 755 12 = nI (bk b T p) ∧ FB g g' := by
  have s7 : ∀ g, hS (uI h g) 755 = 11 := fun g => t.1
  intro m
  have stop : ∀ (p : Nat) (g : Nat → Nat → Int32) f, p ≤ T → RB g b T → g 755 10 = nI p → ¬ (p < T ∧ b p = 32) → ∃ g', f_Model_blanks_b0 f (uI h g) 755 = some (uI h g') ∧ g' 755 10 = nI (bk b T p) ∧ g' 755 12 = nI (bk b T p) ∧ FB g g' := by
    intro p g f hp R e no
    have e2 : bk b T p = p := by
      unfold bk
      by_cases c : p < T
      · exact sc_no fun z => no ⟨c, zB_i.mp z⟩
      · exact sc_end (by omega)
    rw [e2]
    refine ⟨up2 g 755 12 (nI p), ?_, by rw [up_k (by decide)]; exact e, up_eq, FB.up (Or.inr rfl)⟩
    unfold f_Model_blanks_b0
    rw [if_pos (s7 _), N_at0 (lo := 32) (hi := 32) (x := 32) (y := 32) t R e hp (by decide) (by decide) rfl rfl (by omega), bI_s, if_pos rfl, if_pos (s7 _), hI_u, e, wr_s, sI_u]
  induction m with
  | zero =>
    intro p g hp R e q
    exact stop p g _ (by omega) R e (by omega)
  | succ m ih =>
    intro p g hp R e q
    by_cases c : b p = 32
    · obtain ⟨g', z1, z2, z3, z4⟩ := ih (p + 1) (up2 g 755 10 (nI (p + 1))) (by omega) (R.fb (FB.up (Or.inl rfl))) up_eq q
      have e2 : bk b T p = bk b T (p + 1) := sc_yes (by omega) (zB_i.mpr c)
      rw [e2]
      refine ⟨g', ?_, z2, z3, (FB.up (Or.inl rfl)).tr z4⟩
      show f_Model_blanks_b0 (f_Model_blanks_L0 (q + m + 1)) (uI h g) 755 = _
      unfold f_Model_blanks_b0
      rw [if_pos (s7 _), N_at1 (lo := 32) (hi := 32) (x := 32) (y := 32) t R e (by omega) (by decide) (by decide) rfl rfl ⟨by omega, by omega, by omega⟩, bI_s, if_neg (by decide), if_pos (s7 _), hI_u, e, wr_s, sI_u, nI_1]
      exact z1
    · exact stop p g _ (by omega) R e (by omega)
/-- the reference is at p, or at blanks ahead of it -/
def RS (g : Nat → Nat → Int32) (b : Nat → Nat) (T p : Nat) : Prop := RB g b T ∧ ∃ q, q ≤ T ∧ g 755 10 = nI q ∧ bk b T q = p
theorem RS.le (R : RS g b T p) : p ≤ T := by
  obtain ⟨-, q, h1, -, rfl⟩ := R
  exact sc_T q h1
theorem RS.bkk (R : RS g b T p) : bk b T p = p := by
  obtain ⟨-, q, h1, -, rfl⟩ := R
  exact sc_same h1
theorem RS.mk' (R : RB g b T) (e : g 755 10 = nI p) (hp : p ≤ T) (e2 : bk b T p = p) : RS g b T p := ⟨R, p, hp, e, e2⟩
theorem RS.fr (R : RS g b T p) (x : ∀ r, r = 761 → g' r = g r) (x2 : ∀ j, j = 10 ∨ j = 11 → g' 755 j = g 755 j) : RS g' b T p := by
  obtain ⟨⟨a1, a2, a3⟩, q, h1, h2, h3⟩ := R
  exact ⟨⟨by rw [x2 11 (by omega)]; exact a1, a2, fun k hk => by rw [x 761 rfl]; exact a3 k hk⟩, q, h1, by rw [x2 10 (by omega)]; exact h2, h3⟩
theorem N_blanks (t : TSr h) (R : RS g b T p) : ∃ g', f_Model_blanks (uI h g) 755 = some (uI h g') ∧ g' 755 10 = nI p ∧ g' 755 12 = nI p ∧ FB g g' := by
  obtain ⟨R1, q, h1, h2, rfl⟩ := R
  have hT := R1.2.1
  have := N_blanks_L t (T - q) q g (by omega) R1 h2 (999999 - (T - q))
  rw [← FU_mm (by omega)] at this
  exact this
theorem N_letters_L (t : TSr h) : ∀ (m p : Nat) (g : Nat → Nat → Int32), p + m = T → RB g b T → g 755 10 = nI p → ∀ q, ∃ g', f_Model_letters_L4 (q + m + 1) (uI h g) 755 = some (uI h g') ∧ g' 755 10 = nI (sc (lB b) T p) ∧ g' 755 12 = g 755 12 ∧ FB g g' := by
  have s7 : ∀ g, hS (uI h g) 755 = 11 := fun g => t.1
  intro m
  have stop : ∀ (p : Nat) (g : Nat → Nat → Int32) f, p ≤ T → RB g b T → g 755 10 = nI p → ¬ (p < T ∧ lB b p = true) → ∃ g', f_Model_letters_b4 f (uI h g) 755 = some (uI h g') ∧ g' 755 10 = nI (sc (lB b) T p) ∧ g' 755 12 = g 755 12 ∧ FB g g' := by
    intro p g f hp R e no
    have e2 : sc (lB b) T p = p := by
      by_cases c : p < T
      · exact sc_no fun z => no ⟨c, z⟩
      · exact sc_end (by omega)
    rw [e2]
    refine ⟨g, ?_, e, rfl, FB.rf⟩
    unfold f_Model_letters_b4
    rw [if_pos (s7 _), N_at0 (lo := 97) (hi := 122) (x := 97) (y := 122) t R e hp (by decide) (by decide) rfl rfl (fun z => no ⟨z.1, lB_i.mpr z.2⟩), bI_s, if_pos rfl]
  induction m with
  | zero =>
    intro p g hp R e q
    exact stop p g _ (by omega) R e (by omega)
  | succ m ih =>
    intro p g hp R e q
    by_cases c : lB b p = true
    · obtain ⟨g', z1, z2, z3, z4⟩ := ih (p + 1) (up2 g 755 10 (nI (p + 1))) (by omega) (R.fb (FB.up (Or.inl rfl))) up_eq q
      have e2 : sc (lB b) T p = sc (lB b) T (p + 1) := sc_yes (by omega) c
      rw [e2]
      refine ⟨g', ?_, z2, z3.trans (up_k (by decide)), (FB.up (Or.inl rfl)).tr z4⟩
      show f_Model_letters_b4 (f_Model_letters_L4 (q + m + 1)) (uI h g) 755 = _
      unfold f_Model_letters_b4
      rw [if_pos (s7 _), N_at1 (lo := 97) (hi := 122) (x := 97) (y := 122) t R e (by omega) (by decide) (by decide) rfl rfl ⟨by omega, lB_i.mp c⟩, bI_s, if_neg (by decide), if_pos (s7 _), hI_u, e, wr_s, sI_u, nI_1]
      exact z1
    · exact stop p g _ (by omega) R e (fun z => c z.2)
/-- the reference is behind the letters that begin at p -/
def LTS (g : Nat → Nat → Int32) (b : Nat → Nat) (T p : Nat) : Prop := RB g b T ∧ p ≤ T ∧ bk b T p = p ∧ g 755 10 = nI (sc (lB b) T p) ∧ g 755 12 = nI p
theorem N_letters (t : TSr h) (R : RS g b T p) : ∃ g', f_Model_letters (uI h g) 755 = some (uI h g') ∧ LTS g' b T p ∧ FB g g' := by
  have s7 : ∀ g, hS (uI h g) 755 = 11 := fun g => t.1
  have hT := R.1.2.1
  have hp := R.le
  obtain ⟨g1, a1, a2, a3, a4⟩ := N_blanks t R
  obtain ⟨g2, b1, b2, b3, b4⟩ := N_letters_L t (T - p) p g1 (by omega) (R.1.fb a4) a2 (999999 - (T - p))
  rw [← FU_mm (by omega)] at b1
  refine ⟨g2, ?_, ⟨R.1.fb (a4.tr b4), hp, R.bkk, b2, b3.trans a3⟩, a4.tr b4⟩
  unfold f_Model_letters f_Model_letters_b0
  rw [if_pos (s7 _), a1, bV_s]
  exact b1
def kwL : List (Nat × Nat) := [(22, 15), (23, 5), (24, 6), (25, 7), (26, 16), (27, 17), (28, 18), (29, 2), (30, 19), (31, 20), (32, 21), (33, 22), (34, 24), (35, 23), (36, 25), (37, 26), (38, 14), (39, 12), (40, 13), (41, 9), (42, 8), (43, 0), (44, 1), (45, 3), (46, 4), (47, 10), (48, 11)]
theorem kw_ok : ∀ q ∈ kwL, q.1 < 49 ∧ q.2 < 27 ∧ stx (STR + q.1) = (wrds.getD q.2 []).map nI := by decide +kernel
theorem N_isWord_L (t : TSr h) (R : RB g b T) (e : g 755 12 = nI p) (hk : k < 49) (hw : stx (STR + k) = w.map nI) (az : ∀ x ∈ w, x < 128) (hp : p + w.length ≤ T) : ∀ (j i : Nat), i + j = w.length → ∀ q,
    (f_Model_isWord_L24 (q + j + 1) (uI h g) 755 (STR + k) 1 (nI i) = some (1, uI h g) ∧ ∀ k, i ≤ k → k < w.length → w[k]? = some (b (p + k))) ∨ (f_Model_isWord_L24 (q + j + 1) (uI h g) 755 (STR + k) 1 (nI i) = some (0, uI h g) ∧ ∃ k, i ≤ k ∧ k < w.length ∧ w[k]? ≠ some (b (p + k))) := by
  have s7 : hS (uI h g) 755 = 11 := t.1
  have r8 : hR (uI h g) 755 8 = 761 := t.2.1.2.2.2.2.2.1
  obtain ⟨sa, la'⟩ : hS (uI h g) 761 = 21 ∧ hL (uI h g) 761 = 400 := ⟨t.2.2.2.2.2.2.2.1.1, t.2.2.2.2.2.2.2.1.2⟩
  have js : jst (STR + k) := ⟨Nat.le_add_right _ _, by omega⟩
  have hT := R.2.1
  have ln : (stx (STR + k)).length = w.length := by rw [hw, List.length_map]
  have jl : jlen (STR + k) = nI w.length := by unfold jlen; rw [ln]; rfl
  intro j
  induction j with
  | zero =>
    intro i hi q
    left
    refine ⟨?_, fun k h1 h2 => by omega⟩
    show f_Model_isWord_b24 (f_Model_isWord_L24 q) (uI h g) 755 (STR + k) 1 (nI i) = _
    unfold f_Model_isWord_b24
    rw [if_neg (by decide), if_pos js, jl, if_pos (nI_le (by omega) (by omega)), if_pos (Or.inr rfl)]
  | succ j ih =>
    intro i hi q
    have hwi : w[i]? = some w[i] := List.getElem?_eq_getElem (by omega)
    have hx := az w[i] (List.getElem_mem (by omega))
    have jc : jch (STR + k) (nI i) = nI w[i] := by
      unfold jch
      rw [ix_n (by omega), hw, List.getD_eq_getElem?_getD, List.getElem?_map, hwi]
      rfl
    have E : f_Model_isWord_L24 (q + (j + 1) + 1) (uI h g) 755 (STR + k) 1 (nI i) = f_Model_isWord_b24 (f_Model_isWord_L24 (q + j + 1)) (uI h g) 755 (STR + k) 1 (nI i) := rfl
    have F : f_Model_isWord_b24 (f_Model_isWord_L24 (q + j + 1)) (uI h g) 755 (STR + k) 1 (nI i) = if g 761 (p + i) = nI w[i] then f_Model_isWord_L24 (q + j + 1) (uI h g) 755 (STR + k) 1 (nI (i + 1)) else some (0, uI h g) := by
      unfold f_Model_isWord_b24 f_Model_isWord_b60
      rw [if_neg (by decide), if_pos js, jl, if_neg (nI_ge (by omega) (by omega)), if_pos s7, r8, if_pos sa, la', hI_u, e, nI_add, if_pos (ib_n (by omega) (by decide)), if_pos js, ln, if_pos (ib_n (by omega) (by omega)), ix_n (by omega), jc, nI_1]
      by_cases c : g 761 (p + i) = nI w[i]
      · rw [if_pos c, if_pos c]
      · rw [if_neg c, if_neg c]
        show f_Model_isWord_b24 (f_Model_isWord_L24 (q + j)) (uI h g) 755 (STR + k) 0 (nI (i + 1)) = _
        unfold f_Model_isWord_b24
        rw [if_pos rfl, if_pos (Or.inl rfl)]
    have by' : g 761 (p + i) = nI w[i] ↔ w[i]? = some (b (p + i)) := by
      rw [hwi]
      rcases R.2.2 (p + i) (by omega) with ⟨h1, h2⟩ | ⟨h1, h2, h3⟩
      · rw [h2, nI_eq (by omega) (by omega)]
        exact ⟨fun z => by rw [z], fun z => (Option.some.inj z).symm⟩
      · constructor
        · intro z
          rw [z] at h3
          exact absurd h3 (nI_pos (by omega))
        · intro z
          have := Option.some.inj z
          omega
    rw [E, F]
    by_cases c : g 761 (p + i) = nI w[i]
    · rw [if_pos c]
      rcases ih (i + 1) (by omega) q with ⟨z1, z2⟩ | ⟨z1, k, z2, z3, z4⟩
      · refine Or.inl ⟨z1, fun k h1 h2 => ?_⟩
        by_cases ek : k = i
        · subst ek; exact by'.mp c
        · exact z2 k (by omega) h2
      · exact Or.inr ⟨z1, k, by omega, z3, z4⟩
    · rw [if_neg c]
      exact Or.inr ⟨rfl, i, Nat.le_refl _, by omega, fun z => c (by'.mpr z)⟩
theorem N_isWord (t : TSr h) (S : LTS g b T p) (hk : (k, i) ∈ kwL) : f_Model_isWord (uI h g) 755 (STR + k) = some (if cdT b T p = 1000 + i then 1 else 0, uI h g) := by
  obtain ⟨k1, k2, k3⟩ := kw_ok _ hk
  have k1 : k < 49 := k1
  have k2 : i < 27 := k2
  have s7 : hS (uI h g) 755 = 11 := t.1
  have js : jst (STR + k) := ⟨Nat.le_add_right _ _, by omega⟩
  obtain ⟨R, hp, hb, e10, e12⟩ := S
  have hT := R.2.1
  obtain ⟨w, hw⟩ : ∃ w, wrds[i]? = some w := ⟨_, List.getElem?_eq_getElem (by rw [wrds_len]; exact k2)⟩
  have k3 : stx (STR + k) = w.map nI := by rw [k3, List.getD_eq_getElem?_getD, hw]; rfl
  have mem := List.mem_of_getElem? hw
  have az := wrds_az w mem
  have w0 : 0 < w.length := by
    cases w with
    | nil => exact absurd hw (wrds_ne i k2)
    | cons a l => exact Nat.succ_pos _
  have ln : (stx (STR + k)).length = w.length := by rw [k3, List.length_map]
  have jl : jlen (STR + k) = nI w.length := by unfold jlen; rw [ln]; rfl
  have wl : w.length < 1000 := by
    have : ∀ w ∈ wrds, w.length < 1000 := by decide +kernel
    exact this w mem
  have h1 := sc_le (P := lB b) (T := T) p
  have h2 := sc_T (P := lB b) (T := T) p hp
  -- what the code says
  have cw : cdT b T p = 1000 + i ↔ sl b p (sc (lB b) T p - p) = w := by
    by_cases c : p < T ∧ lB b p = true
    · rw [cd_word c.1 c.2]
      exact wc_i k2 hw
    · have e0 : sc (lB b) T p = p := by
        by_cases c1 : p < T
        · exact sc_no fun z => c ⟨c1, z⟩
        · exact sc_end (by omega)
      rw [e0, Nat.sub_self]
      constructor
      · intro z
        rcases cd_all b T p with ⟨-, a⟩ | ⟨a1, a2, -⟩ | ⟨-, -, a⟩ | ⟨-, -, -, a⟩
        · omega
        · exact absurd ⟨a1, a2⟩ c
        · omega
        · omega
      · intro z
        rw [← z] at w0
        exact absurd w0 (Nat.lt_irrefl 0)
  unfold f_Model_isWord f_Model_isWord_b0 f_Model_isWord_b21
  rw [if_pos s7, if_pos js, hI_u, e10, e12, pk_sub h1, jl]
  by_cases c : sc (lB b) T p - p = w.length
  · rw [if_pos (by rw [c])]
    have L := N_isWord_L (p := p) t R e12 k1 k3 (fun x hx => by have := az x hx; omega) (by omega) w.length 0 (by omega) (999999 - w.length)
    rw [← FU_mm (by omega)] at L
    rcases L with ⟨z1, z2⟩ | ⟨z1, k, -, z3, z4⟩
    · rw [if_pos (cw.mpr (by rw [c, sl_eq]; exact ⟨rfl, fun k hk => z2 k (Nat.zero_le _) hk⟩))]
      exact z1
    · rw [if_neg (fun z => z4 ((sl_eq.mp (cw.mp z)).2 k (by omega)))]
      exact z1
  · rw [if_neg (fun z => c ((nI_eq (by omega) (by omega)).mp z)), if_neg (fun z => c (by rw [← cw.mp z, sl_len]))]
    show f_Model_isWord_b24 (f_Model_isWord_L24 999999) (uI h g) 755 (STR + k) 0 0 = _
    unfold f_Model_isWord_b24
    rw [if_pos rfl, if_pos (Or.inl rfl)]
/-- behind the word at p -/
theorem LTS.nx (S : LTS g b T p) (hi : i < 27) (e : cdT b T p = 1000 + i) : RS g b T (nx b T p) ∧ p < T := by
  have hp : p < T := cd_T (b := b) (by omega)
  refine ⟨⟨S.1, sc (lB b) T p, sc_T p S.2.1, S.2.2.2.1, ?_⟩, hp⟩
  have el : lB b p = true := by
    rcases cd_all b T p with ⟨-, a⟩ | ⟨-, a2, -⟩ | ⟨-, -, a⟩ | ⟨-, -, -, a⟩
    · omega
    · exact a2
    · omega
    · omega
  show bk b T (sc (lB b) T p) = bk b T (th b T p)
  rw [th_word hp el]
theorem LTS.fb (S : LTS g b T p) : RS (up2 g 755 10 (nI p)) b T p := ⟨S.1.fb (FB.up (Or.inl rfl)), p, S.2.1, up_eq, S.2.2.1⟩
theorem N_needs (t : TSr h) (R : RS g b T p) (hk : (k, i) ∈ kwL) : (cdT b T p = 1000 + i ∧ p < T ∧ ∃ g', f_Model_needs (uI h g) 755 (STR + k) = some (1, uI h g') ∧ RS g' b T (nx b T p) ∧ FB g g') ∨ (cdT b T p ≠ 1000 + i ∧ ∃ g', f_Model_needs (uI h g) 755 (STR + k) = some (0, uI h g') ∧ g' 755 12 = nI p ∧ FB g g') := by
  have s7 : ∀ g, hS (uI h g) 755 = 11 := fun g => t.1
  obtain ⟨g', z1, z2, z3⟩ := N_letters t R
  have w := N_isWord t z2 hk
  have k2 : i < 27 := (kw_ok _ hk).2.1
  by_cases c : cdT b T p = 1000 + i
  · rw [if_pos c] at w
    refine Or.inl ⟨c, (z2.nx k2 c).2, g', ?_, (z2.nx k2 c).1, z3⟩
    unfold f_Model_needs f_Model_needs_b0
    rw [if_pos (s7 _), z1, bV_s, if_pos (s7 _), w, bI_s, if_pos (Or.inr rfl)]
  · rw [if_neg c] at w
    refine Or.inr ⟨c, g', ?_, z2.2.2.2.2, z3⟩
    unfold f_Model_needs f_Model_needs_b0
    rw [if_pos (s7 _), z1, bV_s, if_pos (s7 _), w, bI_s, if_pos (Or.inl rfl)]
theorem N_passes (t : TSr h) (R : RS g b T p) (hk : (k, i) ∈ kwL) : (cdT b T p = 1000 + i ∧ p < T ∧ ∃ g', f_Model_passes (uI h g) 755 (STR + k) = some (1, uI h g') ∧ RS g' b T (nx b T p) ∧ FB g g') ∨ (cdT b T p ≠ 1000 + i ∧ ∃ g', f_Model_passes (uI h g) 755 (STR + k) = some (0, uI h g') ∧ RS g' b T p ∧ FB g g') := by
  have s7 : ∀ g, hS (uI h g) 755 = 11 := fun g => t.1
  obtain ⟨g', z1, z2, z3⟩ := N_letters t R
  have w := N_isWord t z2 hk
  have k2 : i < 27 := (kw_ok _ hk).2.1
  by_cases c : cdT b T p = 1000 + i
  · rw [if_pos c] at w
    refine Or.inl ⟨c, (z2.nx k2 c).2, g', ?_, (z2.nx k2 c).1, z3⟩
    unfold f_Model_passes f_Model_passes_b0
    rw [if_pos (s7 _), z1, bV_s, if_pos (s7 _), w, bI_s, if_neg (by decide)]
  · rw [if_neg c] at w
    refine Or.inr ⟨c, up2 g' 755 10 (nI p), ?_, z2.fb, z3.tr (FB.up (Or.inl rfl))⟩
    unfold f_Model_passes f_Model_passes_b0
    rw [if_pos (s7 _), z1, bV_s, if_pos (s7 _), w, bI_s, if_pos rfl, if_pos (s7 _), hI_u, z2.2.2.2.2, wr_s, sI_u]
/-- a sign that is no letter, digit or blank -/
theorem N_sign (t : TSr h) (R : RS g b T p) (hc : c < 128) (h1 : ¬ (97 ≤ c ∧ c ≤ 122)) (h2 : ¬ (48 ≤ c ∧ c ≤ 57)) {x : Int32} (hx : x = nI c) : (cdT b T p = 2000 + c ∧ p < T ∧ ∃ g', f_Model_sign (uI h g) 755 x = some (1, uI h g') ∧ RS g' b T (nx b T p) ∧ FB g g') ∨ (cdT b T p ≠ 2000 + c ∧ ∃ g', f_Model_sign (uI h g) 755 x = some (0, uI h g') ∧ RS g' b T p ∧ g' 755 12 = nI p ∧ FB g g') := by
  have s7 : ∀ g, hS (uI h g) 755 = 11 := fun g => t.1
  have hT := R.1.2.1
  have hp := R.le
  obtain ⟨g', z1, z2, z3, z4⟩ := N_blanks t R
  have R' := R.1.fb z4
  have w := N_at (lo := c) (hi := c) t R' z2 hp hc hc hx hx
  by_cases e : p < T ∧ c ≤ b p ∧ b p ≤ c
  · have eb : b p = c := by omega
    have n1 : ¬ lB b p = true := fun z => h1 (by rw [← eb]; exact lB_i.mp z)
    have n2 : ¬ dB b p = true := fun z => h2 (by rw [← eb]; exact dB_i.mp z)
    have e2 : cdT b T p = 2000 + c := by rw [cd_sign e.1 n1 n2, eb]
    rw [if_pos e] at w
    refine Or.inl ⟨e2, e.1, up2 g' 755 10 (nI (p + 1)), ?_, ⟨R'.fb (FB.up (Or.inl rfl)), p + 1, e.1, up_eq, ?_⟩, z4.tr (FB.up (Or.inl rfl))⟩
    · unfold f_Model_sign f_Model_sign_b0
      rw [if_pos (s7 _), z1, bV_s, if_pos (s7 _), w, bI_s, if_neg (by decide), if_pos (s7 _), hI_u, z2, wr_s, sI_u, nI_1]
    · show _ = bk b T (th b T p)
      rw [th_sign n1 n2]
  · rw [if_neg e] at w
    refine Or.inr ⟨fun z => e ?_, g', ?_, ⟨R', p, hp, z2, R.bkk⟩, z3, z4⟩
    · rcases cd_all b T p with ⟨-, a⟩ | ⟨-, -, ⟨i, a1, a2⟩ | a⟩ | ⟨-, -, a⟩ | ⟨a1, -, -, a⟩ <;> omega
    · unfold f_Model_sign f_Model_sign_b0
      rw [if_pos (s7 _), z1, bV_s, if_pos (s7 _), w, bI_s, if_pos rfl]
theorem N_number_L (t : TSr h) (hp : p ≤ T) {x y : Int32} : ∀ (m i : Nat) (g : Nat → Nat → Int32), p + i + m = T → RB g b T → g 755 10 = nI (p + i) → g 755 12 = nI p → (∀ k, k < i → dB b (p + k) = true) → ∀ q,
    ∃ g', f_Model_number_L6 (q + m + 1) (uI h g) 755 x y (nI (nmV b p (min i 3))) = some (if sc (dB b) T p ≠ p ∧ sc (dB b) T p - p ≤ 3 ∧ ¬ nI (nmV b p (sc (dB b) T p - p)) < x ∧ nI (nmV b p (sc (dB b) T p - p)) ≤ y then nI (nmV b p (sc (dB b) T p - p)) else -1, uI h g') ∧ g' 755 10 = nI (sc (dB b) T p) ∧ g' 755 12 = nI p ∧ FB g g' := by
  have s7 : ∀ g, hS (uI h g) 755 = 11 := fun g => t.1
  have r8 : ∀ g, hR (uI h g) 755 8 = 761 := fun g => t.2.1.2.2.2.2.2.1
  have sa : ∀ g, hS (uI h g) 761 = 21 := fun g => t.2.2.2.2.2.2.2.1.1
  have la' : ∀ g, hL (uI h g) 761 = 400 := fun g => t.2.2.2.2.2.2.2.1.2
  intro m
  have b99 : ∀ g, f_Model_number_b99 (uI h g) = some (-1, uI h g) := fun g => rfl
  have stop : ∀ (i : Nat) (g : Nat → Nat → Int32) f, p + i ≤ T → RB g b T → g 755 10 = nI (p + i) → g 755 12 = nI p → (∀ k, k < i → dB b (p + k) = true) → ¬ (p + i < T ∧ dB b (p + i) = true) → ∃ g', f_Model_number_b6 f (uI h g) 755 x y (nI (nmV b p (min i 3))) = some (if sc (dB b) T p ≠ p ∧ sc (dB b) T p - p ≤ 3 ∧ ¬ nI (nmV b p (sc (dB b) T p - p)) < x ∧ nI (nmV b p (sc (dB b) T p - p)) ≤ y then nI (nmV b p (sc (dB b) T p - p)) else -1, uI h g') ∧ g' 755 10 = nI (sc (dB b) T p) ∧ g' 755 12 = nI p ∧ FB g g' := by
    intro i g f hi R e10 e12 hd no
    have hT := R.2.1
    have e2 : sc (dB b) T p = p + i := by
      have h1 := sc_le (P := dB b) (T := T) p
      have h2 := sc_T (P := dB b) (T := T) p hp
      rcases Nat.lt_trichotomy (sc (dB b) T p) (p + i) with a | a | a
      · have := sc_at (P := dB b) (T := T) p (by omega)
        have z := hd (sc (dB b) T p - p) (by omega)
        rw [show p + (sc (dB b) T p - p) = sc (dB b) T p from by omega] at z
        exact absurd z this
      · exact a
      · exact absurd ⟨by omega, sc_mid p (p + i) (by omega) a⟩ no
    rw [e2, show p + i - p = i from by omega]
    refine ⟨g, ?_, e10, e12, FB.rf⟩
    unfold f_Model_number_b6
    rw [if_pos (s7 _), N_at0 (lo := 48) (hi := 57) (x := 48) (y := 57) t R e10 hi (by decide) (by decide) rfl rfl (fun z => no ⟨z.1, dB_i.mpr z.2⟩), bI_s, if_pos rfl, if_pos (s7 _), hI_u, e10, e12, b99, pk_sub (by omega), show p + i - p = i from by omega, show (3 : Int32) = nI 3 from rfl]
    by_cases c0 : i = 0
    · subst c0
      rw [if_pos (by rw [Nat.add_zero]), if_neg (fun z => z.1 (Nat.add_zero p))]
    · rw [if_neg (fun z => c0 (by have := (nI_eq (by omega) (by omega)).mp z; omega))]
      by_cases c1 : 3 < i
      · rw [if_pos (nI_lt c1 (by omega)), if_neg (fun z => by omega)]
      · rw [if_neg (nI_nlt (by omega) (by omega)), show min i 3 = i from by omega]
        by_cases c2 : nI (nmV b p i) < x
        · rw [if_pos c2, if_neg (fun z => z.2.2.1 c2)]
        · rw [if_neg c2]
          by_cases c3 : nI (nmV b p i) ≤ y
          · rw [if_pos c3, if_pos ⟨by omega, by omega, c2, c3⟩]
          · rw [if_neg c3, if_neg (fun z => c3 z.2.2.2)]
  induction m with
  | zero =>
    intro i g hm R e10 e12 hd q
    exact stop i g _ (by omega) R e10 e12 hd (by omega)
  | succ m ih =>
    intro i g hm R e10 e12 hd q
    have hT := R.2.1
    by_cases c : dB b (p + i) = true
    · have c48 := dB_i.mp c
      obtain ⟨g', z1, z2, z3, z4⟩ := ih (i + 1) (up2 g 755 10 (nI (p + (i + 1)))) (by omega) (R.fb (FB.up (Or.inl rfl))) up_eq (by rw [up_k (by decide)]; exact e12) (fun k hk => by
        by_cases ek : k = i
        · subst ek; exact c
        · exact hd k (by omega)) q
      refine ⟨g', ?_, z2, z3, (FB.up (Or.inl rfl)).tr z4⟩
      show f_Model_number_b6 (f_Model_number_L6 (q + m + 1)) (uI h g) 755 x y (nI (nmV b p (min i 3))) = _
      unfold f_Model_number_b6 f_Model_number_b51
      rw [if_pos (s7 _), N_at1 (lo := 48) (hi := 57) (x := 48) (y := 57) t R e10 (by omega) (by decide) (by decide) rfl rfl ⟨by omega, dB_i.mp c⟩, bI_s, if_neg (by decide), if_pos (s7 _), hI_u, e10, e12, pk_sub (by omega), show p + i - p = i from by omega, show (3 : Int32) = nI 3 from rfl]
      by_cases c3 : 3 ≤ i
      · rw [if_pos (nI_le c3 (by omega)), if_pos (s7 _), wr_s, sI_u, nI_1, show min i 3 = min (i + 1) 3 from by omega, show p + i + 1 = p + (i + 1) from by omega]
        exact z1
      · have ev : nmV b p (min (i + 1) 3) = 10 * nmV b p (min i 3) + b (p + i) - 48 := by
          rw [show min (i + 1) 3 = i + 1 from by omega, show min i 3 = i from by omega]
          rfl
        have eb : g 761 (p + i) = nI (b (p + i)) := by
          rcases R.2.2 (p + i) (by omega) with ⟨h1, h2⟩ | ⟨h1, h2, h3⟩
          · exact h2
          · omega
        rw [if_neg (nI_ge (by omega) (by omega)), r8, if_pos (sa _), la', if_pos (ib_n (by omega) (by decide)), if_pos (s7 _), ix_n (by omega), eb, wr_s, sI_u, nI_1, show (10 : Int32) = nI 10 from rfl, nI_mul, nI_add, show (48 : Int32) = nI 48 from rfl, pk_sub (by omega), ← ev, show p + i + 1 = p + (i + 1) from by omega]
        exact z1
    · exact stop i g _ (by omega) R e10 e12 hd (fun z => c z.2)
theorem N_number (t : TSr h) (R : RS g b T p) (hh : hi ≤ 1000) (hl : lo < 5000) {x y : Int32} (hx : x = nI lo) (hy : y = nI hi - 1) : (lo ≤ cdT b T p ∧ cdT b T p < hi ∧ p < T ∧ ∃ g', f_Model_number (uI h g) 755 x y = some (nI (cdT b T p), uI h g') ∧ RS g' b T (nx b T p) ∧ FB g g') ∨ (¬ (lo ≤ cdT b T p ∧ cdT b T p < hi) ∧ ∃ g', f_Model_number (uI h g) 755 x y = some (-1, uI h g') ∧ g' 755 12 = nI p ∧ FB g g') := by
  have s7 : ∀ g, hS (uI h g) 755 = 11 := fun g => t.1
  have hT := R.1.2.1
  have hp := R.le
  obtain ⟨g1, a1, a2, a3, a4⟩ := N_blanks t R
  obtain ⟨g2, b1, b2, b3, b4⟩ := N_number_L (x := x) (y := y) t hp (T - p) 0 g1 (by omega) (R.1.fb a4) a2 a3 (fun k hk => absurd hk (Nat.not_lt_zero _)) (999999 - (T - p))
  rw [← FU_mm (by omega)] at b1
  have b1 : f_Model_number_L6 FU (uI h g1) 755 x y 0 = _ := b1
  have go : f_Model_number (uI h g) 755 x y = some (if sc (dB b) T p ≠ p ∧ sc (dB b) T p - p ≤ 3 ∧ ¬ nI (nmV b p (sc (dB b) T p - p)) < x ∧ nI (nmV b p (sc (dB b) T p - p)) ≤ y then nI (nmV b p (sc (dB b) T p - p)) else -1, uI h g2) := by
    unfold f_Model_number f_Model_number_b0
    rw [if_pos (s7 _), a1, bV_s]
    exact b1
  have h1 := sc_le (P := dB b) (T := T) p
  by_cases c : p < T ∧ dB b p = true ∧ sc (dB b) T p - p ≤ 3
  · have ev : cdT b T p = nmV b p (sc (dB b) T p - p) := by rw [cd_num c.1 c.2.1, if_pos c.2.2]
    have nv := num_lt (b := b) (p := p) (T := T) hp c.2.2
    have ne : sc (dB b) T p ≠ p := by
      rw [sc_yes c.1 c.2.1]
      have := sc_le (P := dB b) (T := T) (p + 1)
      omega
    rw [← ev] at go nv
    by_cases e : lo ≤ cdT b T p ∧ cdT b T p < hi
    · rw [if_pos ⟨ne, c.2.2, by rw [hx]; exact nI_nlt e.1 (by omega), by rw [hy]; exact (cK_le (by omega) (by omega)).mpr e.2⟩] at go
      refine Or.inl ⟨e.1, e.2, c.1, g2, go, ⟨R.1.fb (a4.tr b4), sc (dB b) T p, sc_T p hp, b2, ?_⟩, a4.tr b4⟩
      show _ = bk b T (th b T p)
      rw [th_num c.1 c.2.1]
    · rw [if_neg (fun z => e ⟨by
        have z1 := z.2.2.1
        rw [hx] at z1
        rcases Nat.lt_or_ge (cdT b T p) lo with y | y
        · exact absurd (nI_lt y (by omega)) z1
        · exact y, by
        have z1 := z.2.2.2
        rw [hy] at z1
        exact (cK_le (by omega) (by omega)).mp z1⟩)] at go
      exact Or.inr ⟨e, g2, go, b3, a4.tr b4⟩
  · have big : 1000 ≤ cdT b T p := by
      by_cases c1 : p < T ∧ dB b p = true
      · rw [cd_num c1.1 c1.2, if_neg (fun z => c ⟨c1.1, c1.2, z⟩)]
        decide
      · rcases cd_all b T p with ⟨-, a⟩ | ⟨-, -, ⟨i, -, a⟩ | a⟩ | ⟨a1, a2, -⟩ | ⟨-, -, -, a⟩
        · omega
        · omega
        · omega
        · exact absurd ⟨a1, a2⟩ c1
        · omega
    have no : ¬ (sc (dB b) T p ≠ p ∧ sc (dB b) T p - p ≤ 3) := by
      rintro ⟨z1, z2⟩
      refine c ⟨?_, ?_, z2⟩
      · by_cases q : p < T
        · exact q
        · exact absurd (sc_end (by omega)) z1
      · exact Classical.byContradiction fun q => z1 (sc_no q)
    rw [if_neg (fun z => no ⟨z.1, z.2.1⟩)] at go
    exact Or.inr ⟨by omega, g2, go, b3, a4.tr b4⟩
end U54
