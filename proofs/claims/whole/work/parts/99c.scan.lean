/-! ===== texts: bytes, blanks, things, codes ===== -/
section U52
variable {b : Nat → Nat} {P : Nat → Bool} {T p q n i j k m c s : Nat} {l l' : List Nat} {ws : List (List Nat)}
def scF (P : Nat → Bool) : Nat → Nat → Nat
  | 0, p => p
  | n + 1, p => if P p = true then scF P n (p + 1) else p
/-- the first place from p on that isn't so -/
def sc (P : Nat → Bool) (T p : Nat) : Nat := scF P (T - p) p
theorem sc_end (h : T ≤ p) : sc P T p = p := by
  unfold sc
  rw [show T - p = 0 from by omega]
  rfl
theorem sc_yes (h : p < T) (e : P p = true) : sc P T p = sc P T (p + 1) := by
  unfold sc
  rw [show T - p = (T - (p + 1)) + 1 from by omega]
  exact if_pos e
theorem sc_no (e : ¬ P p = true) : sc P T p = p := by
  unfold sc
  cases T - p with
  | zero => rfl
  | succ n => exact if_neg e
theorem sc_ind {Q : Nat → Prop} (h0 : ∀ p, T ≤ p → Q p) (h1 : ∀ p, p < T → ¬ P p = true → Q p) (h2 : ∀ p, p < T → P p = true → Q (p + 1) → Q p) : ∀ p, Q p := by
  have : ∀ m p, T - p = m → Q p := by
    intro m
    induction m with
    | zero => intro p hp; exact h0 p (by omega)
    | succ m ih =>
      intro p hp
      by_cases e : P p = true
      · exact h2 p (by omega) e (ih (p + 1) (by omega))
      · exact h1 p (by omega) e
  exact fun p => this _ p rfl
theorem sc_le : ∀ p, p ≤ sc P T p := by
  refine sc_ind (T := T) (P := P) (fun p h => ?_) (fun p h e => ?_) (fun p h e z => ?_)
  · rw [sc_end h]; exact Nat.le_refl _
  · rw [sc_no e]; exact Nat.le_refl _
  · rw [sc_yes h e]; omega
theorem sc_T : ∀ p, p ≤ T → sc P T p ≤ T := by
  refine sc_ind (T := T) (P := P) (fun p h z => ?_) (fun p h e z => ?_) (fun p h e z z2 => ?_)
  · rw [sc_end h]; exact z
  · rw [sc_no e]; exact z
  · rw [sc_yes h e]; exact z (by omega)
theorem sc_mid : ∀ p, ∀ k, p ≤ k → k < sc P T p → P k = true := by
  refine sc_ind (T := T) (P := P) (fun p h k h1 h2 => ?_) (fun p h e k h1 h2 => ?_) (fun p h e z k h1 h2 => ?_)
  · rw [sc_end h] at h2; omega
  · rw [sc_no e] at h2; omega
  · rw [sc_yes h e] at h2
    by_cases q : k = p
    · subst q; exact e
    · exact z k (by omega) h2
theorem sc_at : ∀ p, sc P T p < T → ¬ P (sc P T p) = true := by
  refine sc_ind (T := T) (P := P) (fun p h z => ?_) (fun p h e z => ?_) (fun p h e z z2 => ?_)
  · rw [sc_end h] at z; omega
  · rw [sc_no e]; exact e
  · rw [sc_yes h e] at z2 ⊢; exact z z2
theorem sc_same (h : p ≤ T) : sc P T (sc P T p) = sc P T p := by
  by_cases e : sc P T p < T
  · exact sc_no (sc_at p e)
  · exact sc_end (by omega)
def lB (b : Nat → Nat) (p : Nat) : Bool := decide (97 ≤ b p) && decide (b p ≤ 122)
def dB (b : Nat → Nat) (p : Nat) : Bool := decide (48 ≤ b p) && decide (b p ≤ 57)
def zB (b : Nat → Nat) (p : Nat) : Bool := decide (b p = 32)
theorem lB_i : lB b p = true ↔ 97 ≤ b p ∧ b p ≤ 122 := by unfold lB; rw [Bool.and_eq_true, decide_eq_true_iff, decide_eq_true_iff]
theorem dB_i : dB b p = true ↔ 48 ≤ b p ∧ b p ≤ 57 := by unfold dB; rw [Bool.and_eq_true, decide_eq_true_iff, decide_eq_true_iff]
theorem zB_i : zB b p = true ↔ b p = 32 := by unfold zB; rw [decide_eq_true_iff]
/-- behind the blanks -/
def bk (b : Nat → Nat) (T p : Nat) : Nat := sc (zB b) T p
/-- behind the thing -/
def th (b : Nat → Nat) (T p : Nat) : Nat := if lB b p = true then sc (lB b) T (p + 1) else if dB b p = true then sc (dB b) T (p + 1) else p + 1
/-- the begin of the next thing -/
def nx (b : Nat → Nat) (T p : Nat) : Nat := bk b T (th b T p)
def sl (b : Nat → Nat) (p n : Nat) : List Nat := (List.range n).map fun k => b (p + k)
def wcF : List (List Nat) → Nat → List Nat → Nat
  | [], _, _ => 5000
  | w :: ws, c, l => if l = w then c else wcF ws (c + 1) l
def nmV (b : Nat → Nat) (p : Nat) : Nat → Nat
  | 0 => 0
  | n + 1 => 10 * nmV b p n + b (p + n) - 48
def wrds : List (List Nat) := [[121, 101, 97, 114], [97, 103, 101], [115, 97, 108, 116], [109, 111, 110, 116, 104], [109, 101, 97, 115, 117, 114, 101, 115], [104, 111, 108, 121], [99, 111, 109, 109, 111, 110], [99, 114, 97, 99, 107, 101, 100], [115, 101, 97, 108, 101, 100], [110, 111, 116], [97, 110, 100], [111, 114], [98, 97, 114], [105, 102], [102, 105, 114, 115, 116], [99, 105, 115, 116, 101, 114, 110], [112, 111, 117, 114], [111, 102], [105, 110], [104, 111, 117, 115, 101], [97, 116], [98, 101, 97, 114, 115], [108, 101, 97, 107], [116, 111], [97, 119, 97, 121], [115, 101, 97, 108], [111, 112, 101, 110]]
/-- what stands at p: 5000 is nothing that there is -/
def cdT (b : Nat → Nat) (T p : Nat) : Nat := if T ≤ p then 3000 else if lB b p = true then wcF wrds 1000 (sl b p (sc (lB b) T p - p)) else if dB b p = true then (if sc (dB b) T p - p ≤ 3 then nmV b p (sc (dB b) T p - p) else 5000) else 2000 + b p
theorem sl_len : (sl b p n).length = n := by unfold sl; rw [List.length_map, List.length_range]
theorem sl_get (h : k < n) : (sl b p n)[k]? = some (b (p + k)) := by
  unfold sl
  rw [List.getElem?_map, List.getElem?_range h]
  rfl
theorem sl_eq : sl b p n = l ↔ l.length = n ∧ ∀ k, k < n → l[k]? = some (b (p + k)) := by
  constructor
  · rintro rfl
    exact ⟨sl_len, fun k hk => sl_get hk⟩
  · rintro ⟨h1, h2⟩
    refine List.ext_getElem? fun k => ?_
    by_cases e : k < n
    · rw [sl_get e, h2 k e]
    · rw [List.getElem?_eq_none (by rw [sl_len]; omega), List.getElem?_eq_none (by omega)]
theorem wc_in : ∀ (ws : List (List Nat)) (c : Nat) (l : List Nat), (∃ i, i < ws.length ∧ wcF ws c l = c + i ∧ ws[i]? = some l) ∨ (wcF ws c l = 5000 ∧ ∀ w ∈ ws, l ≠ w) := by
  intro ws
  induction ws with
  | nil => intro c l; exact Or.inr ⟨rfl, fun w hw => by cases hw⟩
  | cons w ws ih =>
    intro c l
    by_cases e : l = w
    · exact Or.inl ⟨0, Nat.succ_pos _, if_pos e, by rw [e]; rfl⟩
    · have z : wcF (w :: ws) c l = wcF ws (c + 1) l := if_neg e
      rcases ih (c + 1) l with ⟨i, h1, h2, h3⟩ | ⟨h1, h2⟩
      · exact Or.inl ⟨i + 1, Nat.succ_lt_succ h1, by rw [z, h2]; omega, h3⟩
      · refine Or.inr ⟨z.trans h1, fun w' hw => ?_⟩
        rcases List.mem_cons.mp hw with rfl | hw
        · exact e
        · exact h2 w' hw
theorem wrds_in : ∀ i, i < 27 → ∀ j, j < 27 → wrds[i]? = wrds[j]? → i = j := by decide +kernel
theorem wrds_len : wrds.length = 27 := rfl
theorem wrds_ne : ∀ i, i < 27 → wrds[i]? ≠ some [] := by decide +kernel
theorem wrds_az : ∀ w ∈ wrds, ∀ x ∈ w, 97 ≤ x ∧ x ≤ 122 := by decide +kernel
theorem wc_i (hi : i < 27) (h : wrds[i]? = some l') : wcF wrds 1000 l = 1000 + i ↔ l = l' := by
  rcases wc_in wrds 1000 l with ⟨j, h1, h2, h3⟩ | ⟨h1, h2⟩
  · rw [wrds_len] at h1
    constructor
    · intro e
      have : j = i := by omega
      subst this
      rw [h] at h3
      exact (Option.some.inj h3).symm
    · rintro rfl
      have := wrds_in j h1 i hi (h3.trans h.symm)
      omega
  · constructor
    · intro e; omega
    · rintro rfl
      exact absurd rfl (h2 _ (List.mem_of_getElem? h))
theorem nm_lt (h : ∀ k, k < n → b (p + k) ≤ 57) : nmV b p n + 1 ≤ 10 ^ n := by
  induction n with
  | zero => exact Nat.le_refl _
  | succ n ih =>
    have h1 := ih fun k hk => h k (by omega)
    have h2 := h n (by omega)
    show 10 * nmV b p n + b (p + n) - 48 + 1 ≤ _
    rw [Nat.pow_succ]
    omega
theorem cd_end (h : T ≤ p) : cdT b T p = 3000 := if_pos h
theorem cd_word (h : p < T) (e : lB b p = true) : cdT b T p = wcF wrds 1000 (sl b p (sc (lB b) T p - p)) := by
  unfold cdT
  rw [if_neg (by omega), if_pos e]
theorem l_nd (e : lB b p = true) : ¬ dB b p = true := by
  rw [lB_i] at e
  rw [dB_i]
  omega
theorem cd_num (h : p < T) (e : dB b p = true) : cdT b T p = if sc (dB b) T p - p ≤ 3 then nmV b p (sc (dB b) T p - p) else 5000 := by
  unfold cdT
  rw [if_neg (by omega), if_neg (fun z => l_nd z e), if_pos e]
theorem cd_sign (h : p < T) (e1 : ¬ lB b p = true) (e2 : ¬ dB b p = true) : cdT b T p = 2000 + b p := by
  unfold cdT
  rw [if_neg (by omega), if_neg e1, if_neg e2]
theorem num_lt (h : p ≤ T) (e : sc (dB b) T p - p ≤ 3) : nmV b p (sc (dB b) T p - p) < 1000 := by
  have z := nm_lt (b := b) (p := p) (n := sc (dB b) T p - p) fun k hk => (dB_i.mp (sc_mid (T := T) p (p + k) (by omega) (by omega))).2
  have : 10 ^ (sc (dB b) T p - p) ≤ 10 ^ 3 := Nat.pow_le_pow_right (by decide) e
  omega
/-- all that can stand at p -/
theorem cd_all (b : Nat → Nat) (T p : Nat) : (T ≤ p ∧ cdT b T p = 3000) ∨ (p < T ∧ lB b p = true ∧ ((∃ i, i < 27 ∧ cdT b T p = 1000 + i) ∨ cdT b T p = 5000)) ∨ (p < T ∧ dB b p = true ∧ (cdT b T p < 1000 ∨ cdT b T p = 5000)) ∨ (p < T ∧ ¬ lB b p = true ∧ ¬ dB b p = true ∧ cdT b T p = 2000 + b p) := by
  by_cases h : T ≤ p
  · exact Or.inl ⟨h, cd_end h⟩
  · have h : p < T := by omega
    by_cases e1 : lB b p = true
    · refine Or.inr (Or.inl ⟨h, e1, ?_⟩)
      rw [cd_word h e1]
      rcases wc_in wrds 1000 (sl b p (sc (lB b) T p - p)) with ⟨j, h1, h2, h3⟩ | ⟨h1, h2⟩
      · exact Or.inl ⟨j, h1, h2⟩
      · exact Or.inr h1
    · by_cases e2 : dB b p = true
      · refine Or.inr (Or.inr (Or.inl ⟨h, e2, ?_⟩))
        rw [cd_num h e2]
        by_cases e3 : sc (dB b) T p - p ≤ 3
        · rw [if_pos e3]; exact Or.inl (num_lt (by omega) e3)
        · rw [if_neg e3]; exact Or.inr rfl
      · exact Or.inr (Or.inr (Or.inr ⟨h, e1, e2, cd_sign h e1 e2⟩))
theorem cd_lt (hb : b p < 256) : cdT b T p ≤ 5000 := by
  rcases cd_all b T p with h | ⟨-, -, ⟨i, h1, h2⟩ | h⟩ | ⟨-, -, h⟩ | h <;> omega
theorem cd_T (h : cdT b T p ≠ 3000) : p < T := by
  rcases Nat.lt_or_ge p T with e | e
  · exact e
  · exact absurd (cd_end e) h
theorem th_lt (h : p < T) : p < th b T p ∧ th b T p ≤ T := by
  unfold th
  by_cases e1 : lB b p = true
  · rw [if_pos e1]; exact ⟨sc_le (p + 1), sc_T (p + 1) h⟩
  · rw [if_neg e1]
    by_cases e2 : dB b p = true
    · rw [if_pos e2]; exact ⟨sc_le (p + 1), sc_T (p + 1) h⟩
    · rw [if_neg e2]; omega
theorem nx_lt (h : p < T) : p < nx b T p ∧ nx b T p ≤ T := by
  have := th_lt (b := b) h
  have h2 := sc_le (P := zB b) (T := T) (th b T p)
  have h3 := sc_T (P := zB b) (T := T) (th b T p) this.2
  unfold nx bk
  omega
theorem bk_nx (h : p < T) : bk b T (nx b T p) = nx b T p := sc_same (th_lt h).2
theorem th_word (h : p < T) (e : lB b p = true) : th b T p = sc (lB b) T p := by
  unfold th
  rw [if_pos e, ← sc_yes h e]
theorem th_num (h : p < T) (e : dB b p = true) : th b T p = sc (dB b) T p := by
  unfold th
  rw [if_neg (fun z => l_nd z e), if_pos e, ← sc_yes h e]
theorem th_sign (e1 : ¬ lB b p = true) (e2 : ¬ dB b p = true) : th b T p = p + 1 := by
  unfold th
  rw [if_neg e1, if_neg e2]
/-- the code as the class writes it -/
def cK (n : Nat) : Int32 := if n = 5000 then -1 else nI n
theorem cK_n (h : n ≠ 5000) : cK n = nI n := if_neg h
theorem cK_eq (hn : n ≤ 5000) (hc : c < 5000) : cK n = nI c ↔ n = c := by
  unfold cK
  by_cases e : n = 5000
  · rw [if_pos e]
    constructor
    · intro z
      exact absurd z (by
        intro z
        have := congrArg Int32.toInt z
        rw [nI_toInt (by omega)] at this
        have h1 : (-1 : Int32).toInt = -1 := rfl
        omega)
    · intro z; omega
  · rw [if_neg e]
    exact nI_eq (by omega) (by omega)
theorem neg_lt (h : n < 2 ^ 31) : (-1 : Int32) < nI n := by
  rw [Int32.lt_iff_toInt_lt, nI_toInt h]
  have h1 : (-1 : Int32).toInt = -1 := rfl
  omega
theorem cK_lt (hn : n ≤ 5000) (hc : c < 5000) : cK n < nI c ↔ (n = 5000 ∨ n < c) := by
  unfold cK
  by_cases e : n = 5000
  · rw [if_pos e]
    exact ⟨fun _ => Or.inl e, fun _ => neg_lt (by omega)⟩
  · rw [if_neg e, nI_ltI (by omega) (by omega)]
    omega
/-- at most what is ahead of c -/
theorem cK_le (hn : n < 5000) (hc : c < 5000) : nI n ≤ nI c - 1 ↔ n < c := by
  cases c with
  | zero =>
    rw [show nI 0 - 1 = (-1 : Int32) from rfl]
    constructor
    · intro z
      exact absurd (Int32.lt_of_le_of_lt z (neg_lt (n := n) (by omega))) (Int32.lt_irrefl)
    · intro z; omega
  | succ c =>
    rw [nI_pred, nI_leI (by omega) (by omega)]
    omega
end U52
