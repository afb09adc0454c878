/-! ===== the law of the reference, as functions of its world ===== -/
section U7
variable {h : Hp} {g g' g1 : Nat → Nat → Int32} {w w' : Nat → Int32} {A c d k n l y j m q s i F r z : Nat} {v x a b : Int32} {f p : Nat → Nat} {st st' r' : List Int32} {ts ts' : List Bool}
def nowW (w : Nat → Int32) : Int32 := if w 4 / 12 < 29 then w 4 / 12 else 29
def ageW (w : Nat → Int32) (y : Nat) : Int32 := if 0 < nowW w - nI y then nowW w - nI y else 0
/-- what a step tells of a year in a cistern -/
def fcW (w : Nat → Int32) (c y : Nat) (s n : Int32) : Int32 :=
  if s = 0 then nI y else if s = 1 then ageW w y else if s = 2 then w (35 + y) else if s = 3 then jrem (w 4) 12 else if s = 4 then w (70 + 35 * c + y)
  else if s = 5 then (if w (66 + 35 * c) = 1 then 1 else 0) else if s = 6 then (if w (66 + 35 * c) = 2 then 1 else 0) else if s = 7 then (if w (66 + 35 * c) = 3 then 1 else 0) else if s = 8 then w (67 + 35 * c) else n
def opW (s a b : Int32) : Int32 := if s = 10 then a + b else if s = 11 then (if b ≤ a then 0 else 1) else if s = 12 then (if a ≤ b then 0 else 1) else if s = 14 then (if a + b = 2 then 1 else 0) else (if a + b ≤ 0 then 0 else 1)
/-- a step on what waits -/
def evS (s x : Int32) (st : List Int32) : Option (List Int32) :=
  if 9 < s then (if s = 13 then (match st with
    | a :: r => some ((1 - a) :: r)
    | [] => none) else (match st with
    | b :: a :: r => some (opW s a b :: r)
    | _ => none)) else some (x :: st)
def evR (w : Nat → Int32) (c y : Nat) : Nat → Nat → List Int32 → Option (List Int32)
  | 0, _, st => some st
  | n + 1, i, st => match evS (w (654 + 2 * i)) (fcW w c y (w (654 + 2 * i)) (w (655 + 2 * i))) st with
    | some st' => evR w c y n (i + 1) st'
    | none => none
/-- what kinds of thing wait (true: it holds or not; false: a number), 32 at most -/
def tyS (s n : Int32) (ts : List Bool) : Option (List Bool) :=
  if s = 9 then (if (0 ≤ n ∧ n ≤ 999) ∧ ts.length < 32 then some (false :: ts) else none)
  else if 0 ≤ s ∧ s ≤ 4 then (if ts.length < 32 then some (false :: ts) else none)
  else if 5 ≤ s ∧ s ≤ 8 then (if ts.length < 32 then some (true :: ts) else none)
  else if s = 13 then (match ts with
    | true :: r => some (true :: r)
    | _ => none)
  else if s = 10 then (match ts with
    | false :: false :: r => some (false :: r)
    | _ => none)
  else if s = 11 ∨ s = 12 then (match ts with
    | false :: false :: r => some (true :: r)
    | _ => none)
  else if s = 14 ∨ s = 15 then (match ts with
    | true :: true :: r => some (true :: r)
    | _ => none)
  else none
def tyR (w : Nat → Int32) : Nat → Nat → List Bool → Option (List Bool)
  | 0, _, ts => some ts
  | n + 1, i, ts => match tyS (w (654 + 2 * i)) (w (655 + 2 * i)) ts with
    | some ts' => tyR w n (i + 1) ts'
    | none => none
/-- what waits is of these kinds -/
def TV : List Bool → List Int32 → Prop
  | [], [] => True
  | t :: ts, a :: st => (t = true → a = 0 ∨ a = 1) ∧ TV ts st
  | _, _ => False
theorem TV.len : ∀ {ts : List Bool} {st : List Int32}, TV ts st → ts.length = st.length
  | [], [], _ => rfl
  | _ :: _, _ :: _, x => congrArg (· + 1) (TV.len x.2)
  | [], _ :: _, x => absurd x id
  | _ :: _, [], x => absurd x id
theorem TV.c1 {t : Bool} (x : TV (t :: ts) st) : ∃ a r, st = a :: r ∧ (t = true → a = 0 ∨ a = 1) ∧ TV ts r := by
  cases st with
  | nil => exact absurd x id
  | cons a r => exact ⟨a, r, rfl, x.1, x.2⟩
theorem TV.c2 {t u : Bool} (x : TV (t :: u :: ts) st) : ∃ b a r, st = b :: a :: r ∧ (t = true → b = 0 ∨ b = 1) ∧ (u = true → a = 0 ∨ a = 1) ∧ TV ts r := by
  obtain ⟨b, r, rfl, h1, h2⟩ := x.c1
  obtain ⟨a, r, rfl, h3, h4⟩ := h2.c1
  exact ⟨b, a, r, rfl, h1, h3, h4⟩
/-- what tyS says of a step, kind by kind -/
theorem tyS_in (e : tyS v x ts = some ts') :
    (¬ 9 < v ∧ ts.length < 32 ∧ ((ts' = false :: ts ∧ ((v = 9 ∧ 0 ≤ x ∧ x ≤ 999) ∨ (0 ≤ v ∧ v ≤ 4))) ∨ (ts' = true :: ts ∧ 5 ≤ v ∧ v ≤ 8))) ∨
    (9 < v ∧ v = 13 ∧ ∃ r, ts = true :: r ∧ ts' = true :: r) ∨
    (9 < v ∧ v ≠ 13 ∧ ((v = 10 ∧ ∃ r, ts = false :: false :: r ∧ ts' = false :: r) ∨ ((v = 11 ∨ v = 12) ∧ ∃ r, ts = false :: false :: r ∧ ts' = true :: r) ∨ ((v = 14 ∨ v = 15) ∧ ∃ r, ts = true :: true :: r ∧ ts' = true :: r))) := by
  unfold tyS at e
  by_cases e9 : v = 9
  · rw [if_pos e9] at e
    by_cases q : (0 ≤ x ∧ x ≤ 999) ∧ ts.length < 32
    · rw [if_pos q] at e
      cases e
      exact Or.inl ⟨by rw [e9]; decide, q.2, Or.inl ⟨rfl, Or.inl ⟨e9, q.1.1, q.1.2⟩⟩⟩
    · rw [if_neg q] at e; cases e
  rw [if_neg e9] at e
  by_cases e4 : 0 ≤ v ∧ v ≤ 4
  · rw [if_pos e4] at e
    by_cases q : ts.length < 32
    · rw [if_pos q] at e
      cases e
      exact Or.inl ⟨fun z => Int32.lt_irrefl (Int32.lt_of_lt_of_le (Int32.lt_of_lt_of_le z e4.2) (by decide)), q, Or.inl ⟨rfl, Or.inr e4⟩⟩
    · rw [if_neg q] at e; cases e
  rw [if_neg e4] at e
  by_cases e8 : 5 ≤ v ∧ v ≤ 8
  · rw [if_pos e8] at e
    by_cases q : ts.length < 32
    · rw [if_pos q] at e
      cases e
      exact Or.inl ⟨fun z => Int32.lt_irrefl (Int32.lt_of_lt_of_le (Int32.lt_of_lt_of_le z e8.2) (by decide)), q, Or.inr ⟨rfl, e8⟩⟩
    · rw [if_neg q] at e; cases e
  rw [if_neg e8] at e
  by_cases e13 : v = 13
  · rw [if_pos e13] at e
    cases ts with
    | nil => cases e
    | cons t r =>
      cases t with
      | false => cases e
      | true => cases e; exact Or.inr (Or.inl ⟨by rw [e13]; decide, e13, r, rfl, rfl⟩)
  rw [if_neg e13] at e
  by_cases e10 : v = 10
  · rw [if_pos e10] at e
    refine Or.inr (Or.inr ⟨by rw [e10]; decide, e13, Or.inl ⟨e10, ?_⟩⟩)
    rcases ts with _ | ⟨_ | _, _ | ⟨_ | _, r⟩⟩ <;> first | (cases e; exact ⟨_, rfl, rfl⟩) | cases e
  rw [if_neg e10] at e
  by_cases e11 : v = 11 ∨ v = 12
  · rw [if_pos e11] at e
    refine Or.inr (Or.inr ⟨by rcases e11 with z | z <;> (rw [z]; decide), e13, Or.inr (Or.inl ⟨e11, ?_⟩)⟩)
    rcases ts with _ | ⟨_ | _, _ | ⟨_ | _, r⟩⟩ <;> first | (cases e; exact ⟨_, rfl, rfl⟩) | cases e
  rw [if_neg e11] at e
  by_cases e14 : v = 14 ∨ v = 15
  · rw [if_pos e14] at e
    refine Or.inr (Or.inr ⟨by rcases e14 with z | z <;> (rw [z]; decide), e13, Or.inr (Or.inr ⟨e14, ?_⟩)⟩)
    rcases ts with _ | ⟨_ | _, _ | ⟨_ | _, r⟩⟩ <;> first | (cases e; exact ⟨_, rfl, rfl⟩) | cases e
  rw [if_neg e14] at e
  cases e
theorem op_b (h : s ≠ 10) : opW (nI s) a b = 0 ∨ opW (nI s) a b = 1 ∨ s ≥ 2 ^ 31 := by
  by_cases q : s ≥ 2 ^ 31
  · exact Or.inr (Or.inr q)
  · unfold opW
    have e : ¬ nI s = 10 := fun z => h ((nI_eq (by omega) (by decide)).mp z)
    rw [if_neg e]
    split
    · split
      · exact Or.inl rfl
      · exact Or.inr (Or.inl rfl)
    · split
      · split
        · exact Or.inl rfl
        · exact Or.inr (Or.inl rfl)
      · split
        · split
          · exact Or.inr (Or.inl rfl)
          · exact Or.inl rfl
        · split
          · exact Or.inl rfl
          · exact Or.inr (Or.inl rfl)
theorem fc_b (hk : w (67 + 35 * c) = 0 ∨ w (67 + 35 * c) = 1) (h1 : 5 ≤ v) (h2 : v ≤ 8) : fcW w c y v x = 0 ∨ fcW w c y v x = 1 := by
  have ne : ∀ u : Int32, u < 5 → v ≠ u := fun u hu z => Int32.lt_irrefl (Int32.lt_of_le_of_lt h1 (by rw [z]; exact hu))
  unfold fcW
  rw [if_neg (ne 0 (by decide)), if_neg (ne 1 (by decide)), if_neg (ne 2 (by decide)), if_neg (ne 3 (by decide)), if_neg (ne 4 (by decide))]
  by_cases e5 : v = 5
  · rw [if_pos e5]; split
    · exact Or.inr rfl
    · exact Or.inl rfl
  rw [if_neg e5]
  by_cases e6 : v = 6
  · rw [if_pos e6]; split
    · exact Or.inr rfl
    · exact Or.inl rfl
  rw [if_neg e6]
  by_cases e7 : v = 7
  · rw [if_pos e7]; split
    · exact Or.inr rfl
    · exact Or.inl rfl
  rw [if_neg e7]
  by_cases e8 : v = 8
  · rw [if_pos e8]; exact hk
  exfalso
  have g5 := Int32.le_iff_toInt_le.mp h1
  have g8 := Int32.le_iff_toInt_le.mp h2
  have n5 : v.toInt ≠ (5 : Int32).toInt := fun z => e5 (Int32.toInt_inj.mp z)
  have n6 : v.toInt ≠ (6 : Int32).toInt := fun z => e6 (Int32.toInt_inj.mp z)
  have n7 : v.toInt ≠ (7 : Int32).toInt := fun z => e7 (Int32.toInt_inj.mp z)
  have n8 : v.toInt ≠ (8 : Int32).toInt := fun z => e8 (Int32.toInt_inj.mp z)
  have i5 : (5 : Int32).toInt = 5 := rfl
  have i6 : (6 : Int32).toInt = 6 := rfl
  have i7 : (7 : Int32).toInt = 7 := rfl
  have i8 : (8 : Int32).toInt = 8 := rfl
  omega
/-- a step that is of its kind goes on, and what waits then is of its kinds -/
theorem ev_ty (e : tyS v x ts = some ts') (t : TV ts st) (hk : w (67 + 35 * c) = 0 ∨ w (67 + 35 * c) = 1) : ∃ st', evS v (fcW w c y v x) st = some st' ∧ TV ts' st' := by
  rcases tyS_in e with ⟨h1, -, h2⟩ | ⟨h1, h2, r, rfl, rfl⟩ | ⟨h1, h2, h3⟩
  · refine ⟨fcW w c y v x :: st, if_neg h1, ?_⟩
    rcases h2 with ⟨rfl, -⟩ | ⟨rfl, h5, h8⟩
    · exact ⟨fun z => Bool.noConfusion z, t⟩
    · exact ⟨fun _ => fc_b hk h5 h8, t⟩
  · obtain ⟨a, r', rfl, h3, h4⟩ := t.c1
    refine ⟨(1 - a) :: r', by unfold evS; rw [if_pos h1, if_pos h2], fun _ => ?_, h4⟩
    rcases h3 rfl with rfl | rfl
    · exact Or.inr rfl
    · exact Or.inl rfl
  · have fin : ∀ {p q o : Bool} {r : List Bool}, ts = p :: q :: r → ts' = o :: r → (o = true → ∀ a b, opW v a b = 0 ∨ opW v a b = 1) → ∃ st', evS v (fcW w c y v x) st = some st' ∧ TV ts' st' := by
      rintro p q o r rfl rfl ho
      obtain ⟨b, a, r', rfl, -, -, h6⟩ := t.c2
      exact ⟨opW v a b :: r', by unfold evS; rw [if_pos h1, if_neg h2], fun z => ho z a b, h6⟩
    have ob : ∀ s : Nat, s < 100 → s ≠ 10 → v = nI s → ∀ a b, opW v a b = 0 ∨ opW v a b = 1 := fun s hs h10 hv a b => by
      rw [hv]
      rcases op_b (a := a) (b := b) h10 with z | z | z
      · exact Or.inl z
      · exact Or.inr z
      · omega
    rcases h3 with ⟨-, r, q1, q2⟩ | ⟨q0, r, q1, q2⟩ | ⟨q0, r, q1, q2⟩
    · exact fin q1 q2 (fun z => Bool.noConfusion z)
    · refine fin q1 q2 (fun _ => ?_)
      rcases q0 with z | z
      · exact ob 11 (by decide) (by decide) z
      · exact ob 12 (by decide) (by decide) z
    · refine fin q1 q2 (fun _ => ?_)
      rcases q0 with z | z
      · exact ob 14 (by decide) (by decide) z
      · exact ob 15 (by decide) (by decide) z
theorem evR_ty (hk : w (67 + 35 * c) = 0 ∨ w (67 + 35 * c) = 1) : ∀ (n i : Nat) (ts : List Bool) (st : List Int32), tyR w n i ts = some ts' → TV ts st → ∃ st', evR w c y n i st = some st' ∧ TV ts' st' := by
  intro n
  induction n with
  | zero => intro i ts st e t; cases e; exact ⟨st, rfl, t⟩
  | succ n ih =>
    intro i ts st e t
    unfold tyR at e
    cases q : tyS (w (654 + 2 * i)) (w (655 + 2 * i)) ts with
    | none => rw [q] at e; cases e
    | some t1 =>
      rw [q] at e
      obtain ⟨s1, e1, t1'⟩ := ev_ty (w := w) (c := c) (y := y) q t hk
      obtain ⟨s2, e2, t2'⟩ := ih (i + 1) t1 s1 e t1'
      refine ⟨s2, ?_, t2'⟩
      unfold evR
      rw [e1]
      exact e2
/-- a row of ints that holds what waits -/
def StR (row : Nat → Int32) : List Int32 → Prop
  | [] => True
  | a :: r => row r.length = a ∧ StR row r
theorem StR.up {row : Nat → Int32} : ∀ {r : List Int32}, StR row r → ∀ {k}, r.length ≤ k → StR (up1 row k v) r
  | [], _, _, _ => trivial
  | a :: r, x, k, hk => by
    have hk' : r.length + 1 ≤ k := hk
    exact ⟨by rw [up1_ne (by omega)]; exact x.1, x.2.up (by omega)⟩
theorem six (i : Nat) : (654 : Int32) + (2 : Int32) * nI i = nI (654 + 2 * i) := by
  show nI 654 + nI 2 * nI i = _
  rw [nI_mul, nI_add]
end U7
