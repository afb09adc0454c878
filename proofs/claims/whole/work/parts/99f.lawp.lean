/-! ===== a law's text: what it says ===== -/
section U55
variable {b : Nat → Nat} {T p q n i j k m c s r : Nat} {e es x E : List (Nat × Nat)} {at' : Nat → Nat ⊕ (List (Nat × Nat) × Nat)} {ts ts' : List Bool} {o : Bool}
/-- steps ahead of what is read on -/
def apP (es : List (Nat × Nat)) (r : Nat ⊕ (List (Nat × Nat) × Nat)) : Nat ⊕ (List (Nat × Nat) × Nat) := match r with
  | .inl p => .inl p
  | .inr (e, p) => .inr (es ++ e, p)
/-- one behind the other -/
def thP (r : Nat ⊕ (List (Nat × Nat) × Nat)) (f : Nat → Nat ⊕ (List (Nat × Nat) × Nat)) : Nat ⊕ (List (Nat × Nat) × Nat) := match r with
  | .inl p => .inl p
  | .inr (e, p) => apP e (f p)
def ptC (c : Nat) : Nat × Nat := if c < 1000 then (9, c) else (c - 1000, 0)
/-- a sum; x: what stands behind its next part -/
def suP (b : Nat → Nat) (T : Nat) : Nat → List (Nat × Nat) → Nat → Nat ⊕ (List (Nat × Nat) × Nat)
  | 0, _, p => .inl p
  | m + 1, x, p => if cdT b T p < 1005 then apP (ptC (cdT b T p) :: x) (if cdT b T (nx b T p) = 2043 then suP b T m [(10, 0)] (nx b T (nx b T p)) else .inr ([], nx b T p)) else .inl p
def cmP (b : Nat → Nat) (T p : Nat) : Nat ⊕ (List (Nat × Nat) × Nat) :=
  thP (suP b T 401 [] p) fun q => if cdT b T q = 2060 then thP (suP b T 401 [] (nx b T q)) (fun r => .inr ([(11, 0)], r)) else if cdT b T q = 2062 then thP (suP b T 401 [] (nx b T q)) (fun r => .inr ([(12, 0)], r)) else .inl q
/-- behind an atom; o: an or waits -/
def kcP (b : Nat → Nat) (T : Nat) (at' : Nat → Nat ⊕ (List (Nat × Nat) × Nat)) : Nat → Bool → Nat → Nat ⊕ (List (Nat × Nat) × Nat)
  | 0, _, p => .inl p
  | m + 1, o, p => if cdT b T p = 1010 then thP (at' (nx b T p)) (fun q => apP [(14, 0)] (kcP b T at' m o q)) else apP (if o = true then [(15, 0)] else []) (if cdT b T p = 1011 then thP (at' (nx b T p)) (fun q => kcP b T at' m true q) else .inr ([], p))
def coP (b : Nat → Nat) (T : Nat) (at' : Nat → Nat ⊕ (List (Nat × Nat) × Nat)) (p : Nat) : Nat ⊕ (List (Nat × Nat) × Nat) := thP (at' p) fun q => kcP b T at' 401 false q
/-- an atom, below which r more may stand -/
def atP (b : Nat → Nat) (T : Nat) : Nat → Nat → Nat ⊕ (List (Nat × Nat) × Nat)
  | 0, p => if 1005 ≤ cdT b T p ∧ cdT b T p ≤ 1008 then .inr ([(cdT b T p - 1000, 0)], nx b T p) else if cdT b T p = 2040 then .inl p else if cdT b T p = 1009 then .inl p else cmP b T p
  | r + 1, p => if 1005 ≤ cdT b T p ∧ cdT b T p ≤ 1008 then .inr ([(cdT b T p - 1000, 0)], nx b T p) else if cdT b T p = 2040 then thP (coP b T (atP b T r) (nx b T p)) (fun q => if cdT b T q = 2041 then .inr ([], nx b T q) else .inl q) else if cdT b T p = 1009 then thP (atP b T r (nx b T p)) (fun q => .inr ([(13, 0)], q)) else cmP b T p
/-- the kinds of thing that wait behind steps -/
def tyE : List (Nat × Nat) → List Bool → Option (List Bool)
  | [], ts => some ts
  | a :: e, ts => match tyS (nI a.1) (nI a.2) ts with
    | some ts' => tyE e ts'
    | none => none
theorem tyE_app (h1 : tyE e ts = some ts') : tyE (e ++ es) ts = tyE es ts' := by
  induction e generalizing ts with
  | nil => cases h1; rfl
  | cons a e ih =>
    unfold tyE at h1
    show (match tyS (nI a.1) (nI a.2) ts with
      | some ts' => tyE (e ++ es) ts'
      | none => none) = _
    cases hq : tyS (nI a.1) (nI a.2) ts with
    | none => rw [hq] at h1; cases h1
    | some t2 => rw [hq] at h1; exact ih h1
/-- what is read goes on, and has no more steps than things -/
def OKP (T p : Nat) (ts ts' : List Bool) (r : Nat ⊕ (List (Nat × Nat) × Nat)) : Prop := ∀ e q, r = .inr (e, q) → p < q ∧ q ≤ T ∧ e.length + p ≤ q ∧ tyE e ts = some ts'
theorem th_i {r : Nat ⊕ (List (Nat × Nat) × Nat)} {f : Nat → Nat ⊕ (List (Nat × Nat) × Nat)} (h : thP r f = .inr (e, q)) : ∃ e1 q1 e2, r = .inr (e1, q1) ∧ f q1 = .inr (e2, q) ∧ e = e1 ++ e2 := by
  unfold thP at h
  cases r with
  | inl p => cases h
  | inr z =>
    obtain ⟨e1, q1⟩ := z
    have h : apP e1 (f q1) = .inr (e, q) := h
    cases hf : f q1 with
    | inl p => rw [hf] at h; cases h
    | inr z =>
      obtain ⟨e2, q2⟩ := z
      rw [hf] at h
      cases h
      exact ⟨e1, q1, e2, rfl, hf, rfl⟩
theorem ap_i {r : Nat ⊕ (List (Nat × Nat) × Nat)} (h : apP es r = .inr (e, q)) : ∃ e2, r = .inr (e2, q) ∧ e = es ++ e2 := by
  cases r with
  | inl p => cases h
  | inr z =>
    obtain ⟨e2, q2⟩ := z
    cases h
    exact ⟨e2, rfl, rfl⟩
theorem ty_part (hc : c < 1005) (hl : ts.length < 32) : tyS (nI (ptC c).1) (nI (ptC c).2) ts = some (false :: ts) := by
  unfold ptC
  by_cases e : c < 1000
  · rw [if_pos e]
    unfold tyS
    rw [if_pos (show nI 9 = (9 : Int32) from rfl), if_pos ⟨⟨nI_pos' (by omega), nI_le (b := 999) (by omega) (by decide)⟩, hl⟩]
  · rw [if_neg e]
    have h5 : c - 1000 < 5 := by omega
    unfold tyS
    rw [if_neg (fun z => by have := (nI_eq (b := 9) (by omega) (by decide)).mp z; omega), if_pos ⟨nI_pos' (by omega), nI_le (b := 4) (by omega) (by decide)⟩, if_pos hl]
theorem su_ok : ∀ (m : Nat) (p : Nat), (∀ ts, ts.length < 31 → OKP T p ts (false :: ts) (suP b T m [] p)) ∧ (∀ ts, ts.length < 31 → ∀ e q, suP b T m [(10, 0)] p = .inr (e, q) → p < q ∧ q ≤ T ∧ e.length + p ≤ q + 1 ∧ tyE e (false :: ts) = some (false :: ts)) := by
  intro m
  induction m with
  | zero => intro p; exact ⟨fun ts _ e q h => (by cases h), fun ts _ e q h => (by cases h)⟩
  | succ m ih =>
    intro p
    have key : ∀ x e q, suP b T (m + 1) x p = .inr (e, q) → cdT b T p < 1005 ∧ p < T ∧ ((e = ptC (cdT b T p) :: x ∧ q = nx b T p) ∨ (∃ e2, suP b T m [(10, 0)] (nx b T (nx b T p)) = .inr (e2, q) ∧ e = ptC (cdT b T p) :: x ++ e2 ∧ nx b T p < T)) := by
      intro x e q h
      unfold suP at h
      by_cases c : cdT b T p < 1005
      · have hp : p < T := cd_T (b := b) (by omega)
        rw [if_pos c] at h
        obtain ⟨e2, h1, h2⟩ := ap_i h
        by_cases c2 : cdT b T (nx b T p) = 2043
        · rw [if_pos c2] at h1
          exact ⟨c, hp, Or.inr ⟨e2, h1, h2, cd_T (b := b) (by omega)⟩⟩
        · rw [if_neg c2] at h1
          cases h1
          exact ⟨c, hp, Or.inl ⟨by rw [h2, List.append_nil], rfl⟩⟩
      · rw [if_neg c] at h
        cases h
    refine ⟨fun ts hl e q h => ?_, fun ts hl e q h => ?_⟩
    · obtain ⟨c, hp, h2⟩ := key _ _ _ h
      have n1 := nx_lt (b := b) hp
      have t1 := ty_part (ts := ts) c (by omega)
      rcases h2 with ⟨rfl, rfl⟩ | ⟨e2, h3, rfl, hp2⟩
      · refine ⟨by omega, n1.2, by show 1 + p ≤ _; omega, ?_⟩
        unfold tyE
        rw [t1]
        rfl
      · have n2 := nx_lt (b := b) hp2
        obtain ⟨a1, a2, a3, a4⟩ := (ih (nx b T (nx b T p))).2 ts hl _ _ h3
        refine ⟨by omega, a2, ?_, ?_⟩
        · show e2.length + 1 + p ≤ _
          omega
        · show tyE (ptC (cdT b T p) :: e2) ts = _
          unfold tyE
          rw [t1]
          exact a4
    · obtain ⟨c, hp, h2⟩ := key _ _ _ h
      have n1 := nx_lt (b := b) hp
      have t1 := ty_part (ts := false :: ts) c (by show ts.length + 1 < 32; omega)
      have t2 : tyS (nI 10) (nI 0) (false :: false :: ts) = some (false :: ts) := by
        unfold tyS
        rw [if_neg (by decide), if_neg (by decide), if_neg (by decide), if_neg (by decide), if_pos (by decide)]
      have t3 : tyE [ptC (cdT b T p), (10, 0)] (false :: ts) = some (false :: ts) := by
        unfold tyE
        rw [t1]
        show tyE [(10, 0)] (false :: false :: ts) = _
        unfold tyE
        rw [show nI (10, 0).1 = nI 10 from rfl, show nI (10, 0).2 = nI 0 from rfl, t2]
        rfl
      rcases h2 with ⟨rfl, rfl⟩ | ⟨e2, h3, rfl, hp2⟩
      · exact ⟨by omega, n1.2, by show 2 + p ≤ _; omega, t3⟩
      · have n2 := nx_lt (b := b) hp2
        obtain ⟨a1, a2, a3, a4⟩ := (ih (nx b T (nx b T p))).2 ts hl _ _ h3
        refine ⟨by omega, a2, ?_, ?_⟩
        · show e2.length + 1 + 1 + p ≤ _
          omega
        · show tyE ([ptC (cdT b T p), (10, 0)] ++ e2) (false :: ts) = _
          rw [tyE_app t3]
          exact a4
theorem ty_cmp {s : Nat} (hs : s = 11 ∨ s = 12) : tyE [(s, 0)] (false :: false :: ts) = some (true :: ts) := by
  rcases hs with rfl | rfl
  · unfold tyE
    show (match tyS (nI 11) (nI 0) (false :: false :: ts) with
      | some ts' => tyE [] ts'
      | none => none) = _
    have : tyS (nI 11) (nI 0) (false :: false :: ts) = some (true :: ts) := by
      unfold tyS
      rw [if_neg (by decide), if_neg (by decide), if_neg (by decide), if_neg (by decide), if_neg (by decide), if_pos (by decide)]
    rw [this]
    rfl
  · unfold tyE
    show (match tyS (nI 12) (nI 0) (false :: false :: ts) with
      | some ts' => tyE [] ts'
      | none => none) = _
    have : tyS (nI 12) (nI 0) (false :: false :: ts) = some (true :: ts) := by
      unfold tyS
      rw [if_neg (by decide), if_neg (by decide), if_neg (by decide), if_neg (by decide), if_neg (by decide), if_pos (by decide)]
    rw [this]
    rfl
theorem ty_join {s : Nat} (hs : s = 14 ∨ s = 15) : tyE [(s, 0)] (true :: true :: ts) = some (true :: ts) := by
  rcases hs with rfl | rfl
  · unfold tyE
    show (match tyS (nI 14) (nI 0) (true :: true :: ts) with
      | some ts' => tyE [] ts'
      | none => none) = _
    have : tyS (nI 14) (nI 0) (true :: true :: ts) = some (true :: ts) := by
      unfold tyS
      rw [if_neg (by decide), if_neg (by decide), if_neg (by decide), if_neg (by decide), if_neg (by decide), if_neg (by decide), if_pos (by decide)]
    rw [this]
    rfl
  · unfold tyE
    show (match tyS (nI 15) (nI 0) (true :: true :: ts) with
      | some ts' => tyE [] ts'
      | none => none) = _
    have : tyS (nI 15) (nI 0) (true :: true :: ts) = some (true :: ts) := by
      unfold tyS
      rw [if_neg (by decide), if_neg (by decide), if_neg (by decide), if_neg (by decide), if_neg (by decide), if_neg (by decide), if_pos (by decide)]
    rw [this]
    rfl
theorem ty_not : tyE [(13, 0)] (true :: ts) = some (true :: ts) := by
  unfold tyE
  show (match tyS (nI 13) (nI 0) (true :: ts) with
    | some ts' => tyE [] ts'
    | none => none) = _
  have : tyS (nI 13) (nI 0) (true :: ts) = some (true :: ts) := by
    unfold tyS
    rw [if_neg (by decide), if_neg (by decide), if_neg (by decide), if_pos (by decide)]
  rw [this]
  rfl
theorem tyE_1 {a u : Nat} (h1 : tyS (nI a) (nI u) ts = some ts') : tyE [(a, u)] ts = some ts' := by
  unfold tyE
  rw [show tyS (nI (a, u).1) (nI (a, u).2) ts = some ts' from h1]
  rfl
theorem ty_tag (h1 : 1005 ≤ c) (h2 : c ≤ 1008) (hl : ts.length < 32) : tyE [(c - 1000, 0)] ts = some (true :: ts) := by
  refine tyE_1 ?_
  unfold tyS
  rw [if_neg (fun z => by have := (nI_eq (b := 9) (by omega) (by decide)).mp z; omega), if_neg (fun z => absurd z.2 (nI_ge (a := 4) (by omega) (by omega))), if_pos ⟨nI_le (a := 5) (by omega) (by omega), nI_le (b := 8) (by omega) (by decide)⟩, if_pos hl]
theorem cm_ok (hl : ts.length + 3 ≤ 32) : OKP T p ts (true :: ts) (cmP b T p) := by
  intro e q h
  obtain ⟨e1, q1, e2, h1, h2, rfl⟩ := th_i h
  obtain ⟨a1, a2, a3, a4⟩ := (su_ok 401 p).1 ts (by omega) _ _ h1
  have go : ∀ s, (s = 11 ∨ s = 12) → q1 < T → thP (suP b T 401 [] (nx b T q1)) (fun r => .inr ([(s, 0)], r)) = .inr (e2, q) → p < q ∧ q ≤ T ∧ (e1 ++ e2).length + p ≤ q ∧ tyE (e1 ++ e2) ts = some (true :: ts) := by
    intro s hs hq h
    obtain ⟨e3, q3, e4, h3, h4, rfl⟩ := th_i h
    obtain ⟨b1, b2, b3, b4⟩ := (su_ok 401 (nx b T q1)).1 (false :: ts) (by show ts.length + 1 < 31; omega) _ _ h3
    have n1 := nx_lt (b := b) hq
    cases h4
    refine ⟨by omega, b2, ?_, ?_⟩
    · rw [List.length_append, List.length_append]
      show e1.length + (e3.length + 1) + p ≤ _
      omega
    · rw [tyE_app a4, tyE_app b4, ty_cmp hs]
  by_cases c1 : cdT b T q1 = 2060
  · rw [if_pos c1] at h2
    exact go 11 (Or.inl rfl) (cd_T (b := b) (by omega)) h2
  · rw [if_neg c1] at h2
    by_cases c2 : cdT b T q1 = 2062
    · rw [if_pos c2] at h2
      exact go 12 (Or.inr rfl) (cd_T (b := b) (by omega)) h2
    · rw [if_neg c2] at h2
      cases h2
theorem kc_ok (hat : ∀ p ts, ts.length + r ≤ 32 → OKP T p ts (true :: ts) (at' p)) (hl : ts.length + r + 2 ≤ 32) : ∀ (m : Nat) (p : Nat) (o : Bool), p ≤ T → ∀ e q, kcP b T at' m o p = .inr (e, q) → p ≤ q ∧ q ≤ T ∧ e.length + p ≤ q + (if o = true then 1 else 0) ∧ tyE e (true :: (if o = true then true :: ts else ts)) = some (true :: ts) := by
  intro m
  induction m with
  | zero => intro p o _ e q h; cases h
  | succ m ih =>
    intro p o hp e q h
    unfold kcP at h
    by_cases c1 : cdT b T p = 1010
    · rw [if_pos c1] at h
      have pT : p < T := cd_T (b := b) (by omega)
      have n1 := nx_lt (b := b) pT
      obtain ⟨e1, q1, e2, h1, h2, rfl⟩ := th_i h
      obtain ⟨e3, h3, rfl⟩ := ap_i h2
      have hlo : (true :: (if o = true then true :: ts else ts)).length + r ≤ 32 := by
        by_cases co : o = true
        · rw [if_pos co]; show ts.length + 1 + 1 + r ≤ 32; omega
        · rw [if_neg co]; show ts.length + 1 + r ≤ 32; omega
      obtain ⟨a1, a2, a3, a4⟩ := hat (nx b T p) _ hlo _ _ h1
      obtain ⟨b1, b2, b3, b4⟩ := ih q1 o a2 _ _ h3
      refine ⟨by omega, b2, ?_, ?_⟩
      · rw [List.length_append, List.length_append]
        show e1.length + (1 + e3.length) + p ≤ _
        omega
      · rw [tyE_app a4, tyE_app (ty_join (Or.inl rfl)), b4]
    · rw [if_neg c1] at h
      obtain ⟨e1, h1, rfl⟩ := ap_i h
      have pre : tyE (if o = true then [(15, 0)] else []) (true :: (if o = true then true :: ts else ts)) = some (true :: ts) := by
        by_cases co : o = true
        · rw [if_pos co, if_pos co]; exact ty_join (Or.inr rfl)
        · rw [if_neg co, if_neg co]; rfl
      have pl : (if o = true then [((15 : Nat), (0 : Nat))] else []).length = (if o = true then 1 else 0) := by
        by_cases co : o = true
        · rw [if_pos co, if_pos co]; rfl
        · rw [if_neg co, if_neg co]; rfl
      by_cases c2 : cdT b T p = 1011
      · rw [if_pos c2] at h1
        have pT : p < T := cd_T (b := b) (by omega)
        have n1 := nx_lt (b := b) pT
        obtain ⟨e2, q2, e3, h2, h3, rfl⟩ := th_i h1
        obtain ⟨a1, a2, a3, a4⟩ := hat (nx b T p) (true :: ts) (by show ts.length + 1 + r ≤ 32; omega) _ _ h2
        obtain ⟨b1, b2, b3, b4⟩ := ih q2 true a2 _ _ h3
        rw [if_pos rfl] at b3 b4
        refine ⟨by omega, b2, ?_, ?_⟩
        · rw [List.length_append, List.length_append, pl]
          omega
        · rw [tyE_app pre, tyE_app a4, b4]
      · rw [if_neg c2] at h1
        cases h1
        refine ⟨Nat.le_refl _, hp, ?_, ?_⟩
        · rw [List.append_nil, pl]; omega
        · rw [List.append_nil]; exact pre
theorem co_ok (hat : ∀ p ts, ts.length + r ≤ 32 → OKP T p ts (true :: ts) (at' p)) (hl : ts.length + r + 2 ≤ 32) : OKP T p ts (true :: ts) (coP b T at' p) := by
  intro e q h
  obtain ⟨e1, q1, e2, h1, h2, rfl⟩ := th_i h
  obtain ⟨a1, a2, a3, a4⟩ := hat p ts (by omega) _ _ h1
  obtain ⟨b1, b2, b3, b4⟩ := kc_ok hat hl 401 q1 false a2 _ _ h2
  rw [if_neg (by decide)] at b3 b4
  refine ⟨by omega, b2, ?_, ?_⟩
  · rw [List.length_append]; omega
  · rw [tyE_app a4, b4]
theorem at_ok : ∀ (r p : Nat) (ts : List Bool), ts.length + (3 + 2 * r) ≤ 32 → OKP T p ts (true :: ts) (atP b T r p) := by
  intro r
  induction r with
  | zero =>
    intro p ts hl e q h
    unfold atP at h
    by_cases c1 : 1005 ≤ cdT b T p ∧ cdT b T p ≤ 1008
    · rw [if_pos c1] at h
      have n1 := nx_lt (b := b) (cd_T (b := b) (T := T) (p := p) (by omega))
      cases h
      exact ⟨n1.1, n1.2, by show 1 + p ≤ _; omega, ty_tag c1.1 c1.2 (by omega)⟩
    · rw [if_neg c1] at h
      by_cases c2 : cdT b T p = 2040
      · rw [if_pos c2] at h; cases h
      · rw [if_neg c2] at h
        by_cases c3 : cdT b T p = 1009
        · rw [if_pos c3] at h; cases h
        · rw [if_neg c3] at h
          exact cm_ok (by omega) e q h
  | succ r ih =>
    intro p ts hl e q h
    unfold atP at h
    by_cases c1 : 1005 ≤ cdT b T p ∧ cdT b T p ≤ 1008
    · rw [if_pos c1] at h
      have n1 := nx_lt (b := b) (cd_T (b := b) (T := T) (p := p) (by omega))
      cases h
      exact ⟨n1.1, n1.2, by show 1 + p ≤ _; omega, ty_tag c1.1 c1.2 (by omega)⟩
    · rw [if_neg c1] at h
      by_cases c2 : cdT b T p = 2040
      · have n1 := nx_lt (b := b) (cd_T (b := b) (T := T) (p := p) (by omega))
        rw [if_pos c2] at h
        obtain ⟨e1, q1, e2, h1, h2, rfl⟩ := th_i h
        obtain ⟨a1, a2, a3, a4⟩ := co_ok (r := 3 + 2 * r) (fun p ts hl => ih p ts hl) (by omega) _ _ h1
        by_cases c4 : cdT b T q1 = 2041
        · have n2 := nx_lt (b := b) (cd_T (b := b) (T := T) (p := q1) (by omega))
          rw [if_pos c4] at h2
          cases h2
          rw [List.append_nil]
          exact ⟨by omega, n2.2, by omega, a4⟩
        · rw [if_neg c4] at h2; cases h2
      · rw [if_neg c2] at h
        by_cases c3 : cdT b T p = 1009
        · have n1 := nx_lt (b := b) (cd_T (b := b) (T := T) (p := p) (by omega))
          rw [if_pos c3] at h
          obtain ⟨e1, q1, e2, h1, h2, rfl⟩ := th_i h
          obtain ⟨a1, a2, a3, a4⟩ := ih _ ts (by omega) _ _ h1
          cases h2
          refine ⟨by omega, a2, ?_, ?_⟩
          · rw [List.length_append]; show e1.length + 1 + p ≤ _; omega
          · rw [tyE_app a4, ty_not]
        · rw [if_neg c3] at h
          exact cm_ok (by omega) e q h
end U55
