/-! ===== what the calls have in common ===== -/
section U21
variable {h h1 : Hp} {g g' g1 g2 : Nat → Nat → Int32} {w w' : Nat → Int32} {A B L S c d k n l y j m q s i F r z E N M M' : Nat} {v x a b : Int32} {f p : Nat → Nat} {fl fm fw : Hp → Option (Int32 × Hp)}
/-- no number of n -/
def BAD (x : Int32) (n : Nat) : Prop := x < 0 ∨ nI n ≤ x
theorem bad_or (x : Int32) (hn : n < 2 ^ 31) : BAD x n ∨ ∃ j, j < n ∧ x = nI j := by
  rcases pk_ix x hn with z | z | z
  · exact Or.inl (Or.inl z)
  · exact Or.inl (Or.inr z)
  · exact Or.inr z
/-- what the reference works on by itself -/
def REF (g g' : Nat → Nat → Int32) : Prop := (∀ r, r ≠ 755 → r ≠ 758 → r ≠ 759 → r ≠ 762 → r ≠ 763 → r ≠ 764 → g' r = g r) ∧ ∀ j, j = 6 ∨ j = 7 ∨ j = 9 ∨ j = 14 → g' 755 j = g 755 j
theorem REF.rf : REF g g := ⟨fun _ _ _ _ _ _ _ => rfl, fun _ _ => rfl⟩
theorem REF.tr (x : REF g g1) (y : REF g1 g') : REF g g' := ⟨fun r h1 h2 h3 h4 h5 h6 => (y.1 r h1 h2 h3 h4 h5 h6).trans (x.1 r h1 h2 h3 h4 h5 h6), fun j hj => (y.2 j hj).trans (x.2 j hj)⟩
theorem REF.th (hj : ¬ (j = 6 ∨ j = 7 ∨ j = 9 ∨ j = 14)) : REF g (up2 g 755 j v) := ⟨fun r h1 _ _ _ _ _ => up_row h1, fun i hi => up_k fun z => hj (by rw [← z]; exact hi)⟩
theorem REF.f3 (x : F3 g g') : REF g g' := ⟨fun r _ _ _ _ h5 _ => x r h5, fun j _ => by rw [x 755 (by decide)]⟩
theorem INV.ref (I : INV M h g) (x : REF g g') : INV M h g' := by
  obtain ⟨t, H, R⟩ := I
  obtain ⟨x1, x2⟩ := x
  have z : FZ h g g' := fun r hr _ => x1 r (by omega) (by omega) (by omega) (by omega) (by omega) (by omega)
  have T := R.2.2.1
  obtain ⟨T1, t1, t2, -⟩ := T
  refine ⟨t, ?_, R.fr (Nat.le_refl _) (fun r hr => by unfold KPT at hr; exact x1 r (by omega) (by omega) (by omega) (by omega) (by omega) (by omega)) (by rw [x1 1 (by decide) (by decide) (by decide) (by decide) (by decide) (by decide)]) ?_ (x2 6 (by decide)) (x2 7 (by decide)) ?_ (Or.inl (by rw [x1 2 (by decide) (by decide) (by decide) (by decide) (by decide) (by decide)])) z⟩
  · rw [x1 756 (by decide) (by decide) (by decide) (by decide) (by decide) (by decide)]
    exact H.fz z fun r _ _ _ => x1 r (by omega) (by omega) (by omega) (by omega) (by omega) (by omega)
  · rw [x1 1 (by decide) (by decide) (by decide) (by decide) (by decide) (by decide), x2 14 (by decide)]
    exact R.2.2.2.1
  · rw [x2 9 (by decide), x1 2 (by decide) (by decide) (by decide) (by decide) (by decide) (by decide), t1, t2]
/-- the class looked at a place, no more -/
theorem INV.fp (I : INV M h g) (x : FP h 569 g g') : INV M h g' := by
  obtain ⟨t, H, R⟩ := I
  have z : FZ h g g' := x.fh.fz H.2.2 (by decide)
  have X : ∀ r, r ≤ 765 → r ≠ 574 → g' r = g r := fun r hr hn => x r hn fun q => by omega
  obtain ⟨T1, t1, t2, -⟩ := R.2.2.1
  refine ⟨t, ?_, R.fr (Nat.le_refl _) (fun r hr => by unfold KPT at hr; exact X r (by omega) (by omega)) (by rw [X 1 (by decide) (by decide)]) ?_ (by rw [X 755 (by decide) (by decide)]) (by rw [X 755 (by decide) (by decide)]) ?_ (Or.inl (by rw [X 2 (by decide) (by decide)])) z⟩
  · rw [X 756 (by decide) (by decide)]
    exact H.fz z fun r _ _ h3 => X r (by omega) h3
  · rw [X 1 (by decide) (by decide), X 755 (by decide) (by decide)]
    exact R.2.2.2.1
  · rw [X 755 (by decide) (by decide), X 2 (by decide) (by decide), t1, t2]
/-- the present has gone from one world to another, alike -/
theorem INV.go (I : INV M h g) (hM : M ≤ M') (W : WF M' w) (R : RLa g1 569 w) (Lr : LR h g1 569 w) (x : FH h 569 g g1) (e : g2 756 = w) (y : ∀ r, r ≠ 755 → r ≠ 756 → r ≠ 758 → r ≠ 759 → r ≠ 762 → r ≠ 763 → r ≠ 764 → g2 r = g1 r) (yj : ∀ j, j = 6 ∨ j = 7 ∨ j = 9 ∨ j = 14 → g2 755 j = g1 755 j) : INV M' h g2 := by
  obtain ⟨t, H, Q⟩ := I
  have z1 : FZ h g g1 := x.fz H.2.2 (by decide)
  have z2 : FZ h g1 g2 := fun r hr _ => y r (by omega) (by omega) (by omega) (by omega) (by omega) (by omega) (by omega)
  have X : ∀ r, r ≤ 765 → (r < 569 ∨ 614 < r) → g1 r = g r := fun r hr hn => x r hn fun q => by omega
  have Y : ∀ r, (r < 755 ∨ r = 757 ∨ r = 760 ∨ r = 761) → g2 r = g1 r := fun r hr => y r (by omega) (by omega) (by omega) (by omega) (by omega) (by omega) (by omega)
  obtain ⟨T1, t1, t2, -⟩ := Q.2.2.1
  refine ⟨t, ?_, Q.fr hM (fun r hr => by unfold KPT at hr; rw [Y r (by omega), X r (by omega) (by omega)]) ?_ ?_ ?_ ?_ ?_ (Or.inl ?_) (z1.tr z2)⟩
  · rw [e]
    exact ⟨W, R.ex W.2.1 fun r _ _ _ => Y r (by omega), Lr.fz z2⟩
  · rw [Y 1 (by omega), X 1 (by omega) (by omega)]
  · rw [Y 1 (by omega), X 1 (by omega) (by omega), yj 14 (by decide), X 755 (by omega) (by omega)]
    exact Q.2.2.2.1
  · rw [yj 6 (by decide), X 755 (by omega) (by omega)]
  · rw [yj 7 (by decide), X 755 (by omega) (by omega)]
  · rw [yj 9 (by decide), X 755 (by omega) (by omega), Y 2 (by omega), X 2 (by omega) (by omega), t1, t2]
  · rw [Y 2 (by omega), X 2 (by omega) (by omega)]
/-- an answer -/
theorem cl_l (el : fl (uI h g) = some (0, sJ (uI h1 g1) 765 0 (Int32.toInt64 v))) (t1 : TS h1) (em : ∀ h', TS h' → ∃ g2, fm (uI h' g1) = some (v, uI h' g2) ∧ g2 755 0 = 0 ∧ INV (M + 60) h1 g2) (n : hN h1 ≤ hN h + 1170) (z : hZ h1 ≤ hZ h + 14000) :
    ∃ k H1 b H2, fl (uI h g) = some (k, H1) ∧ TS H1 ∧ fm H1 = some (b, H2) ∧ hI H2 755 0 = k ∧ (k = 0 → hJ H2 765 0 = Int32.toInt64 b) ∧ INV (M + 60) H2 (hI H2) ∧ hN H2 ≤ hN (uI h g) + 1170 ∧ hZ H2 ≤ hZ (uI h g) + 14000 := by
  obtain ⟨g2, e1, e2, e3⟩ := em (sJ h1 765 0 (Int32.toInt64 v)) t1
  have q : hJ (uI (sJ h1 765 0 (Int32.toInt64 v)) g2) 765 0 = Int32.toInt64 v := by
    show up2 (hJ h1) 765 0 (Int32.toInt64 v) 765 0 = _
    unfold up2
    rw [if_pos ⟨rfl, rfl⟩]
  exact ⟨0, _, v, _, el, t1, e1, e2, fun _ => q, e3, n, z⟩
/-- a throw, with nothing changed -/
theorem cl_r {c : Int32} (I : INV M h g) (el : fl (uI h g) = some (c, hA (uI h g) 0 0 6)) (hc : ¬ c = 0) (em : ∀ h' g', TS h' → (∀ r, r ≤ 765 → g' r = g r) → ∃ b g2, fm (uI h' g') = some (b, uI h' g2) ∧ g2 755 0 = c ∧ REF g' g2) :
    ∃ k H1 b H2, fl (uI h g) = some (k, H1) ∧ TS H1 ∧ fm H1 = some (b, H2) ∧ hI H2 755 0 = k ∧ (k = 0 → hJ H2 765 0 = Int32.toInt64 b) ∧ INV (M + 60) H2 (hI H2) ∧ hN H2 ≤ hN (uI h g) + 1170 ∧ hZ H2 ≤ hZ (uI h g) + 14000 := by
  have I1 := I.grow (z1 := 0) (z2 := 0) (z3 := 6)
  have n := I.1.1
  obtain ⟨b, g2, e1, e2, e3⟩ := em (hA h 0 0 6) (rs2 g (hN h + 1) fun _ => 0) I1.1 (fun r hr => rs_ne (by omega))
  refine ⟨c, _, b, _, el, I1.1, e1, e2, fun q => absurd q hc, (I1.ref e3).mono (by omega), ?_, ?_⟩
  · show hN h + 1 ≤ hN h + 1170; omega
  · show hZ h + 6 ≤ hZ h + 14000; omega
theorem WTR (t : TS h) : (hS (uI h g) 1 = 10 ∧ hR (uI h g) 1 0 = 2 ∧ hR (uI h g) 1 1 = 6 ∧ hR (uI h g) 1 2 = 11 ∧ hR (uI h g) 1 3 = 15 ∧ hR (uI h g) 1 4 = 569 ∧ hR (uI h g) 1 5 = 615 ∧ hR (uI h g) 1 6 = 661 ∧ hR (uI h g) 1 7 = 707 ∧ hR (uI h g) 1 8 = 753 ∧ hR (uI h g) 1 9 = 754) ∧ hS (uI h g) 569 = 4 ∧ hS (uI h g) 755 = 11 :=
  ⟨⟨t.2.1.1, t.2.1.2.1⟩, (t.ld (c := 12) (by decide)).1, t.td.1.1⟩
theorem TS.l9 (t : TS h) : LDs h 569 := t.ld (c := 12) (by decide)
theorem C_needC (t : TS h) (e : g 569 0 = nI n) (hn : n < 2 ^ 31) : (BAD x n → f_Water_needCistern (uI h g) 1 x = some (.inr 1, hA (uI h g) 0 0 6)) ∧ (∀ j, j < n → f_Water_needCistern (uI h g) 1 (nI j) = some (.inl (), uI h g)) := by
  obtain ⟨⟨w1, -, -, -, -, w5, -⟩, w6, -⟩ := WTR (g := g) t
  refine ⟨fun b => ?_, fun j hj => ?_⟩
  · unfold f_Water_needCistern f_Water_needCistern_b0 f_Water_needCistern_b15
    by_cases q : x < 0
    · rw [if_pos q]
    · rw [if_neg q, if_pos w1, w5, if_pos w6, hI_u, e, if_neg (fun z => Int32.lt_irrefl (Int32.lt_of_lt_of_le z (b.resolve_left q)))]
  · unfold f_Water_needCistern f_Water_needCistern_b0
    rw [if_neg (nI_pos (by omega)), if_pos w1, w5, if_pos w6, hI_u, e, if_pos (nI_lt hj hn)]
theorem C_needH (t : TS h) (e : g 569 1 = nI n) (hn : n < 2 ^ 31) : (BAD x n → f_Water_needHouse (uI h g) 1 x = some (.inr 1, hA (uI h g) 0 0 6)) ∧ (∀ j, j < n → f_Water_needHouse (uI h g) 1 (nI j) = some (.inl (), uI h g)) := by
  obtain ⟨⟨w1, -, -, -, -, w5, -⟩, w6, -⟩ := WTR (g := g) t
  refine ⟨fun b => ?_, fun j hj => ?_⟩
  · unfold f_Water_needHouse f_Water_needHouse_b0 f_Water_needHouse_b15
    by_cases q : x < 0
    · rw [if_pos q]
    · rw [if_neg q, if_pos w1, w5, if_pos w6, hI_u, e, if_neg (fun z => Int32.lt_irrefl (Int32.lt_of_lt_of_le z (b.resolve_left q)))]
  · unfold f_Water_needHouse f_Water_needHouse_b0
    rw [if_neg (nI_pos (by omega)), if_pos w1, w5, if_pos w6, hI_u, e, if_pos (nI_lt hj hn)]
theorem C_needD (t : TS h) (e : g 569 2 = nI n) (hn : n < 2 ^ 31) : (BAD x n → f_Water_needDebt (uI h g) 1 x = some (.inr 1, hA (uI h g) 0 0 6)) ∧ (∀ j, j < n → f_Water_needDebt (uI h g) 1 (nI j) = some (.inl (), uI h g)) := by
  obtain ⟨⟨w1, -, -, -, -, w5, -⟩, w6, -⟩ := WTR (g := g) t
  refine ⟨fun b => ?_, fun j hj => ?_⟩
  · unfold f_Water_needDebt f_Water_needDebt_b0 f_Water_needDebt_b15
    by_cases q : x < 0
    · rw [if_pos q]
    · rw [if_neg q, if_pos w1, w5, if_pos w6, hI_u, e, if_neg (fun z => Int32.lt_irrefl (Int32.lt_of_lt_of_le z (b.resolve_left q)))]
  · unfold f_Water_needDebt f_Water_needDebt_b0
    rw [if_neg (nI_pos (by omega)), if_pos w1, w5, if_pos w6, hI_u, e, if_pos (nI_lt hj hn)]
theorem C_needY : (BAD x 30 → f_Water_needYear (uI h g) 1 x = some (.inr 1, hA (uI h g) 0 0 6)) ∧ (∀ j, j < 30 → f_Water_needYear (uI h g) 1 (nI j) = some (.inl (), uI h g)) := by
  refine ⟨fun b => ?_, fun j hj => ?_⟩
  · unfold f_Water_needYear f_Water_needYear_b0 f_Water_needYear_b10
    by_cases q : x < 0
    · rw [if_pos q]
    · rw [if_neg q, n30, if_neg (fun z => Int32.lt_irrefl (Int32.lt_of_lt_of_le z (b.resolve_left q)))]
  · unfold f_Water_needYear f_Water_needYear_b0
    rw [if_neg (nI_pos (by omega)), n30, if_pos (nI_lt hj (by decide))]
/-! .. and the reference -/
theorem no_b (hn : n < 2 ^ 30) (b : BAD x n) : (if x < 0 then (1 : Int32) else if nI n - 1 < x then 1 else 0) = 1 := by
  by_cases q : x < 0
  · rw [if_pos q]
  · rw [if_neg q, if_pos]
    have b' := b.resolve_left q
    cases n with
    | zero => exact Int32.lt_of_lt_of_le (by decide) b'
    | succ n => rw [nI_pred]; exact Int32.lt_of_lt_of_le (nI_lt (by omega) (by omega)) b'
theorem no_g (hn : n < 2 ^ 30) (hj : j < n) : (if nI j < 0 then (1 : Int32) else if nI n - 1 < nI j then 1 else 0) = 0 := by
  obtain ⟨m, rfl⟩ : ∃ m, n = m + 1 := ⟨n - 1, by omega⟩
  rw [if_neg (nI_pos (by omega)), nI_pred, if_neg (nI_nlt (by omega) (by omega))]
theorem N_noC (t : TSr h) (e : g 756 0 = nI n) (hn : n < 2 ^ 30) : (BAD x n → f_Model_noCistern (uI h g) 755 x = some (1, uI h g)) ∧ (∀ j, j < n → f_Model_noCistern (uI h g) 755 (nI j) = some (0, uI h g)) := by
  have q : ∀ x, f_Model_noCistern (uI h g) 755 x = some (if x < 0 then 1 else if g 756 0 - 1 < x then 1 else 0, uI h g) := fun x => M_noCistern (t.iu (g := g))
  exact ⟨fun b => by rw [q, e, no_b hn b], fun j hj => by rw [q, e, no_g hn hj]⟩
theorem N_noH (t : TSr h) (e : g 756 1 = nI n) (hn : n < 2 ^ 30) : (BAD x n → f_Model_noHouse (uI h g) 755 x = some (1, uI h g)) ∧ (∀ j, j < n → f_Model_noHouse (uI h g) 755 (nI j) = some (0, uI h g)) := by
  have q : ∀ x, f_Model_noHouse (uI h g) 755 x = some (if x < 0 then 1 else if g 756 1 - 1 < x then 1 else 0, uI h g) := fun x => M_noHouse (t.iu (g := g))
  exact ⟨fun b => by rw [q, e, no_b hn b], fun j hj => by rw [q, e, no_g hn hj]⟩
theorem N_noD (t : TSr h) (e : g 756 10 = nI n) (hn : n < 2 ^ 30) : (BAD x n → f_Model_noDebt (uI h g) 755 x = some (1, uI h g)) ∧ (∀ j, j < n → f_Model_noDebt (uI h g) 755 (nI j) = some (0, uI h g)) := by
  have q : ∀ x, f_Model_noDebt (uI h g) 755 x = some (if x < 0 then 1 else if g 756 10 - 1 < x then 1 else 0, uI h g) := fun x => M_noDebt (t.iu (g := g))
  exact ⟨fun b => by rw [q, e, no_b hn b], fun j hj => by rw [q, e, no_g hn hj]⟩
theorem N_noY : (BAD x 30 → f_Model_noYear (uI h g) x = some (1, uI h g)) ∧ (∀ j, j < 30 → f_Model_noYear (uI h g) (nI j) = some (0, uI h g)) := by
  have q : ∀ x, f_Model_noYear (uI h g) x = some (if x < 0 then 1 else if nI 30 - 1 < x then 1 else 0, uI h g) := fun x => M_noYear
  exact ⟨fun b => by rw [q, no_b (by decide) b], fun j hj => by rw [q, no_g (by decide) hj]⟩
theorem N_in : f_Model_in (uI h g) x a b = some (if x < a then 0 else if b < x then 0 else 1, uI h g) := M_in
theorem N_thr0 (t : TSr h) : f_Model_throwsIf (uI h g) 755 0 v = some (0, uI h g) := by
  have := M_throwsIf (v := v) (t.iu (g := g)) (Or.inl rfl)
  rw [if_pos rfl] at this
  exact this
theorem N_thr1 (t : TSr h) : f_Model_throwsIf (uI h g) 755 1 v = some (1, uI h (up2 g 755 0 v)) := by
  have := M_throwsIf (v := v) (t.iu (g := g)) (Or.inr rfl)
  rw [if_neg (by decide)] at this
  exact this
theorem bX_l {α β : Type} {u : α} {H : Hp} {f : α → Hp → Option ((β ⊕ Nat) × Hp)} : bX (some (.inl u, H)) f = f u H := rfl
theorem bX_r {α β : Type} {e : Nat} {H : Hp} {f : α → Hp → Option ((β ⊕ Nat) × Hp)} : bX (some (.inr e, H)) f = some (.inr e, H) := rfl
end U21
