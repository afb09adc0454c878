/-! ===== the law of the class: the same places ===== -/
section U10
variable {h : Hp} {g g' g1 : Nat → Nat → Int32} {w w' : Nat → Int32} {A L S c d k n l y j m q s i F r z E : Nat} {v x a b : Int32} {f p : Nat → Nat} {st st' r' : List Int32} {ts ts' tf : List Bool}
/-- a step as the class writes it -/
def encS (s x : Int32) : Int32 := if s = 9 then x else if s = 10 then 2043 else if s = 11 then 2060 else if s = 12 then 2062 else if s = 13 then 1009 else if s = 14 then 1010 else if s = 15 then 1011 else 1000 + s
/-- a Law at L, all it has behind it: structure -/
def LWs (h : Hp) (L S : Nat) : Prop := hS h L = 6 ∧ (hR h L 1 = L + 1 ∧ hR h L 2 = L + 2 ∧ hR h L 3 = L + 3 ∧ hR h L 4 = L + 4 ∧ hR h L 5 = L + 5) ∧ AS h (L + 1) 20 12 ∧ AS h (L + 2) 20 12 ∧ AS h (L + 3) 20 S ∧ AS h (L + 4) 20 9 ∧ AS h (L + 5) 20 32
/-- it holds the law of a world -/
def LWg (g : Nat → Nat → Int32) (L S : Nat) (w : Nat → Int32) : Prop := g L 0 = w 617 ∧ (g L 6 = 0 ∨ g L 6 = 1) ∧ (∀ n, n < lwN w → g (L + 1) n = w (618 + 3 * n) ∧ g (L + 2) n = w (620 + 3 * n) ∧ lwE w n ≤ S) ∧ (∀ i, i < S → g (L + 3) i = encS (w (654 + 2 * i)) (w (655 + 2 * i))) ∧ (g L 6 = 0 → ∀ i, i < S → ¬ w (654 + 2 * i) = 4) ∧ S ≤ 400
theorem LWs.iu (t : LWs h L S) : LWs (uI h g) L S := t
/-- the fact k -/
def fcK (w : Nat → Int32) (c y k : Nat) : Int32 := fcW w c y (nI k) 0
theorem fcK_e (hk : k < 9) : fcW w c y (nI k) x = fcK w c y k := by
  have : k = 0 ∨ k = 1 ∨ k = 2 ∨ k = 3 ∨ k = 4 ∨ k = 5 ∨ k = 6 ∨ k = 7 ∨ k = 8 := by omega
  rcases this with rfl | rfl | rfl | rfl | rfl | rfl | rfl | rfl | rfl <;> rfl
theorem encS_k (hk : k < 9) : encS (nI k) x = nI (1000 + k) := by
  have : k = 0 ∨ k = 1 ∨ k = 2 ∨ k = 3 ∨ k = 4 ∨ k = 5 ∨ k = 6 ∨ k = 7 ∨ k = 8 := by omega
  rcases this with rfl | rfl | rfl | rfl | rfl | rfl | rfl | rfl | rfl <;> rfl
theorem and_01 (ha : a = 0 ∨ a = 1) (hb : b = 0 ∨ b = 1) : a &&& b = (if a + b = 2 then 1 else 0) := by
  rcases ha with rfl | rfl <;> rcases hb with rfl | rfl <;> decide
theorem or_01 (ha : a = 0 ∨ a = 1) (hb : b = 0 ∨ b = 1) : a ||| b = (if a + b ≤ 0 then 0 else 1) := by
  rcases ha with rfl | rfl <;> rcases hb with rfl | rfl <;> decide
theorem C_holds_262 (hs : hS h (L + 5) = 20) (hl : hL h (L + 5) = 32) (hk : k < 32) {k5 : Hp → Nat → Int32 → Int32 → Int32 → Option (Int32 × Hp)} {x2 x3 : Int32} : f_Law_holds_b262 k5 (uI h g) L x2 x3 (nI i) (L + 5) (nI k) v = k5 (uI h (up2 g (L + 5) k v)) L x2 x3 (nI (i + 1)) := by
  have hs' : hS (uI h g) (L + 5) = 20 := hs
  have hl' : hL (uI h g) (L + 5) = 32 := hl
  unfold f_Law_holds_b262
  rw [if_pos hs', hl', if_pos (ib_n hk (by decide)), ix_n (by omega), wr_s]
  unfold f_Law_holds_b295
  rw [nI_1]
  rfl
theorem C_holds_239 (hs : hS h (L + 5) = 20) (hl : hL h (L + 5) = 32) (hk : k < 32) {k5 : Hp → Nat → Int32 → Int32 → Int32 → Option (Int32 × Hp)} {x2 x3 : Int32} : f_Law_holds_b239 k5 (uI h g) L x2 x3 (nI i) (L + 5) (nI k) v = k5 (uI h (up2 g (L + 5) k v)) L x2 x3 (nI (i + 1)) := C_holds_262 hs hl hk
theorem C_holds_92 (hs : hS h (L + 5) = 20) (hl : hL h (L + 5) = 32) (hk : k < 32) {k5 : Hp → Nat → Int32 → Int32 → Int32 → Option (Int32 × Hp)} {x2 : Int32} : f_Law_holds_b92 k5 (uI h g) L x2 (nI k) (nI i) (L + 5) (nI k) v = k5 (uI h (up2 g (L + 5) k v)) L x2 (nI (k + 1)) (nI (i + 1)) := by
  have hs' : hS (uI h g) (L + 5) = 20 := hs
  have hl' : hL (uI h g) (L + 5) = 32 := hl
  unfold f_Law_holds_b92
  rw [if_pos hs', hl', if_pos (ib_n hk (by decide)), ix_n (by omega), wr_s]
  unfold f_Law_holds_b295
  rw [nI_1, nI_1]
  rfl
theorem C_holds_301 (t : LWs h L S) (tv : TV tf st) (hf : tf = [] ∨ tf = [true]) (sr : StR (g (L + 5)) st) : f_Law_holds_b301 (uI h g) L (nI st.length) = some (rsW st, uI h g) := by
  obtain ⟨s, ⟨-, -, -, -, r5⟩, -, -, -, -, ⟨a1, a2⟩⟩ := t.iu (g := g)
  unfold f_Law_holds_b301
  rcases hf with rfl | rfl
  · cases st with
    | nil => rw [if_pos (by rfl)]; rfl
    | cons a r => exact absurd tv id
  · obtain ⟨a, r, rfl, h1, h2⟩ := tv.c1
    cases r with
    | cons b r => exact absurd h2 id
    | nil =>
      rw [if_neg (show ¬ nI [a].length = 0 from nI_ne0 (n := 1) (by decide) (by decide)), if_pos s, r5, if_pos a1, a2, show (0 : Int32) = nI 0 from rfl, if_pos (ib_n (by decide) (by decide)), ix_n (by decide)]
      have e2 : g (L + 5) 0 = a := sr.1
      rw [hI_u, e2]
      rcases h1 rfl with rfl | rfl
      · rfl
      · rfl
theorem C_hold_L (t : LWs h L S) (hS4 : S ≤ 400) (hk : w (67 + 35 * c) = 0 ∨ w (67 + 35 * c) = 1) (hE : E ≤ S) (hf : tf = [] ∨ tf = [true]) : ∀ (m i : Nat) (g : Nat → Nat → Int32) (ts : List Bool) (st : List Int32), (∀ i, i < S → g (L + 3) i = encS (w (654 + 2 * i)) (w (655 + 2 * i))) → (∀ k, k < 9 → g (L + 4) k = fcK w c y k) → i + m = E → tyR w m i ts = some tf → ts.length ≤ 32 → TV ts st → StR (g (L + 5)) st → ∀ q,
    ∃ g' sf, evR w c y m i st = some sf ∧ f_Law_holds_L5 (q + m + 1) (uI h g) L (nI E) (nI st.length) (nI i) = some (rsW sf, uI h g') ∧ ∀ r, r ≠ L + 5 → g' r = g r := by
  intro m
  induction m with
  | zero =>
    intro i g ts st h3 h4 hi ht hl tv sr q
    cases ht
    have EE : f_Law_holds_L5 (q + 0 + 1) (uI h g) L (nI E) (nI st.length) (nI i) = f_Law_holds_b5 (f_Law_holds_L5 q) (uI h g) L (nI E) (nI st.length) (nI i) := rfl
    refine ⟨g, st, rfl, ?_, fun _ _ => rfl⟩
    rw [EE]
    unfold f_Law_holds_b5
    rw [if_neg (nI_pos (by omega)), if_pos (nI_le (by omega) (by omega))]
    exact C_holds_301 t tv hf sr
  | succ m ih =>
    intro i g ts st h3 h4 hi ht hl tv sr q
    obtain ⟨s, ⟨-, -, r3, r4, r5⟩, -, -, ⟨p1, p2⟩, ⟨b1, b2⟩, ⟨a1, a2⟩⟩ := t.iu (g := g)
    have A1 : hS h (L + 5) = 20 := a1
    have A2 : hL h (L + 5) = 32 := a2
    unfold tyR at ht
    cases qq : tyS (w (654 + 2 * i)) (w (655 + 2 * i)) ts with
    | none => rw [qq] at ht; cases ht
    | some t1 =>
      rw [qq] at ht
      obtain ⟨s1, e1, tv1⟩ := ev_ty (w := w) (c := c) (y := y) qq tv hk
      have hl1 := tyS_len qq hl
      have tl := tv.len
      have hc3 := h3 i (by omega)
      have fin : ∀ k v, StR (up2 g (L + 5) k v (L + 5)) s1 → ∃ g' sf, evR w c y (m + 1) i st = some sf ∧ f_Law_holds_L5 (q + m + 1) (uI h (up2 g (L + 5) k v)) L (nI E) (nI s1.length) (nI (i + 1)) = some (rsW sf, uI h g') ∧ ∀ r, r ≠ L + 5 → g' r = g r := by
        intro k v h2
        obtain ⟨g', sf, p1, p2, p3⟩ := ih (i + 1) (up2 g (L + 5) k v) t1 s1 (fun i hi => by rw [up_r (by omega)]; exact h3 i hi) (fun k hk => by rw [up_r (by omega)]; exact h4 k hk) (by omega) ht hl1 tv1 h2 q
        refine ⟨g', sf, ?_, p2, fun r hr => (p3 r hr).trans (up_row hr)⟩
        unfold evR
        rw [e1]
        exact p1
      have EE : f_Law_holds_L5 (q + (m + 1) + 1) (uI h g) L (nI E) (nI st.length) (nI i) = f_Law_holds_b5 (f_Law_holds_L5 (q + m + 1)) (uI h g) L (nI E) (nI st.length) (nI i) := rfl
      have pS : hL (uI h g) (L + 3) = S := p2
      rw [EE]
      unfold f_Law_holds_b5
      rw [if_neg (nI_pos (by omega)), if_neg (nI_ge (by omega) (by omega)), if_pos s, r3, if_pos p1, pS, show Int32.ofNat S = nI S from rfl, if_neg (nI_ge (by omega) (by omega)), if_pos (ib_n (by omega) (by omega)), ix_n (by omega), hI_u, hc3]
      rcases tyS_in qq with ⟨h1, h5, h6⟩ | ⟨h1, h2, r', rfl, rfl⟩ | ⟨h1, h2, h6⟩
      · have e2 : evS (w (654 + 2 * i)) (fcW w c y (w (654 + 2 * i)) (w (655 + 2 * i))) st = some (fcW w c y (w (654 + 2 * i)) (w (655 + 2 * i)) :: st) := if_neg h1
        rw [e2] at e1
        cases e1
        have FF : ∀ v, v = fcW w c y (w (654 + 2 * i)) (w (655 + 2 * i)) → ∃ g' sf, evR w c y (m + 1) i st = some sf ∧ f_Law_holds_L5 (q + m + 1) (uI h (up2 g (L + 5) st.length v)) L (nI E) (nI (st.length + 1)) (nI (i + 1)) = some (rsW sf, uI h g') ∧ ∀ r, r ≠ L + 5 → g' r = g r := by
          rintro _ rfl
          refine fin st.length _ ?_
          rw [up2_row]
          exact ⟨up1_eq, sr.up (Nat.le_refl _)⟩
        have c9 : ∀ k, k < 9 → w (654 + 2 * i) = nI k → ∃ g' sf, evR w c y (m + 1) i st = some sf ∧ f_Law_holds_b5 (f_Law_holds_L5 (q + m + 1)) (uI h g) L (nI E) (nI st.length) (nI i) = some (rsW sf, uI h g') ∧ ∀ r, r ≠ L + 5 → g' r = g r := by
          intro k hk e
          unfold f_Law_holds_b5
          rw [if_neg (nI_pos (by omega)), if_neg (nI_ge (by omega) (by omega)), if_pos s, r3, if_pos p1, pS, show Int32.ofNat S = nI S from rfl, if_neg (nI_ge (by omega) (by omega)), if_pos (ib_n (by omega) (by omega)), ix_n (by omega), hI_u, hc3,
            e, encS_k hk, show (1008 : Int32) = nI 1008 from rfl, if_neg (nI_nlt (by omega) (by omega)), r5, if_pos a1, a2, show Int32.ofNat 32 = nI 32 from rfl, if_neg (nI_ge (by omega) (by omega)), show (1000 : Int32) = nI 1000 from rfl, pk_sub (by omega), show 1000 + k - 1000 = k from by omega, if_neg (nI_pos (by omega)), r4, if_pos b1, b2, show Int32.ofNat 9 = nI 9 from rfl, if_neg (nI_ge (by omega) (by omega)), if_pos (ib_n hk (by omega)), ix_n (by omega), h4 k hk, C_holds_92 A1 A2 (by omega)]
          exact FF _ (by rw [e, fcK_e hk])
        rcases h6 with ⟨-, ⟨e9, x0, x9⟩ | ⟨v0, v4⟩⟩ | ⟨-, v5, v8⟩
        · obtain ⟨z, hz, ez⟩ := nI_of2 (x := w (655 + 2 * i)) (M := 999) (n := 999) rfl (fun z => Int32.lt_irrefl (Int32.lt_of_lt_of_le z x0)) x9
          have ec : encS (w (654 + 2 * i)) (w (655 + 2 * i)) = nI z := by unfold encS; rw [if_pos e9, ez]
          rw [ec, show (1008 : Int32) = nI 1008 from rfl, if_neg (nI_nlt (by omega) (by omega)), r5, if_pos a1, a2, show Int32.ofNat 32 = nI 32 from rfl, if_neg (nI_ge (by omega) (by omega)), show (1000 : Int32) = nI 1000 from rfl, if_pos (pk_sneg (by omega) (by omega))]
          unfold f_Law_holds_b90
          rw [C_holds_92 A1 A2 (by omega)]
          refine FF _ ?_
          rw [e9, ez]
          rfl
        · obtain ⟨k, hk, e⟩ := nI_of2 (x := w (654 + 2 * i)) (M := 4) (n := 4) rfl (fun z => Int32.lt_irrefl (Int32.lt_of_lt_of_le z v0)) v4
          have := c9 k (by omega) e
          unfold f_Law_holds_b5 at this
          rw [if_neg (nI_pos (by omega)), if_neg (nI_ge (by omega) (by omega)), if_pos s, r3, if_pos p1, pS, show Int32.ofNat S = nI S from rfl, if_neg (nI_ge (by omega) (by omega)), if_pos (ib_n (by omega) (by omega)), ix_n (by omega), hI_u, hc3] at this
          exact this
        · obtain ⟨k, hk, e⟩ := nI_of2 (x := w (654 + 2 * i)) (M := 8) (n := 8) rfl (fun z => Int32.lt_irrefl (Int32.lt_of_lt_of_le z (Int32.le_trans (by decide) v5))) v8
          have := c9 k (by omega) e
          unfold f_Law_holds_b5 at this
          rw [if_neg (nI_pos (by omega)), if_neg (nI_ge (by omega) (by omega)), if_pos s, r3, if_pos p1, pS, show Int32.ofNat S = nI S from rfl, if_neg (nI_ge (by omega) (by omega)), if_pos (ib_n (by omega) (by omega)), ix_n (by omega), hI_u, hc3] at this
          exact this
      · obtain ⟨a, r2, rfl, -, -⟩ := tv.c1
        have e2 : evS (w (654 + 2 * i)) (fcW w c y (w (654 + 2 * i)) (w (655 + 2 * i))) (a :: r2) = some ((1 - a) :: r2) := by
          unfold evS
          rw [if_pos h1, if_pos h2]
        rw [e2] at e1
        cases e1
        have LL : nI (a :: r2).length - 1 = nI r2.length := nI_pred _
        have L2 : r2.length < 32 := by have : (a :: r2).length = r2.length + 1 := rfl
                                       omega
        have ec : encS (w (654 + 2 * i)) (w (655 + 2 * i)) = 1009 := by rw [h2]; rfl
        rw [ec, if_pos (by decide), if_pos rfl, if_neg (show ¬ nI (a :: r2).length ≤ 0 from nI_nle (Nat.succ_pos _) (by omega)), r5, if_pos a1, a2, LL, if_pos (ib_n (by omega) (by decide)), if_pos (ib_n (by omega) (by decide)), ix_n (by omega), sr.1, wr_s]
        unfold f_Law_holds_b295
        rw [nI_1]
        refine fin r2.length (1 - a) ?_
        rw [up2_row]
        exact ⟨up1_eq, sr.2.up (Nat.le_refl _)⟩
      · have two : ∃ t u r', ts = t :: u :: r' := by
          rcases h6 with ⟨-, r', q1, -⟩ | ⟨-, r', q1, -⟩ | ⟨-, r', q1, -⟩
          · exact ⟨_, _, _, q1⟩
          · exact ⟨_, _, _, q1⟩
          · exact ⟨_, _, _, q1⟩
        obtain ⟨t9, u9, r9, rfl⟩ := two
        obtain ⟨b, a, r2, rfl, tb, ta, -⟩ := tv.c2
        have e2 : evS (w (654 + 2 * i)) (fcW w c y (w (654 + 2 * i)) (w (655 + 2 * i))) (b :: a :: r2) = some (opW (w (654 + 2 * i)) a b :: r2) := by
          unfold evS
          rw [if_pos h1, if_neg h2]
        rw [e2] at e1
        cases e1
        have LL : nI (b :: a :: r2).length + (-1) = nI (r2.length + 1) := pk_m1 _
        have L1 : nI (r2.length + 1) - 1 = nI r2.length := nI_pred _
        have L2 : r2.length < 31 := by have : (b :: a :: r2).length = r2.length + 2 := rfl
                                       omega
        have sb : g (L + 5) (r2.length + 1) = b := sr.1
        have sa : g (L + 5) r2.length = a := sr.2.1
        have FF : ∀ v, v = opW (w (654 + 2 * i)) a b → ∃ g' sf, evR w c y (m + 1) i (b :: a :: r2) = some sf ∧ f_Law_holds_L5 (q + m + 1) (uI h (up2 g (L + 5) r2.length v)) L (nI E) (nI (r2.length + 1)) (nI (i + 1)) = some (rsW sf, uI h g') ∧ ∀ r, r ≠ L + 5 → g' r = g r := by
          rintro _ rfl
          refine fin r2.length _ ?_
          rw [up2_row]
          exact ⟨up1_eq, sr.2.2.up (Nat.le_refl _)⟩
        have ne1 : ¬ nI (b :: a :: r2).length ≤ 1 := nI_ge (a := 1) (b := r2.length + 2) (by omega) (by omega)
        rcases h6 with ⟨e, -⟩ | ⟨e | e, -⟩ | ⟨e | e, r', q1, -⟩
        · have ec : encS (w (654 + 2 * i)) (w (655 + 2 * i)) = 2043 := by rw [e]; rfl
          rw [e] at FF
          rw [ec, if_pos (by decide), if_neg (by decide), if_neg ne1, r5, if_pos a1, a2, LL, L1, if_pos (ib_n (by omega) (by decide)), if_pos (ib_n (by omega) (by decide)), if_neg (by decide), if_pos rfl, if_pos (ib_n (by omega) (by decide)), ix_n (by omega), ix_n (by omega), sb, sa, wr_s]
          unfold f_Law_holds_b295
          rw [nI_1]
          exact FF _ rfl
        · have ec : encS (w (654 + 2 * i)) (w (655 + 2 * i)) = 2060 := by rw [e]; rfl
          rw [e] at FF
          rw [ec, if_pos (by decide), if_neg (by decide), if_neg ne1, r5, if_pos a1, a2, LL, L1, if_pos (ib_n (by omega) (by decide)), if_pos (ib_n (by omega) (by decide)), if_neg (by decide), if_neg (by decide), if_pos rfl, ix_n (by omega), ix_n (by omega), sb, sa, C_holds_239 A1 A2 (by omega), C_holds_239 A1 A2 (by omega)]
          by_cases e3 : b ≤ a
          · rw [if_pos e3]; exact FF _ (by unfold opW; rw [if_pos e3]; rfl)
          · rw [if_neg e3]; exact FF _ (by unfold opW; rw [if_neg e3]; rfl)
        · have ec : encS (w (654 + 2 * i)) (w (655 + 2 * i)) = 2062 := by rw [e]; rfl
          rw [e] at FF
          rw [ec, if_pos (by decide), if_neg (by decide), if_neg ne1, r5, if_pos a1, a2, LL, L1, if_pos (ib_n (by omega) (by decide)), if_pos (ib_n (by omega) (by decide)), if_neg (by decide), if_neg (by decide), if_neg (by decide), if_pos rfl, ix_n (by omega), ix_n (by omega), sb, sa, C_holds_262 A1 A2 (by omega), C_holds_262 A1 A2 (by omega)]
          by_cases e3 : a ≤ b
          · rw [if_pos e3]; exact FF _ (by unfold opW; rw [if_pos e3]; rfl)
          · rw [if_neg e3]; exact FF _ (by unfold opW; rw [if_neg e3]; rfl)
        · have ec : encS (w (654 + 2 * i)) (w (655 + 2 * i)) = 1010 := by rw [e]; rfl
          rw [e] at FF
          rw [ec, if_pos (by decide), if_neg (by decide), if_neg ne1, r5, if_pos a1, a2, LL, L1, if_pos (ib_n (by omega) (by decide)), if_pos (ib_n (by omega) (by decide)), if_pos rfl, if_pos (ib_n (by omega) (by decide)), ix_n (by omega), ix_n (by omega), sb, sa, wr_s]
          unfold f_Law_holds_b295
          rw [nI_1]
          cases q1
          exact FF _ (and_01 (ta rfl) (tb rfl))
        · have ec : encS (w (654 + 2 * i)) (w (655 + 2 * i)) = 1011 := by rw [e]; rfl
          rw [e] at FF
          rw [ec, if_pos (by decide), if_neg (by decide), if_neg ne1, r5, if_pos a1, a2, LL, L1, if_pos (ib_n (by omega) (by decide)), if_pos (ib_n (by omega) (by decide)), if_neg (by decide), if_neg (by decide), if_neg (by decide), if_neg (by decide), if_pos (ib_n (by omega) (by decide)), ix_n (by omega), ix_n (by omega), sb, sa, wr_s]
          unfold f_Law_holds_b295
          rw [nI_1]
          cases q1
          exact FF _ (or_01 (ta rfl) (tb rfl))
end U10
