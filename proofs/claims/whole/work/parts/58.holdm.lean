/-! ===== the law of the reference: its functions ===== -/
section U8
variable {h : Hp} {g g' g1 : Nat → Nat → Int32} {w w' : Nat → Int32} {A c d k n l y j m q s i F r z : Nat} {v x a b : Int32} {f p : Nat → Nat} {st st' r' : List Int32} {ts ts' : List Bool}
theorem N_now (t : TSr h) : f_Model_now (uI h g) 755 = some (nowW (g 756), uI h g) := M_now (t.iu (g := g))
theorem N_fact (t : TSr h) (hc : c < 8) (hy : y < 30) : f_Model_factOf (uI h g) 755 v x (nI c) (nI y) = some (fcW (g 756) c y v x, uI h g) := by
  obtain ⟨s, ⟨r, -⟩, ⟨a1, a2⟩, -⟩ := t.iu (g := g)
  unfold f_Model_factOf f_Model_factOf_b0 fcW
  by_cases e0 : v = 0
  · rw [if_pos e0, if_pos e0]
  rw [if_neg e0, if_neg e0]
  by_cases e1 : v = 1
  · rw [if_pos e1, if_pos e1, if_pos s, N_now t, bI_s, mx_u]
    rfl
  rw [if_neg e1, if_neg e1]
  by_cases e2 : v = 2
  · rw [if_pos e2, if_pos e2, if_pos s, r, if_pos a1, a2, show (35 : Int32) = nI 35 from rfl, nI_add, if_pos (ib_n (by omega) (by decide)), ix_n (by omega)]
    rfl
  rw [if_neg e2, if_neg e2]
  by_cases e3 : v = 3
  · rw [if_pos e3, if_pos e3, if_pos s, r, if_pos a1, a2, show (4 : Int32) = nI 4 from rfl, if_pos (ib_n (by decide) (by decide)), ix_n (by decide)]
    rfl
  rw [if_neg e3, if_neg e3]
  by_cases e4 : v = 4
  · rw [if_pos e4, if_pos e4, if_pos s, N_layer t hc hy]
    rfl
  rw [if_neg e4, if_neg e4]
  have k1 : (1 : Int32) = nI 1 := rfl
  have k2 : (2 : Int32) = nI 2 := rfl
  have O1 : f_Model_ofCistern (uI h g) 755 (nI c) (1 : Int32) = some (g 756 (66 + 35 * c), uI h g) := by
    rw [k1, N_of t hc (by decide), show 65 + 35 * c + 1 = 66 + 35 * c from by omega]
  have O2 : f_Model_ofCistern (uI h g) 755 (nI c) (2 : Int32) = some (g 756 (67 + 35 * c), uI h g) := by
    rw [k2, N_of t hc (by decide), show 65 + 35 * c + 2 = 67 + 35 * c from by omega]
  by_cases e5 : v = 5
  · rw [if_pos e5, if_pos e5, if_pos s, O1, bI_s]
    split <;> rfl
  rw [if_neg e5, if_neg e5]
  by_cases e6 : v = 6
  · rw [if_pos e6, if_pos e6, if_pos s, O1, bI_s]
    split <;> rfl
  rw [if_neg e6, if_neg e6]
  by_cases e7 : v = 7
  · rw [if_pos e7, if_pos e7, if_pos s, O1, bI_s]
    split <;> rfl
  rw [if_neg e7, if_neg e7]
  by_cases e8 : v = 8
  · rw [if_pos e8, if_pos e8, if_pos s, O2]
    rfl
  rw [if_neg e8, if_neg e8]
theorem N_229 (t : TSr h) (hk : k < 400) {k23 : Hp → Nat → Int32 → Int32 → Int32 → Int32 → Int32 → Option (Int32 × Hp)} {x2 x3 x5 x7 x8 x9 s0 : Int32} : f_Model_holdsLine_b229 k23 (uI h g) 755 x2 x3 (nI (k + 1)) x5 (nI i) x7 x8 x9 s0 =
    k23 (uI h (up2 g 763 k (if x7 = 10 then x8 + x9 else if s0 = 0 then 0 else 1))) 755 x2 x3 (nI (k + 1)) x5 (nI (i + 1)) := by
  obtain ⟨s, ⟨-, -, -, -, -, -, -, r, -⟩, -, -, -, -, -, -, -, ⟨a1, a2⟩, -⟩ := t.iu (g := g)
  have Q : ∀ u, f_Model_holdsLine_b264 k23 (uI h g) 755 x2 x3 (nI (k + 1)) x5 (nI i) 763 (nI k) u = k23 (uI h (up2 g 763 k u)) 755 x2 x3 (nI (k + 1)) x5 (nI (i + 1)) := fun u => by
    unfold f_Model_holdsLine_b264
    rw [if_pos a1, a2, if_pos (ib_n hk (by decide)), ix_n (by omega), wr_s]
    unfold f_Model_holdsLine_b265
    rw [nI_1]
    rfl
  unfold f_Model_holdsLine_b229
  rw [if_pos s, r, show (1 : Int32) = nI 1 from rfl, show nI (k + 1) - nI 1 = nI k from nI_pred k]
  by_cases e : x7 = 10
  · rw [if_pos e, if_pos e, Q]
  · rw [if_neg e, if_neg e]
    by_cases e2 : s0 = 0
    · rw [if_pos e2, if_pos e2, Q]
    · rw [if_neg e2, if_neg e2]
      exact Q 1
/-- what the last of the waiting tells -/
def rsW : List Int32 → Int32
  | [] => 1
  | a :: _ => if a = 1 then 1 else 0
theorem len_2 (h : ts' = true :: ts ∨ ts' = false :: ts) (hl : ts.length < 32) : ts'.length ≤ 32 := by
  rcases h with rfl | rfl
  · show ts.length + 1 ≤ 32; omega
  · show ts.length + 1 ≤ 32; omega
theorem tyS_len (e : tyS v x ts = some ts') (hl : ts.length ≤ 32) : ts'.length ≤ 32 := by
  rcases tyS_in e with ⟨-, h1, h2⟩ | ⟨-, -, r, rfl, rfl⟩ | ⟨-, -, h3⟩
  · rcases h2 with ⟨h2, -⟩ | ⟨h2, -⟩
    · exact len_2 (Or.inr h2) h1
    · exact len_2 (Or.inl h2) h1
  · exact hl
  · rcases h3 with ⟨-, r, rfl, rfl⟩ | ⟨-, r, rfl, rfl⟩ | ⟨-, r, rfl, rfl⟩
    all_goals
      have q : r.length + 1 + 1 ≤ 32 := hl
      show r.length + 1 ≤ 32
      omega
theorem N_hold_L (t : TSr h) (hc : c < 8) (hy : y < 30) (hk : w (67 + 35 * c) = 0 ∨ w (67 + 35 * c) = 1) (hn : n < 12) {E : Nat} (hE : w (620 + 3 * n) = nI E) (hE4 : E ≤ 400) {tf : List Bool} (htf : tf.length ≤ 1) : ∀ (m i : Nat) (g : Nat → Nat → Int32) (ts : List Bool) (st : List Int32), g 756 = w → i + m = E → tyR w m i ts = some tf → ts.length ≤ 32 → TV ts st → StR (g 763) st → ∀ q,
    ∃ g' sf, evR w c y m i st = some sf ∧ f_Model_holdsLine_L23 (q + m + 1) (uI h g) 755 (nI c) (nI y) (nI st.length) (nI (618 + 3 * n)) (nI i) = some (rsW sf, uI h g') ∧ ∀ r, r ≠ 763 → g' r = g r := by
  intro m
  induction m with
  | zero =>
    intro i g ts st hg hi ht hl tv sr q
    cases ht
    obtain ⟨s, ⟨r1, -, -, -, -, -, -, r, -⟩, ⟨b1, b2⟩, -, -, -, -, -, -, ⟨a1, a2⟩, -⟩ := t.iu (g := g)
    refine ⟨g, st, rfl, ?_, fun _ _ => rfl⟩
    have EE : f_Model_holdsLine_L23 (q + 0 + 1) (uI h g) 755 (nI c) (nI y) (nI st.length) (nI (618 + 3 * n)) (nI i) = f_Model_holdsLine_b23 (f_Model_holdsLine_L23 q) (uI h g) 755 (nI c) (nI y) (nI st.length) (nI (618 + 3 * n)) (nI i) := rfl
    rw [EE]
    unfold f_Model_holdsLine_b23
    have hi' : i = E := hi
    have tl := tv.len
    rw [if_pos s, r1, if_pos b1, b2, show (2 : Int32) = nI 2 from rfl, nI_add, if_pos (ib_n (by omega) (by decide)), ix_n (by omega), hI_u, hg, show 618 + 3 * n + 2 = 620 + 3 * n from by omega, hE, hi', if_pos (Int32.le_refl _)]
    cases st with
    | nil => rw [if_pos (by rfl)]; rfl
    | cons a rr =>
      cases rr with
      | nil =>
        have e1 : ¬ nI [a].length = 0 := nI_ne0 (n := 1) (by decide) (by decide)
        rw [if_neg e1, r, if_pos a1, a2, show (0 : Int32) = nI 0 from rfl, if_pos (ib_n (by decide) (by decide)), ix_n (by decide)]
        have e2 : g 763 0 = a := sr.1
        rw [e2]
        show (if a = 1 then f_Model_holdsLine_b286 (uI h g) else some (0, uI h g)) = some (if a = 1 then 1 else 0, uI h g)
        split <;> rfl
      | cons b r2 =>
        exfalso
        have : (a :: b :: r2).length = r2.length + 2 := rfl
        omega
  | succ m ih =>
    intro i g ts st hg hi ht hl tv sr q
    obtain ⟨s, ⟨r1, -, -, -, -, -, -, r, -⟩, ⟨b1, b2⟩, -, -, -, -, -, -, ⟨a1, a2⟩, -⟩ := t.iu (g := g)
    unfold tyR at ht
    cases qq : tyS (w (654 + 2 * i)) (w (655 + 2 * i)) ts with
    | none => rw [qq] at ht; cases ht
    | some t1 =>
      rw [qq] at ht
      obtain ⟨s1, e1, tv1⟩ := ev_ty (w := w) (c := c) (y := y) qq tv hk
      have hl1 := tyS_len qq hl
      have tl := tv.len
      have fin : ∀ k v, up2 g 763 k v 756 = w → StR (up2 g 763 k v 763) s1 → ∃ g' sf, evR w c y (m + 1) i st = some sf ∧ f_Model_holdsLine_L23 (q + m + 1) (uI h (up2 g 763 k v)) 755 (nI c) (nI y) (nI s1.length) (nI (618 + 3 * n)) (nI (i + 1)) = some (rsW sf, uI h g') ∧ ∀ r, r ≠ 763 → g' r = g r := by
        intro k v h1 h2
        obtain ⟨g', sf, p1, p2, p3⟩ := ih (i + 1) (up2 g 763 k v) t1 s1 h1 (by omega) ht hl1 tv1 h2 q
        refine ⟨g', sf, ?_, p2, fun r hr => (p3 r hr).trans (up_row hr)⟩
        unfold evR
        rw [e1]
        exact p1
      have EE : f_Model_holdsLine_L23 (q + (m + 1) + 1) (uI h g) 755 (nI c) (nI y) (nI st.length) (nI (618 + 3 * n)) (nI i) = f_Model_holdsLine_b23 (f_Model_holdsLine_L23 (q + m + 1)) (uI h g) 755 (nI c) (nI y) (nI st.length) (nI (618 + 3 * n)) (nI i) := rfl
      have N7 : ∀ k v, up2 g 763 k v 756 = w := fun k v => by rw [up_row (by decide)]; exact hg
      rw [EE]
      unfold f_Model_holdsLine_b23
      rw [if_pos s, r1, if_pos b1, b2, show nI (618 + 3 * n) + (2 : Int32) = nI (618 + 3 * n + 2) from nI_add _ 2, if_pos (ib_n (by omega) (by decide)), ix_n (by omega), hI_u, hg, show 618 + 3 * n + 2 = 620 + 3 * n from by omega, hE, if_neg (nI_ge (by omega) (by omega)), six, if_pos (ib_n (by omega) (by decide)), ix_n (by omega)]
      rcases tyS_in qq with ⟨h1, h3, -⟩ | ⟨h1, h2, r', rfl, rfl⟩ | ⟨h1, h2, h3⟩
      · have e2 : evS (w (654 + 2 * i)) (fcW w c y (w (654 + 2 * i)) (w (655 + 2 * i))) st = some (fcW w c y (w (654 + 2 * i)) (w (655 + 2 * i)) :: st) := if_neg h1
        rw [e2] at e1
        cases e1
        rw [if_neg h1, nI_1, if_pos (ib_n (by omega) (by decide)), ix_n (by omega), show 654 + 2 * i + 1 = 655 + 2 * i from by omega, N_fact t hc hy, bI_s, r, if_pos a1, a2, if_pos (ib_n (by omega) (by decide)), ix_n (by omega), hg, wr_s]
        unfold f_Model_holdsLine_b265
        rw [nI_1, nI_1]
        refine fin st.length _ (N7 _ _) ?_
        rw [up2_row]
        exact ⟨up1_eq, sr.up (Nat.le_refl _)⟩
      · obtain ⟨a, r2, rfl, -, -⟩ := tv.c1
        have e2 : evS (w (654 + 2 * i)) (fcW w c y (w (654 + 2 * i)) (w (655 + 2 * i))) (a :: r2) = some ((1 - a) :: r2) := by
          unfold evS
          rw [if_pos h1, if_pos h2]
        rw [e2] at e1
        cases e1
        have L : nI (a :: r2).length - 1 = nI r2.length := nI_pred _
        have L2 : r2.length < 32 := by have : (a :: r2).length = r2.length + 1 := rfl
                                       omega
        rw [if_pos h1, if_pos h2, r, if_pos a1, a2, L, if_pos (ib_n (by omega) (by decide)), if_pos (ib_n (by omega) (by decide)), ix_n (by omega), sr.1, wr_s]
        unfold f_Model_holdsLine_b265
        rw [nI_1]
        refine fin r2.length (1 - a) (N7 _ _) ?_
        rw [up2_row]
        exact ⟨up1_eq, sr.2.up (Nat.le_refl _)⟩
      · have two : ∃ t u r', ts = t :: u :: r' := by
          rcases h3 with ⟨-, r', q1, -⟩ | ⟨-, r', q1, -⟩ | ⟨-, r', q1, -⟩
          · exact ⟨_, _, _, q1⟩
          · exact ⟨_, _, _, q1⟩
          · exact ⟨_, _, _, q1⟩
        obtain ⟨t9, u9, r9, rfl⟩ := two
        obtain ⟨b, a, r2, rfl, -, -, -⟩ := tv.c2
        have e2 : evS (w (654 + 2 * i)) (fcW w c y (w (654 + 2 * i)) (w (655 + 2 * i))) (b :: a :: r2) = some (opW (w (654 + 2 * i)) a b :: r2) := by
          unfold evS
          rw [if_pos h1, if_neg h2]
        rw [e2] at e1
        cases e1
        have L : nI (b :: a :: r2).length + (-1) = nI (r2.length + 1) := pk_m1 _
        have L1 : nI (r2.length + 1) - 1 = nI r2.length := nI_pred _
        have L2 : r2.length < 32 := by have : (b :: a :: r2).length = r2.length + 2 := rfl
                                       omega
        have sb : g 763 (r2.length + 1) = b := sr.1
        have sa : g 763 r2.length = a := sr.2.1
        have FF : ∀ v, v = opW (w (654 + 2 * i)) a b → ∃ g' sf, evR w c y (m + 1) i (b :: a :: r2) = some sf ∧ f_Model_holdsLine_L23 (q + m + 1) (uI h (up2 g 763 r2.length v)) 755 (nI c) (nI y) (nI (r2.length + 1)) (nI (618 + 3 * n)) (nI (i + 1)) = some (rsW sf, uI h g') ∧ ∀ r, r ≠ 763 → g' r = g r := by
          rintro _ rfl
          refine fin r2.length _ (N7 _ _) ?_
          rw [up2_row]
          exact ⟨up1_eq, sr.2.2.up (Nat.le_refl _)⟩
        rw [if_pos h1, if_neg h2, r, if_pos a1, a2, L, L1, if_pos (ib_n (by omega) (by decide)), if_pos (ib_n (by omega) (by decide)), ix_n (by omega), ix_n (by omega), sb, sa]
        generalize w (654 + 2 * i) = S at FF h1 h2 h3 ⊢
        have dn : ∀ u u' : Int32, u ≠ u' → ¬ u = u' := fun _ _ z => z
        unfold opW at FF
        rcases h3 with ⟨rfl, -⟩ | ⟨rfl | rfl, -⟩ | ⟨rfl | rfl, -⟩
        · rw [if_neg (by decide), if_neg (by decide), if_neg (by decide), N_229 t (by omega), N_229 t (by omega)]
          by_cases e : a + b ≤ 0
          · rw [if_pos e]; exact FF _ rfl
          · rw [if_neg e]; exact FF _ rfl
        · rw [if_pos rfl]
          by_cases e : b ≤ a
          · rw [if_pos e, N_229 t (by omega)]
            exact FF _ (by rw [if_pos e]; rfl)
          · rw [if_neg e, N_229 t (by omega)]
            exact FF _ (by rw [if_neg e]; rfl)
        · rw [if_neg (by decide), if_pos rfl]
          by_cases e : a ≤ b
          · rw [if_pos e, N_229 t (by omega)]
            exact FF _ (by rw [if_pos e]; rfl)
          · rw [if_neg e, N_229 t (by omega)]
            exact FF _ (by rw [if_neg e]; rfl)
        · rw [if_neg (by decide), if_neg (by decide), if_pos rfl]
          by_cases e : a + b = 2
          · rw [if_pos e, N_229 t (by omega)]
            exact FF _ (by rw [if_pos e]; rfl)
          · rw [if_neg e, N_229 t (by omega)]
            exact FF _ (by rw [if_neg e]; rfl)
        · rw [if_neg (by decide), if_neg (by decide), if_neg (by decide)]
          by_cases e : a + b ≤ 0
          · rw [if_pos e, N_229 t (by omega)]
            exact FF _ (by rw [if_pos e]; rfl)
          · rw [if_neg e, N_229 t (by omega)]
            exact FF _ (by rw [if_neg e]; rfl)
end U8
