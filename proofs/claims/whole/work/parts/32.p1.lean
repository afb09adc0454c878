/-! ===== pure part 1: the arena read after it is written; the constructors (wip/whole/gen/p1.py) ===== -/
section P1
variable {h h' h2 : Hp} {a b c k j r s l z : Nat} {v : Int32}
theorem HPs : (∀ (h : Hp) (a k : Nat) (v : Int32), hI (sI h a k v) = up2 (hI h) a k v ∧ hR (sI h a k v) = hR h ∧ hJ (sI h a k v) = hJ h ∧ hS (sI h a k v) = hS h ∧ hL (sI h a k v) = hL h ∧ hN (sI h a k v) = hN h ∧ hZ (sI h a k v) = hZ h) ∧
    (∀ (h : Hp) (a k : Nat) (v : Nat), hI (sR h a k v) = hI h ∧ hR (sR h a k v) = up2 (hR h) a k v ∧ hJ (sR h a k v) = hJ h ∧ hS (sR h a k v) = hS h ∧ hL (sR h a k v) = hL h ∧ hN (sR h a k v) = hN h ∧ hZ (sR h a k v) = hZ h) ∧
    (∀ (h : Hp) (s l z : Nat), hI (hA h s l z) = rs2 (hI h) (hN h + 1) (fun _ => 0) ∧ hR (hA h s l z) = rs2 (hR h) (hN h + 1) (fun _ => 0) ∧ hJ (hA h s l z) = rs2 (hJ h) (hN h + 1) (fun _ => 0) ∧ hS (hA h s l z) = rs1 (hS h) (hN h + 1) s ∧ hL (hA h s l z) = rs1 (hL h) (hN h + 1) l ∧ hN (hA h s l z) = hN h + 1 ∧ hZ (hA h s l z) = hZ h + z) :=
  ⟨fun _ _ _ _ => ⟨rfl, rfl, rfl, rfl, rfl, rfl, rfl⟩, fun _ _ _ _ => ⟨rfl, rfl, rfl, rfl, rfl, rfl, rfl⟩, fun _ _ _ _ => ⟨rfl, rfl, rfl, rfl, rfl, rfl, rfl⟩⟩
/-- the cell r is in h' as in h -/
def SM (h h' : Hp) (r : Nat) : Prop := hS h' r = hS h r ∧ hL h' r = hL h r ∧ hI h' r = hI h r ∧ hR h' r = hR h r ∧ hJ h' r = hJ h r
theorem SM.rf : SM h h r := ⟨rfl, rfl, rfl, rfl, rfl⟩
theorem SM.tr (x : SM h h' r) (y : SM h' h2 r) : SM h h2 r := ⟨y.1.trans x.1, y.2.1.trans x.2.1, y.2.2.1.trans x.2.2.1, y.2.2.2.1.trans x.2.2.2.1, y.2.2.2.2.trans x.2.2.2.2⟩
theorem SM.hA (e : r ≠ hN h + 1) : SM h (hA h s l z) r := ⟨if_neg e, if_neg e, funext fun _ => if_neg e, funext fun _ => if_neg e, funext fun _ => if_neg e⟩
theorem SM.sR {v : Nat} (e : r ≠ a) : SM h (sR h a k v) r := ⟨rfl, rfl, rfl, funext fun _ => if_neg fun z => e z.1, rfl⟩
theorem SM.sI (e : r ≠ a) : SM h (sI h a k v) r := ⟨rfl, rfl, funext fun _ => if_neg fun z => e z.1, rfl, rfl⟩
/-- a blank cell -/
def BL (h : Hp) (r s l : Nat) : Prop := hS h r = s ∧ hL h r = l ∧ (∀ k, hI h r k = 0) ∧ (∀ k, hR h r k = 0) ∧ ∀ k, hJ h r k = 0
theorem BL.new : BL (hA h s l z) (hN h + 1) s l := ⟨if_pos rfl, if_pos rfl, fun _ => if_pos rfl, fun _ => if_pos rfl, fun _ => if_pos rfl⟩
theorem BL.sm (x : BL h r s l) (y : SM h h' r) : BL h' r s l := ⟨y.1.trans x.1, y.2.1.trans x.2.1, fun k => (congrFun y.2.2.1 k).trans (x.2.2.1 k), fun k => (congrFun y.2.2.2.1 k).trans (x.2.2.2.1 k), fun k => (congrFun y.2.2.2.2 k).trans (x.2.2.2.2 k)⟩
/-- a new cistern (sh 1, its layers at f = 6) or house (sh 3, f = 5): zeroes, its array behind it -/
def CD (sh f : Nat) (h : Hp) (c : Nat) : Prop := hS h c = sh ∧ hR h c f = c + 1 ∧ (∀ k, hI h c k = 0) ∧ BL h (c + 1) 20 30
theorem CD.sm {sh f : Nat} (x : CD sh f h c) (y : SM h h' c) (w : SM h h' (c + 1)) : CD sh f h' c := ⟨y.1.trans x.1, (congrFun y.2.2.2.1 f).trans x.2.1, fun k => (congrFun y.2.2.1 k).trans (x.2.2.1 k), x.2.2.2.sm w⟩
theorem ix_n {i : Nat} (h : i < 2 ^ 31) : ix (nI i) = i := nI_clamp h
theorem ib_n {i n : Nat} (h : i < n) (hn : n < 2 ^ 31) : ib (nI i) n = true := by
  unfold ib
  rw [nI_toInt (by omega)]
  simp
  omega
theorem n8 : (8 : Int32) = nI 8 := rfl
theorem n12 : (12 : Int32) = nI 12 := rfl
theorem n1 : (1 : Int32) = nI 1 := rfl
theorem n0 : (0 : Int32) = nI 0 := rfl

theorem ci_new (hs : hS h c = 1) (hc : c ≤ hN h) : f_Cistern_init h c = some (sR (hA h 20 30 30) c 6 (hN h + 1)) := by
  have e : c ≠ hN h + 1 := by omega
  simp [f_Cistern_init, f_Cistern_init_b0, wr, hs, HPs, rs1, e]
  rfl
theorem ci_step (k9 : Hp → Nat → Int32 → Option Hp) {i : Nat} (hi : i < 8) (h1 : hS h a = 4) (h2 : hR h a 3 = a + 1) (h3 : hS h (a + 1) = 23) (h4 : hL h (a + 1) = 8) (h5 : a + 5 ≤ hN h) :
    f_Land_init_b54 k9 h a (nI i) = k9 (sR (sR (hA (hA h 1 0 7) 20 30 30) (hN h + 1) 6 (hN h + 2)) (a + 1) i (hN h + 1)) a (nI (i + 1)) := by
  have e1 : a ≠ hN h + 1 := by omega
  have e2 : a + 1 ≠ hN h + 1 := by omega
  have e3 : a ≠ a + 1 := by omega
  have f0 : a ≠ hN h := by omega
  have f1 : a + 1 ≠ hN h := by omega
  have f2 : a + 2 ≠ hN h := by omega
  have f3 : a + 3 ≠ hN h := by omega
  have e4 : ¬ (nI 8 ≤ nI i) := nI_ge hi (by decide)
  unfold f_Land_init_b54
  rw [n8, if_neg e4, if_pos h1]
  show bV (f_Cistern_init (hA h 1 0 7) (hN h + 1)) _ = _
  rw [ci_new (h := hA h 1 0 7) (c := hN h + 1) (show rs1 (hS h) (hN h + 1) 1 (hN h + 1) = 1 from if_pos rfl) (show hN h + 1 ≤ hN h + 1 from Nat.le_refl _), h2]
  have e5 : a + 1 ≠ hN h + 1 + 1 := by omega
  have e6 : hN h + 1 ≠ hN h + 1 + 1 := by omega
  simp [bV, wr, HPs, rs1, h3, h4, e2, e5, e6, ib_n hi, ix_n (show i < 2 ^ 31 by omega), n1, nI_add, e1, f0, f1, f2, f3]
theorem ho_new (hs : hS h c = 3) (hc : c ≤ hN h) : f_House_init h c = some (sR (hA h 20 30 30) c 5 (hN h + 1)) := by
  have e : c ≠ hN h + 1 := by omega
  simp [f_House_init, f_House_init_b0, wr, hs, HPs, rs1, e]
  rfl
theorem ho_step (k9 : Hp → Nat → Int32 → Option Hp) {i : Nat} (hi : i < 8) (h1 : hS h a = 4) (h2 : hR h a 4 = a + 2) (h3 : hS h (a + 2) = 24) (h4 : hL h (a + 2) = 8) (h5 : a + 5 ≤ hN h) :
    f_Land_init_b81 k9 h a (nI i) = k9 (sR (sR (hA (hA h 3 0 6) 20 30 30) (hN h + 1) 5 (hN h + 2)) (a + 2) i (hN h + 1)) a (nI (i + 1)) := by
  have e1 : a ≠ hN h + 1 := by omega
  have e2 : a + 2 ≠ hN h + 1 := by omega
  have e3 : a ≠ a + 2 := by omega
  have f0 : a ≠ hN h := by omega
  have f1 : a + 1 ≠ hN h := by omega
  have f2 : a + 2 ≠ hN h := by omega
  have f3 : a + 3 ≠ hN h := by omega
  have e4 : ¬ (nI 8 ≤ nI i) := nI_ge hi (by decide)
  unfold f_Land_init_b81
  rw [n8, if_neg e4, if_pos h1]
  show bV (f_House_init (hA h 3 0 6) (hN h + 1)) _ = _
  rw [ho_new (h := hA h 3 0 6) (c := hN h + 1) (show rs1 (hS h) (hN h + 1) 3 (hN h + 1) = 3 from if_pos rfl) (show hN h + 1 ≤ hN h + 1 from Nat.le_refl _), h2]
  have e5 : a + 2 ≠ hN h + 1 + 1 := by omega
  have e6 : hN h + 1 ≠ hN h + 1 + 1 := by omega
  simp [bV, wr, HPs, rs1, h3, h4, e2, e5, e6, ib_n hi, ix_n (show i < 2 ^ 31 by omega), n1, nI_add, e1, f0, f1, f2, f3]
theorem de_new (hs : hS h c = 2) : f_Debt_init h c = some h := by
  simp [f_Debt_init, f_Debt_init_b0, hs]
theorem de_step (k9 : Hp → Nat → Int32 → Option Hp) {i : Nat} (hi : i < 8) (h1 : hS h a = 4) (h2 : hR h a 5 = a + 3) (h3 : hS h (a + 3) = 25) (h4 : hL h (a + 3) = 8) (h5 : a + 5 ≤ hN h) :
    f_Land_init_b108 k9 h a (nI i) = k9 (sR (hA h 2 0 3) (a + 3) i (hN h + 1)) a (nI (i + 1)) := by
  have e1 : a ≠ hN h + 1 := by omega
  have e2 : a + 3 ≠ hN h + 1 := by omega
  have e3 : a ≠ a + 3 := by omega
  have f0 : a ≠ hN h := by omega
  have f1 : a + 1 ≠ hN h := by omega
  have f2 : a + 2 ≠ hN h := by omega
  have f3 : a + 3 ≠ hN h := by omega
  have e4 : ¬ (nI 8 ≤ nI i) := nI_ge hi (by decide)
  unfold f_Land_init_b108
  rw [n8, if_neg e4, if_pos h1]
  show bV (f_Debt_init (hA h 2 0 3) (hN h + 1)) _ = _
  rw [de_new (h := hA h 2 0 3) (c := hN h + 1) (show rs1 (hS h) (hN h + 1) 2 (hN h + 1) = 2 from if_pos rfl), h2]
  simp [bV, wr, HPs, rs1, h3, h4, e2, ib_n hi, ix_n (show i < 2 ^ 31 by omega), n1, nI_add, e1, f0, f1, f2, f3]
theorem ci_eff {i : Nat} (h5 : a + 5 ≤ hN h) {H1 : Hp} (hH : H1 = (sR (sR (hA (hA h 1 0 7) 20 30 30) (hN h + 1) 6 (hN h + 2)) (a + 1) i (hN h + 1))) : hN H1 = hN h + 2 ∧ hZ H1 = hZ h + 37 ∧ (∀ r, r ≤ hN h → r ≠ a + 1 → SM h H1 r) ∧ hS H1 (a + 1) = hS h (a + 1) ∧ hL H1 (a + 1) = hL h (a + 1) ∧ (∀ k, hR H1 (a + 1) k = if k = i then hN h + 1 else hR h (a + 1) k) ∧ CD 1 6 H1 (hN h + 1) := by
  subst hH
  have S2 : ∀ r, r ≤ hN h → SM h (hA (hA h 1 0 7) 20 30 30) r := fun r hr => (SM.hA (by omega)).tr (SM.hA (h := hA h 1 0 7) (show r ≠ hN h + 1 + 1 by omega))
  have S3 := fun r (hr : r ≤ hN h) => (S2 r hr).tr (SM.sR (k := 6) (v := hN h + 2) (show r ≠ hN h + 1 by omega))
  have B1 := (BL.new (h := h) (s := 1) (l := 0) (z := 7)).sm (SM.hA (h := hA h 1 0 7) (s := 20) (l := 30) (z := 30) (show hN h + 1 ≠ hN h + 1 + 1 by omega))
  refine ⟨rfl, (by show hZ h + 7 + 30 = _; omega), fun r hr e => (S3 r hr).tr (SM.sR e), (S2 _ (by omega)).1, (S2 _ (by omega)).2.1, fun k => ?_, B1.1, ?_, B1.2.2.1, ?_⟩
  · by_cases e : k = i
    · subst e
      rw [if_pos rfl]
      exact if_pos ⟨rfl, rfl⟩
    · rw [if_neg e]
      exact (if_neg fun z => e z.2).trans (congrFun (S3 _ (by omega)).2.2.2.1 k)
  · exact (if_neg fun z => absurd z.1 (by omega)).trans (if_pos ⟨rfl, rfl⟩)
  · exact (BL.new (h := hA h 1 0 7)).sm ((SM.sR (show hN h + 1 + 1 ≠ hN h + 1 by omega)).tr (SM.sR (show hN h + 1 + 1 ≠ a + 1 by omega)))
theorem ci_loop : ∀ (j : Nat) {i : Nat} {h : Hp}, i + j = 8 → hS h a = 4 → hR h a 3 = a + 1 → hS h (a + 1) = 23 → hL h (a + 1) = 8 → hN h = a + 5 + 2 * i → (∀ c, c < i → hR h (a + 1) c = a + 6 + 2 * c ∧ CD 1 6 h (a + 6 + 2 * c)) → ∀ n, ∃ h', f_Land_init_L54 (n + j + 1) h a (nI i) = f_Land_init_L81 FU h' a 0 ∧
    hN h' = a + 21 ∧ hZ h' = hZ h + 37 * j ∧ (∀ r, r ≤ a + 5 → r ≠ a + 1 → SM h h' r) ∧ (∀ c, c < 8 → hR h' (a + 1) c = a + 6 + 2 * c ∧ CD 1 6 h' (a + 6 + 2 * c)) ∧ hS h' (a + 1) = 23 ∧ hL h' (a + 1) = 8 := by
  intro j
  induction j with
  | zero =>
    intro i h hi h1 h2 h3 h4 hn hd n
    have hi8 : i = 8 := by omega
    subst hi8
    refine ⟨h, ?_, by omega, by simp, fun _ _ _ => SM.rf, hd, h3, h4⟩
    show f_Land_init_b54 (f_Land_init_L54 n) h a (nI 8) = _
    unfold f_Land_init_b54
    rw [n8, if_pos (Int32.le_refl _)]
    try rfl
  | succ j ih =>
    intro i h hi h1 h2 h3 h4 hn hd n
    have st := ci_step (k9 := f_Land_init_L54 (n + j + 1)) (h := h) (a := a) (i := i) (by omega) h1 h2 h3 h4 (by omega)
    obtain ⟨H1, hH⟩ : ∃ H1, H1 = (sR (sR (hA (hA h 1 0 7) 20 30 30) (hN h + 1) 6 (hN h + 2)) (a + 1) i (hN h + 1)) := ⟨_, rfl⟩
    rw [← hH] at st
    obtain ⟨e1, e2, e3, e4, e5, e6, e7⟩ := ci_eff (by omega) hH
    have sa := e3 a (by omega) (by omega)
    obtain ⟨h', g1, g2, g3, g4, g5, g6, g7⟩ := ih (i := i + 1) (h := H1) (by omega) (sa.1.trans h1) ((congrFun sa.2.2.2.1 _).trans h2) (e4.trans h3) (e5.trans h4) (by omega) (fun c hc9 => by
      by_cases hc : c < i
      · exact ⟨(e6 c).trans ((if_neg (by omega)).trans (hd c hc).1), ((hd c hc).2.sm (e3 _ (by omega) (by omega)) (e3 _ (by omega) (by omega)))⟩
      · have hci : c = i := by omega
        subst hci
        refine ⟨(e6 c).trans ((if_pos rfl).trans (by omega)), ?_⟩
        have q : hN h + 1 = a + 6 + 2 * c := by omega
        rw [← q]
        exact e7) n
    refine ⟨h', st.trans g1, g2, by rw [g3, e2, Nat.mul_succ]; omega, fun r hr e => (e3 r (by omega) e).tr (g4 r hr e), g5, g6, g7⟩
theorem ho_eff {i : Nat} (h5 : a + 5 ≤ hN h) {H1 : Hp} (hH : H1 = (sR (sR (hA (hA h 3 0 6) 20 30 30) (hN h + 1) 5 (hN h + 2)) (a + 2) i (hN h + 1))) : hN H1 = hN h + 2 ∧ hZ H1 = hZ h + 36 ∧ (∀ r, r ≤ hN h → r ≠ a + 2 → SM h H1 r) ∧ hS H1 (a + 2) = hS h (a + 2) ∧ hL H1 (a + 2) = hL h (a + 2) ∧ (∀ k, hR H1 (a + 2) k = if k = i then hN h + 1 else hR h (a + 2) k) ∧ CD 3 5 H1 (hN h + 1) := by
  subst hH
  have S2 : ∀ r, r ≤ hN h → SM h (hA (hA h 3 0 6) 20 30 30) r := fun r hr => (SM.hA (by omega)).tr (SM.hA (h := hA h 3 0 6) (show r ≠ hN h + 1 + 1 by omega))
  have S3 := fun r (hr : r ≤ hN h) => (S2 r hr).tr (SM.sR (k := 5) (v := hN h + 2) (show r ≠ hN h + 1 by omega))
  have B1 := (BL.new (h := h) (s := 3) (l := 0) (z := 6)).sm (SM.hA (h := hA h 3 0 6) (s := 20) (l := 30) (z := 30) (show hN h + 1 ≠ hN h + 1 + 1 by omega))
  refine ⟨rfl, (by show hZ h + 6 + 30 = _; omega), fun r hr e => (S3 r hr).tr (SM.sR e), (S2 _ (by omega)).1, (S2 _ (by omega)).2.1, fun k => ?_, B1.1, ?_, B1.2.2.1, ?_⟩
  · by_cases e : k = i
    · subst e
      rw [if_pos rfl]
      exact if_pos ⟨rfl, rfl⟩
    · rw [if_neg e]
      exact (if_neg fun z => e z.2).trans (congrFun (S3 _ (by omega)).2.2.2.1 k)
  · exact (if_neg fun z => absurd z.1 (by omega)).trans (if_pos ⟨rfl, rfl⟩)
  · exact (BL.new (h := hA h 3 0 6)).sm ((SM.sR (show hN h + 1 + 1 ≠ hN h + 1 by omega)).tr (SM.sR (show hN h + 1 + 1 ≠ a + 2 by omega)))
theorem ho_loop : ∀ (j : Nat) {i : Nat} {h : Hp}, i + j = 8 → hS h a = 4 → hR h a 4 = a + 2 → hS h (a + 2) = 24 → hL h (a + 2) = 8 → hN h = a + 21 + 2 * i → (∀ c, c < i → hR h (a + 2) c = a + 22 + 2 * c ∧ CD 3 5 h (a + 22 + 2 * c)) → ∀ n, ∃ h', f_Land_init_L81 (n + j + 1) h a (nI i) = f_Land_init_L108 FU h' a 0 ∧
    hN h' = a + 37 ∧ hZ h' = hZ h + 36 * j ∧ (∀ r, r ≤ a + 21 → r ≠ a + 2 → SM h h' r) ∧ (∀ c, c < 8 → hR h' (a + 2) c = a + 22 + 2 * c ∧ CD 3 5 h' (a + 22 + 2 * c)) ∧ hS h' (a + 2) = 24 ∧ hL h' (a + 2) = 8 := by
  intro j
  induction j with
  | zero =>
    intro i h hi h1 h2 h3 h4 hn hd n
    have hi8 : i = 8 := by omega
    subst hi8
    refine ⟨h, ?_, by omega, by simp, fun _ _ _ => SM.rf, hd, h3, h4⟩
    show f_Land_init_b81 (f_Land_init_L81 n) h a (nI 8) = _
    unfold f_Land_init_b81
    rw [n8, if_pos (Int32.le_refl _)]
    try rfl
  | succ j ih =>
    intro i h hi h1 h2 h3 h4 hn hd n
    have st := ho_step (k9 := f_Land_init_L81 (n + j + 1)) (h := h) (a := a) (i := i) (by omega) h1 h2 h3 h4 (by omega)
    obtain ⟨H1, hH⟩ : ∃ H1, H1 = (sR (sR (hA (hA h 3 0 6) 20 30 30) (hN h + 1) 5 (hN h + 2)) (a + 2) i (hN h + 1)) := ⟨_, rfl⟩
    rw [← hH] at st
    obtain ⟨e1, e2, e3, e4, e5, e6, e7⟩ := ho_eff (by omega) hH
    have sa := e3 a (by omega) (by omega)
    obtain ⟨h', g1, g2, g3, g4, g5, g6, g7⟩ := ih (i := i + 1) (h := H1) (by omega) (sa.1.trans h1) ((congrFun sa.2.2.2.1 _).trans h2) (e4.trans h3) (e5.trans h4) (by omega) (fun c hc9 => by
      by_cases hc : c < i
      · exact ⟨(e6 c).trans ((if_neg (by omega)).trans (hd c hc).1), ((hd c hc).2.sm (e3 _ (by omega) (by omega)) (e3 _ (by omega) (by omega)))⟩
      · have hci : c = i := by omega
        subst hci
        refine ⟨(e6 c).trans ((if_pos rfl).trans (by omega)), ?_⟩
        have q : hN h + 1 = a + 22 + 2 * c := by omega
        rw [← q]
        exact e7) n
    refine ⟨h', st.trans g1, g2, by rw [g3, e2, Nat.mul_succ]; omega, fun r hr e => (e3 r (by omega) e).tr (g4 r hr e), g5, g6, g7⟩
theorem de_eff {i : Nat} (h5 : a + 5 ≤ hN h) {H1 : Hp} (hH : H1 = (sR (hA h 2 0 3) (a + 3) i (hN h + 1))) : hN H1 = hN h + 1 ∧ hZ H1 = hZ h + 3 ∧ (∀ r, r ≤ hN h → r ≠ a + 3 → SM h H1 r) ∧ hS H1 (a + 3) = hS h (a + 3) ∧ hL H1 (a + 3) = hL h (a + 3) ∧ (∀ k, hR H1 (a + 3) k = if k = i then hN h + 1 else hR h (a + 3) k) ∧ BL H1 (hN h + 1) 2 0 := by
  subst hH
  have S2 : ∀ r, r ≤ hN h → SM h (hA h 2 0 3) r := fun r hr => SM.hA (by omega)
  refine ⟨rfl, rfl, fun r hr e => (S2 r hr).tr (SM.sR e), (S2 _ (by omega)).1, (S2 _ (by omega)).2.1, fun k => ?_, (BL.new (h := h)).sm (SM.sR (show hN h + 1 ≠ a + 3 by omega))⟩
  by_cases e : k = i
  · subst e
    rw [if_pos rfl]
    exact if_pos ⟨rfl, rfl⟩
  · rw [if_neg e]
    exact (if_neg fun z => e z.2).trans (congrFun (S2 _ (by omega)).2.2.2.1 k)
theorem de_loop : ∀ (j : Nat) {i : Nat} {h : Hp}, i + j = 8 → hS h a = 4 → hR h a 5 = a + 3 → hS h (a + 3) = 25 → hL h (a + 3) = 8 → hN h = a + 37 + i → (∀ c, c < i → hR h (a + 3) c = a + 38 + c ∧ BL h (a + 38 + c) 2 0) → ∀ n, ∃ h', f_Land_init_L108 (n + j + 1) h a (nI i) = some h' ∧
    hN h' = a + 45 ∧ hZ h' = hZ h + 3 * j ∧ (∀ r, r ≤ a + 37 → r ≠ a + 3 → SM h h' r) ∧ (∀ c, c < 8 → hR h' (a + 3) c = a + 38 + c ∧ BL h' (a + 38 + c) 2 0) ∧ hS h' (a + 3) = 25 ∧ hL h' (a + 3) = 8 := by
  intro j
  induction j with
  | zero =>
    intro i h hi h1 h2 h3 h4 hn hd n
    have hi8 : i = 8 := by omega
    subst hi8
    refine ⟨h, ?_, by omega, by simp, fun _ _ _ => SM.rf, hd, h3, h4⟩
    show f_Land_init_b108 (f_Land_init_L108 n) h a (nI 8) = _
    unfold f_Land_init_b108
    rw [n8, if_pos (Int32.le_refl _)]
    try rfl
  | succ j ih =>
    intro i h hi h1 h2 h3 h4 hn hd n
    have st := de_step (k9 := f_Land_init_L108 (n + j + 1)) (h := h) (a := a) (i := i) (by omega) h1 h2 h3 h4 (by omega)
    obtain ⟨H1, hH⟩ : ∃ H1, H1 = (sR (hA h 2 0 3) (a + 3) i (hN h + 1)) := ⟨_, rfl⟩
    rw [← hH] at st
    obtain ⟨e1, e2, e3, e4, e5, e6, e7⟩ := de_eff (by omega) hH
    have sa := e3 a (by omega) (by omega)
    obtain ⟨h', g1, g2, g3, g4, g5, g6, g7⟩ := ih (i := i + 1) (h := H1) (by omega) (sa.1.trans h1) ((congrFun sa.2.2.2.1 _).trans h2) (e4.trans h3) (e5.trans h4) (by omega) (fun c hc9 => by
      by_cases hc : c < i
      · exact ⟨(e6 c).trans ((if_neg (by omega)).trans (hd c hc).1), ((hd c hc).2.sm (e3 _ (by omega) (by omega)))⟩
      · have hci : c = i := by omega
        subst hci
        refine ⟨(e6 c).trans ((if_pos rfl).trans (by omega)), ?_⟩
        have q : hN h + 1 = a + 38 + c := by omega
        rw [← q]
        exact e7) n
    refine ⟨h', st.trans g1, g2, by rw [g3, e2, Nat.mul_succ]; omega, fun r hr e => (e3 r (by omega) e).tr (g4 r hr e), g5, g6, g7⟩
end P1
