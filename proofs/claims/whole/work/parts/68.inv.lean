/-! ===== the invariant of class and reference ===== -/
section U18
variable {h h1 : Hp} {g g' g1 : Nat → Nat → Int32} {w w' : Nat → Int32} {A B L S c d k n l y j m q s i F r z E N M M' : Nat} {v x a b : Int32} {f p : Nat → Nat} {P Q : Nat → Int32}
/-- what a law works on -/
def SCW (h : Hp) (r : Nat) : Prop := ∃ L S, 765 < L ∧ LWs h L S ∧ (r = L + 4 ∨ r = L + 5)
/-- the rows behind the first ones are the same, but for what laws work on -/
def FZ (h : Hp) (g g' : Nat → Nat → Int32) : Prop := ∀ r, 765 < r → ¬ SCW h r → g' r = g r
theorem FZ.rf : FZ h g g := fun _ _ _ => rfl
theorem FZ.tr (x : FZ h g g1) (y : FZ h g1 g') : FZ h g g' := fun r h1 h2 => (y r h1 h2).trans (x r h1 h2)
theorem scr_no (t : LWs h L S) (hi : i < 4) : ¬ SCW h (L + i) := by
  rintro ⟨L', S', -, t', e⟩
  obtain ⟨a0, -, a1, a2, a3, a4, a5⟩ := t
  obtain ⟨b0, -, c1, c2, c3, c4, c5⟩ := t'
  have x : ∀ k, 1 ≤ k → k ≤ 5 → hS h (L + k) = 20 := fun k h1 h2 => by
    have : k = 1 ∨ k = 2 ∨ k = 3 ∨ k = 4 ∨ k = 5 := by omega
    rcases this with rfl | rfl | rfl | rfl | rfl
    · exact a1.1
    · exact a2.1
    · exact a3.1
    · exact a4.1
    · exact a5.1
  have y : ∀ k, 1 ≤ k → k ≤ 5 → hS h (L' + k) = 20 := fun k h1 h2 => by
    have : k = 1 ∨ k = 2 ∨ k = 3 ∨ k = 4 ∨ k = 5 := by omega
    rcases this with rfl | rfl | rfl | rfl | rfl
    · exact c1.1
    · exact c2.1
    · exact c3.1
    · exact c4.1
    · exact c5.1
  have no : ∀ r, hS h r = 6 → hS h r = 20 → False := fun r h1 h2 => by rw [h1] at h2; exact absurd h2 (by decide)
  rcases e with e | e
  · by_cases q : i = 0
    · subst q
      exact no L a0 (by have := y 4 (by decide) (by decide); rw [← e, Nat.add_zero] at this; exact this)
    · have e2 : L' + (4 - i) = L := by omega
      by_cases q4 : i = 4
      · omega
      · exact no L a0 (by rw [← e2]; exact y _ (by omega) (by omega))
  · have e2 : L' + (5 - i) = L := by omega
    exact no L a0 (by rw [← e2]; exact y _ (by omega) (by omega))
theorem LR.fz (R : LR h g A w) (x : FZ h g g') : LR h g' A w := by
  rcases R with z | ⟨z1, z2, z3, S, z4, z5⟩
  · exact Or.inl z
  · obtain ⟨G1, G2, G3, G4, G5, G6⟩ := z5
    have X : ∀ k, k < 4 → g' (hR h A 8 + k) = g (hR h A 8 + k) := fun k hk => x _ (by omega) (scr_no z4 hk)
    have X0 := X 0 (by decide)
    rw [Nat.add_zero] at X0
    exact Or.inr ⟨z1, z2, z3, S, z4, by rw [X0]; exact G1, by rw [X0]; exact G2, fun n hn => by rw [X 1 (by decide), X 2 (by decide)]; exact G3 n hn, fun i hi => by rw [X 3 (by decide)]; exact G4 i hi, by rw [X0]; exact G5, G6⟩
theorem FH.fz (x : FH h A g g') (Lr : LR h g A w) (hA2 : A + 45 ≤ 765) : FZ h g g' := fun r hr hs => x r (by omega) fun hL => by
  rcases Lr with ⟨-, z⟩ | ⟨-, -, -, S, z4, -⟩
  · omega
  · exact ⟨fun e => hs ⟨_, S, hL, z4, Or.inl e⟩, fun e => hs ⟨_, S, hL, z4, Or.inr e⟩⟩
theorem FA.fz (x : FA A g g') (hA2 : A + 45 ≤ 765) : FZ h g g' := fun r hr _ => x r (by omega)
theorem FP.fh (x : FP h A g g') : FH h A g g' := fun r h1 h2 => x r (by omega) h2
theorem FS.fh (x : FS h A g g') : FH h A g g' := fun r _ h2 => x r h2
/-- the Land at A holds w, which is as it should be -/
def HELD (M : Nat) (h : Hp) (g : Nat → Nat → Int32) (A : Nat) (w : Nat → Int32) : Prop := WF M w ∧ RLa g A w ∧ LR h g A w
theorem HELD.mono (H : HELD M h g A w) (hM : M ≤ M') : HELD M' h g A w := ⟨H.1.mono hM, H.2⟩
theorem HELD.fz (H : HELD M h g A w) (x : FZ h g g') (y : ∀ r, A ≤ r → r ≤ A + 45 → r ≠ A + 5 → g' r = g r) : HELD M h g' A w := ⟨H.1, H.2.1.ex H.1.2.1 y, H.2.2.fz x⟩
theorem HELD.cg (H : HELD M h g A w) (e : ∀ k, k < 1454 → w' k = w k) : HELD M h g A w' := ⟨H.1.cg e, H.2.1.cg H.1.2.1 e, H.2.2.cg e⟩
theorem LWs.r8 (t : LWs h L S) (hL : 765 < L) (hA9 : A ≤ 765) : LWs (sR h A 8 n) L S := by
  obtain ⟨x1, ⟨x2, x3, x4, x5, x6⟩, x7⟩ := t
  have ro : ∀ k, hR (sR h A 8 n) L k = hR h L k := fun k => if_neg fun z => by have := z.1; omega
  exact ⟨x1, ⟨(ro 1).trans x2, (ro 2).trans x3, (ro 3).trans x4, (ro 4).trans x5, (ro 5).trans x6⟩, x7⟩
theorem LR.r8 (R : LR h g A w) (e : A ≠ B) (hB : B ≤ 765) : LR (sR h B 8 n) g A w := by
  have ro : hR (sR h B 8 n) A 8 = hR h A 8 := if_neg fun z => e z.1
  rcases R with ⟨z1, z2⟩ | ⟨z1, z2, z3, S, z4, z5⟩
  · exact Or.inl ⟨z1, ro.trans z2⟩
  · exact Or.inr ⟨z1, by rw [ro]; exact z2, z3, S, by rw [ro]; exact z4.r8 z2 hB, by rw [ro]; exact z5⟩
theorem HELD.r8 (H : HELD M h g A w) (e : A ≠ B) (hB : B ≤ 765) : HELD M (sR h B 8 n) g A w := ⟨H.1, H.2.1, H.2.2.r8 e hB⟩
/-- the month i that is remembered -/
def wmo (g : Nat → Nat → Int32) (i : Nat) : Nat → Int32 := fun k => g 760 (1454 * i + k)
def la (c : Nat) : Nat := 17 + 46 * c
def MEM (M : Nat) (h : Hp) (g : Nat → Nat → Int32) : Prop := ∃ N R, g 15 1 = nI N ∧ N < 12 ∧ g 15 2 = nI R ∧ g 755 7 = nI R ∧ R ≤ 12 ∧ ∀ i, i < R → HELD M h g (la ((N + 12 - i) % 12)) (wmo g (R - 1 - i))
def IMG (M : Nat) (h : Hp) (g : Nat → Nat → Int32) : Prop := (g 1 10 = 0 ∧ g 755 6 = 0) ∨ (g 1 10 = 1 ∧ g 755 6 = 1 ∧ HELD M h g 707 (g 757))
def TAP (g : Nat → Nat → Int32) : Prop := ∃ T, g 2 1 = nI T ∧ g 755 9 = nI T ∧ T ≤ 400 ∧ ∀ k, k < T → g 3 k = g 761 k ∧ -128 ≤ (g 761 k).toInt ∧ (g 761 k).toInt ≤ 127
/-- of every Land the law's cells have been made -/
def LBD (h : Hp) : Prop := ∀ c, c < 16 → hR h (la c) 8 + 5 ≤ hN h
/-- the most lines of a text -/
def MOS (g : Nat → Nat → Int32) : Prop := g 6 1 = 14 ∧ g 11 1 = 12
theorem MOS.cg (m : MOS g) (e1 : g' 6 = g 6) (e2 : g' 11 = g 11) : MOS g' := ⟨by rw [e1]; exact m.1, by rw [e2]; exact m.2⟩
def REST (M : Nat) (h : Hp) (g : Nat → Nat → Int32) : Prop := IMG M h g ∧ MEM M h g ∧ TAP g ∧ g 1 11 = g 755 14 ∧ LBD h ∧ MOS g
def INV (M : Nat) (h : Hp) (g : Nat → Nat → Int32) : Prop := TS h ∧ HELD M h g 569 (g 756) ∧ REST M h g
theorem TS.td (t : TS h) : TSr h ∧ TSx h ∧ TSt h := ⟨t.2.2.2.2.2.2.2.2.2.2.1, t.2.1, t.2.2.1⟩
theorem TS.ld (t : TS h) (hc : c < 16) : LDs h (la c) := by
  obtain ⟨-, -, -, -, -, ⟨-, -, -, m⟩, a1, a2, a3, a4, -⟩ := t
  by_cases e : c < 12
  · exact (m c e).2
  · have : c = 12 ∨ c = 13 ∨ c = 14 ∨ c = 15 := by omega
    rcases this with rfl | rfl | rfl | rfl
    · exact a1
    · exact a2
    · exact a3
    · exact a4
/-- rows that hold what neither the present nor trials touch -/
def KPT (r : Nat) : Prop := r = 3 ∨ r = 6 ∨ r = 11 ∨ (15 ≤ r ∧ r < 569) ∨ (707 ≤ r ∧ r < 753) ∨ r = 757 ∨ r = 760 ∨ r = 761
theorem REST.fr (R : REST M h g) (hM : M ≤ M') (x : ∀ r, KPT r → g' r = g r) (c1 : g' 1 10 = g 1 10) (c2 : g' 1 11 = g' 755 14) (c3 : g' 755 6 = g 755 6) (c4 : g' 755 7 = g 755 7) (c5 : g' 755 9 = g' 2 1) (c6 : g' 2 1 = g 2 1 ∨ g' 2 1 = 0) (z : FZ h g g') : REST M' h g' := by
  obtain ⟨I, ⟨N, R, m1, m2, m3, m4, m5, m6⟩, ⟨T, t1, t2, t3, t4⟩, -, lb, mo⟩ := R
  refine ⟨?_, ⟨N, R, ?_, m2, ?_, ?_, m5, fun i hi => ?_⟩, ?_, c2, lb, mo.cg (x 6 (by unfold KPT; omega)) (x 11 (by unfold KPT; omega))⟩
  · rcases I with ⟨i1, i2⟩ | ⟨i1, i2, i3⟩
    · exact Or.inl ⟨c1.trans i1, c3.trans i2⟩
    · refine Or.inr ⟨c1.trans i1, c3.trans i2, ?_⟩
      rw [x 757 (by unfold KPT; omega)]
      exact (i3.mono hM).fz z fun r h1 h2 _ => x r (by unfold KPT; omega)
  · rw [x 15 (by unfold KPT; omega)]; exact m1
  · rw [x 15 (by unfold KPT; omega)]; exact m3
  · exact c4.trans m4
  · have e : wmo g' (R - 1 - i) = wmo g (R - 1 - i) := funext fun k => by unfold wmo; rw [x 760 (by unfold KPT; omega)]
    rw [e]
    have := Nat.mod_lt (N + 12 - i) (show 0 < 12 by decide)
    exact ((m6 i hi).mono hM).fz z fun r h1 h2 _ => x r (by unfold KPT la at *; omega)
  · rcases c6 with c6 | c6
    · exact ⟨T, c6.trans t1, (c5.trans c6).trans t1, t3, fun k hk => by rw [x 3 (by unfold KPT; omega), x 761 (by unfold KPT; omega)]; exact t4 k hk⟩
    · exact ⟨0, c6, c5.trans c6, by decide, fun k hk => absurd hk (Nat.not_lt_zero _)⟩
theorem IMG.r8 (I : IMG M h g) (e : B ≠ 707) (hB : B ≤ 765) : IMG M (sR h B 8 n) g := I.imp id fun z => ⟨z.1, z.2.1, z.2.2.r8 (fun q => e q.symm) hB⟩
/-- a trial Land (or the present) may be given another law -/
theorem REST.r8 (R : REST M h g) (hc : 12 ≤ c) (hc2 : c < 15) (hn : n + 5 ≤ hN h) : REST M (sR h (la c) 8 n) g := by
  obtain ⟨I, ⟨N, R, m1, m2, m3, m4, m5, m6⟩, T, W, lb, mo⟩ := R
  refine ⟨I.r8 (by unfold la; omega) (by unfold la; omega), ⟨N, R, m1, m2, m3, m4, m5, fun i hi => ?_⟩, T, W, fun c' hc' => ?_, mo⟩
  · have := Nat.mod_lt (N + 12 - i) (show 0 < 12 by decide)
    exact (m6 i hi).r8 (by unfold la; omega) (by unfold la; omega)
  · by_cases e : c' = c
    · subst e
      have : hR (sR h (la c') 8 n) (la c') 8 = n := if_pos ⟨rfl, rfl⟩
      rw [this]; exact hn
    · have : hR (sR h (la c) 8 n) (la c') 8 = hR h (la c') 8 := if_neg fun z => by have := z.1; unfold la at this; omega
      rw [this]; exact lb c' hc'
theorem TS.sR8 (t : TS h) (hc : c < 16) : TS (sR h (la c) 8 n) := t.ss (SS.sR8 (t.ld hc).1)
/-- a new cell that nothing points to -/
theorem LWs.grow {z1 z2 z3 : Nat} (t : LWs h L S) (hLn : L + 5 ≤ hN h) : LWs (hA h z1 z2 z3) L S := by
  obtain ⟨x1, ⟨x2, x3, x4, x5, x6⟩, x7, x8, x9, x10, x11⟩ := t
  have S1 : ∀ r, r ≤ hN h → hS (hA h z1 z2 z3) r = hS h r := fun r hr => if_neg (by omega)
  have L1 : ∀ r, r ≤ hN h → hL (hA h z1 z2 z3) r = hL h r := fun r hr => if_neg (by omega)
  have R1 : ∀ r k, r ≤ hN h → hR (hA h z1 z2 z3) r k = hR h r k := fun r k hr => if_neg (by omega)
  have as : ∀ {r s l}, r ≤ hN h → AS h r s l → AS (hA h z1 z2 z3) r s l := fun hr q => ⟨(S1 _ hr).trans q.1, (L1 _ hr).trans q.2⟩
  exact ⟨(S1 _ (by omega)).trans x1, ⟨(R1 _ _ (by omega)).trans x2, (R1 _ _ (by omega)).trans x3, (R1 _ _ (by omega)).trans x4, (R1 _ _ (by omega)).trans x5, (R1 _ _ (by omega)).trans x6⟩, as (by omega) x7, as (by omega) x8, as (by omega) x9, as (by omega) x10, as (by omega) x11⟩
theorem LR.grow {z1 z2 z3 : Nat} (R : LR h g A w) (hA9 : A ≤ hN h) (hL : hR h A 8 + 5 ≤ hN h) (x : ∀ r, r ≤ hN h → g' r = g r) : LR (hA h z1 z2 z3) g' A w := by
  have ro : hR (hA h z1 z2 z3) A 8 = hR h A 8 := if_neg (by omega)
  rcases R with ⟨q1, q2⟩ | ⟨q1, q2, q3, S, q4, q5⟩
  · exact Or.inl ⟨q1, ro.trans q2⟩
  · refine Or.inr ⟨q1, by rw [ro]; exact q2, q3, S, by rw [ro]; exact q4.grow hL, ?_⟩
    rw [ro]
    obtain ⟨G1, G2, G3, G4, G5, G6⟩ := q5
    exact ⟨by rw [x _ (by omega)]; exact G1, by rw [x _ (by omega)]; exact G2, fun n hn => by rw [x _ (by omega), x _ (by omega)]; exact G3 n hn, fun i hi => by rw [x _ (by omega)]; exact G4 i hi, by rw [x _ (by omega)]; exact G5, G6⟩
theorem HELD.grow {z1 z2 z3 : Nat} (H : HELD M h g A w) (t : TS h) (hA2 : A + 45 ≤ 765) (hL : hR h A 8 + 5 ≤ hN h) (x : ∀ r, r ≤ hN h → g' r = g r) : HELD M (hA h z1 z2 z3) g' A w := by
  have n := t.1
  exact ⟨H.1, H.2.1.ex H.1.2.1 fun r _ _ _ => x r (by omega), H.2.2.grow (by omega) hL x⟩
theorem INV.grow {z1 z2 z3 : Nat} (I : INV M h g) : INV M (hA h z1 z2 z3) (rs2 g (hN h + 1) fun _ => 0) := by
  obtain ⟨t, H, I, ⟨N, R, m1, m2, m3, m4, m5, m6⟩, ⟨T, t1, t2, t3, t4⟩, W, lb, mo⟩ := I
  have n := t.1
  have x : ∀ r, r ≤ hN h → rs2 g (hN h + 1) (fun _ => 0) r = g r := fun r hr => rs_ne (by omega)
  refine ⟨t.ss (SS.hA n), ?_, ?_, ⟨N, R, ?_, m2, ?_, ?_, m5, fun i hi => ?_⟩, ⟨T, ?_, ?_, t3, fun k hk => ?_⟩, ?_, fun c hc => ?_, mo.cg (x 6 (by omega)) (x 11 (by omega))⟩
  · rw [x 756 (by omega)]; exact H.grow t (by decide) (lb 12 (by decide)) x
  · rcases I with ⟨i1, i2⟩ | ⟨i1, i2, i3⟩
    · exact Or.inl ⟨by rw [x 1 (by omega)]; exact i1, by rw [x 755 (by omega)]; exact i2⟩
    · exact Or.inr ⟨by rw [x 1 (by omega)]; exact i1, by rw [x 755 (by omega)]; exact i2, by rw [x 757 (by omega)]; exact i3.grow t (by decide) (lb 15 (by decide)) x⟩
  · rw [x 15 (by omega)]; exact m1
  · rw [x 15 (by omega)]; exact m3
  · rw [x 755 (by omega)]; exact m4
  · have e : wmo (rs2 g (hN h + 1) fun _ => 0) (R - 1 - i) = wmo g (R - 1 - i) := funext fun k => by unfold wmo; rw [x 760 (by omega)]
    have := Nat.mod_lt (N + 12 - i) (show 0 < 12 by decide)
    rw [e]
    exact (m6 i hi).grow t (by unfold la; omega) (lb _ (by omega)) x
  · rw [x 2 (by omega)]; exact t1
  · rw [x 755 (by omega)]; exact t2
  · rw [x 3 (by omega), x 761 (by omega)]; exact t4 k hk
  · rw [x 1 (by omega), x 755 (by omega)]; exact W
  · have : hR (hA h z1 z2 z3) (la c) 8 = hR h (la c) 8 := if_neg (by unfold la; omega)
    rw [this]
    have := lb c hc
    show _ ≤ hN h + 1
    omega
/-- the long of the law is none of it -/
theorem INV.lj {u : Int64} (I : INV M h g) : INV M (sJ h 765 0 u) g := I
theorem INV.mono (I : INV M h g) (hM : M ≤ M') : INV M' h g := by
  obtain ⟨t, H, I, ⟨N, R, m1, m2, m3, m4, m5, m6⟩, T, W, lb⟩ := I
  exact ⟨t, H.mono hM, I.imp id (fun z => ⟨z.1, z.2.1, z.2.2.mono hM⟩), ⟨N, R, m1, m2, m3, m4, m5, fun i hi => (m6 i hi).mono hM⟩, T, W, lb⟩
/-- fresh objects have it -/
theorem INV.start {H : Hp} (n : hN H = 765) (a : WA H) (m : MD H 755) (b : BL H 765 22 1) : INV 0 H (hI H) := by
  have t := TS.start n a m b
  obtain ⟨w1, w2, -, ⟨t1, t2, t3, -⟩, ⟨-, l2, -⟩, ⟨-, v2, -⟩, ⟨k1, k2, k3, k4, k5, k6⟩, L1, L2, L3, L4, -⟩ := a
  obtain ⟨r1, r2, r3, r4, r5, r6, r7, r8, r9, r10, r11, ⟨s1, s2, s3⟩, s4, -⟩ := m
  have w0 : ∀ k, hI H 756 k = if k = 5 then 1 else 0 := s3
  have z0 : ∀ k, k ≠ 5 → hI H 756 k = 0 := fun k hk => by rw [w0, if_neg hk]
  have c0 : nc (hI H 756) = 0 := by unfold nc; rw [z0 0 (by decide)]; decide
  have c1 : nh (hI H 756) = 0 := by unfold nh; rw [z0 1 (by decide)]; decide
  have c2 : nd (hI H 756) = 0 := by unfold nd; rw [z0 10 (by decide)]; decide
  have lb : LBD H := fun c hc => by
    have q : hR H (la c) 8 = 0 := by
      by_cases e : c < 12
      · exact (k6 c e).2.2.2.2.1 8 (Or.inr (by decide))
      · have : c = 12 ∨ c = 13 ∨ c = 14 ∨ c = 15 := by omega
        rcases this with rfl | rfl | rfl | rfl
        · exact L1.2.2.2.1 8 (Or.inr (by decide))
        · exact L2.2.2.2.1 8 (Or.inr (by decide))
        · exact L3.2.2.2.1 8 (Or.inr (by decide))
        · exact L4.2.2.2.1 8 (Or.inr (by decide))
    rw [q, n]; decide
  refine ⟨t, ⟨⟨⟨?_, ?_, ?_⟩, ⟨?_, ?_, ?_⟩, ⟨0, z0 2 (by decide), by decide⟩, ⟨0, z0 4 (by decide), by decide⟩, Or.inl (z0 3 (by decide)), ?_, ?_, ?_, ?_, ?_⟩, ⟨⟨?_, ?_, ?_, ?_, ?_, ?_, ?_, ?_, ?_, ?_⟩, ?_, ?_, ?_, ?_⟩, Or.inl ⟨z0 3 (by decide), ?_⟩⟩, Or.inl ⟨?_, ?_⟩, ⟨0, 0, k2 1, by decide, k2 2, ?_, by decide, fun i hi => absurd hi (Nat.not_lt_zero _)⟩, ⟨0, t2 1, ?_, by decide, fun k hk => absurd hk (Nat.not_lt_zero _)⟩, ?_, lb, ⟨(l2 1).trans rfl, (v2 1).trans rfl⟩⟩
  · rw [c0]; exact z0 0 (by decide)
  · rw [c1]; exact z0 1 (by decide)
  · rw [c2]; exact z0 10 (by decide)
  · rw [c0]; decide
  · rw [c1]; decide
  · rw [c2]; decide
  · rw [c0]; exact fun c hc => absurd hc (Nat.not_lt_zero _)
  · rw [c1]; exact fun c hc => absurd hc (Nat.not_lt_zero _)
  · exact fun k _ _ j _ => z0 _ (by omega)
  · rw [c2]; exact fun c hc => absurd hc (Nat.not_lt_zero _)
  · exact fun y hy => ⟨0, z0 _ (by omega), by decide⟩
  all_goals try (rw [L1.2.1, w0]; done)
  · exact (L1.2.1 0).trans (z0 0 (by decide)).symm
  · exact (L1.2.1 1).trans (z0 1 (by decide)).symm
  · exact (L1.2.1 2).trans (z0 10 (by decide)).symm
  · exact (L1.2.1 9).trans (z0 2 (by decide)).symm
  · exact (L1.2.1 10).trans (z0 4 (by decide)).symm
  · exact (L1.2.1 11).trans (w0 5).symm
  · exact (L1.2.1 12).trans (z0 6 (by decide)).symm
  · exact (L1.2.1 13).trans (z0 7 (by decide)).symm
  · exact (L1.2.1 14).trans (z0 8 (by decide)).symm
  · exact (L1.2.1 15).trans (z0 9 (by decide)).symm
  · rw [c0]; exact fun c hc => absurd hc (Nat.not_lt_zero _)
  · rw [c1]; exact fun c hc => absurd hc (Nat.not_lt_zero _)
  · rw [c2]; exact fun c hc => absurd hc (Nat.not_lt_zero _)
  · intro y hy
    rw [z0 _ (by omega)]
    exact L1.2.2.2.2.2.2.2.1.2.2.1 y
  · exact L1.2.2.2.1 8 (Or.inr (by decide))
  · exact w2 10
  · exact r2 6
  · exact r2 7
  · exact r2 9
  · rw [w2, r2]; rfl
end U18
