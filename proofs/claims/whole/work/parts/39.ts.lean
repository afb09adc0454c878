/-! ===== the structure (shapes, lengths, references) that no call changes (wip/whole/gen/p3.py) ===== -/
section P3
def AS (h : Hp) (r s l : Nat) : Prop := hS h r = s ∧ hL h r = l
/-- a Land at a, its structure -/
def LDs (h : Hp) (a : Nat) : Prop := hS h a = 4 ∧ (hR h a 3 = a + 1 ∧ hR h a 4 = a + 2 ∧ hR h a 5 = a + 3 ∧ hR h a 6 = a + 4 ∧ hR h a 7 = a + 5) ∧ AS h (a + 1) 23 8 ∧ AS h (a + 2) 24 8 ∧ AS h (a + 3) 25 8 ∧ AS h (a + 4) 20 30 ∧ AS h (a + 5) 20 30 ∧
  (∀ c, c < 8 → hR h (a + 1) c = a + 6 + 2 * c ∧ hS h (a + 6 + 2 * c) = 1 ∧ hR h (a + 6 + 2 * c) 6 = a + 6 + 2 * c + 1 ∧ AS h (a + 6 + 2 * c + 1) 20 30) ∧
  (∀ c, c < 8 → hR h (a + 2) c = a + 22 + 2 * c ∧ hS h (a + 22 + 2 * c) = 3 ∧ hR h (a + 22 + 2 * c) 5 = a + 22 + 2 * c + 1 ∧ AS h (a + 22 + 2 * c + 1) 20 30) ∧
  ∀ c, c < 8 → hR h (a + 3) c = a + 38 + c ∧ hS h (a + 38 + c) = 2
def TSt (h : Hp) : Prop := hS h 2 = 9 ∧ (hR h 2 0 = 3 ∧ hR h 2 2 = 4 ∧ hR h 2 3 = 5) ∧ AS h 3 21 400 ∧ AS h 4 20 401 ∧ AS h 5 20 401
def TSl (h : Hp) : Prop := hS h 6 = 5 ∧ (hR h 6 0 = 2 ∧ hR h 6 3 = 7 ∧ hR h 6 4 = 8 ∧ hR h 6 5 = 9 ∧ hR h 6 6 = 10) ∧ AS h 7 20 14 ∧ AS h 8 20 14 ∧ AS h 9 20 14 ∧ AS h 10 20 14
def TSw (h : Hp) : Prop := hS h 11 = 7 ∧ (hR h 11 0 = 2 ∧ hR h 11 3 = 12 ∧ hR h 11 4 = 13 ∧ hR h 11 5 = 14) ∧ AS h 12 20 12 ∧ AS h 13 20 12 ∧ AS h 14 20 400
def TSm (h : Hp) : Prop := hS h 15 = 8 ∧ hR h 15 0 = 16 ∧ AS h 16 26 12 ∧ ∀ c, c < 12 → hR h 16 c = 17 + 46 * c ∧ LDs h (17 + 46 * c)
def TSx (h : Hp) : Prop := hS h 1 = 10 ∧ (hR h 1 0 = 2 ∧ hR h 1 1 = 6 ∧ hR h 1 2 = 11 ∧ hR h 1 3 = 15 ∧ hR h 1 4 = 569 ∧ hR h 1 5 = 615 ∧ hR h 1 6 = 661 ∧ hR h 1 7 = 707 ∧ hR h 1 8 = 753 ∧ hR h 1 9 = 754) ∧ AS h 753 20 8 ∧ AS h 754 20 30
def TSr (h : Hp) : Prop := hS h 755 = 11 ∧ (hR h 755 1 = 756 ∧ hR h 755 2 = 757 ∧ hR h 755 3 = 758 ∧ hR h 755 4 = 759 ∧ hR h 755 5 = 760 ∧ hR h 755 8 = 761 ∧ hR h 755 15 = 762 ∧ hR h 755 17 = 763 ∧ hR h 755 19 = 764) ∧
  AS h 756 20 2291 ∧ AS h 757 20 1454 ∧ AS h 758 20 1454 ∧ AS h 759 20 617 ∧ AS h 760 20 17448 ∧ AS h 761 21 400 ∧ AS h 762 20 5 ∧ AS h 763 20 400 ∧ AS h 764 20 8
def TS (h : Hp) : Prop := 765 ≤ hN h ∧ TSx h ∧ TSt h ∧ TSl h ∧ TSw h ∧ TSm h ∧ LDs h 569 ∧ LDs h 615 ∧ LDs h 661 ∧ LDs h 707 ∧ TSr h ∧ AS h 765 22 1
theorem BL.as {h : Hp} {r s l : Nat} (x : BL h r s l) : AS h r s l := ⟨x.1, x.2.1⟩
theorem LN.ds {h : Hp} {a : Nat} (x : LN h a) : LDs h a := by
  obtain ⟨x1, -, x3, -, x5, x6, x7, x8, x9, xc, xh, xd⟩ := x
  exact ⟨x1, x3, x5, x6, x7, x8.as, x9.as, fun c hc => ⟨(xc c hc).1, (xc c hc).2.1, (xc c hc).2.2.1, (xc c hc).2.2.2.2.as⟩, fun c hc => ⟨(xh c hc).1, (xh c hc).2.1, (xh c hc).2.2.1, (xh c hc).2.2.2.2.as⟩, fun c hc => ⟨(xd c hc).1, (xd c hc).2.1⟩⟩
theorem TS.start {H : Hp} (n : hN H = 765) (w : WA H) (m : MD H 755) (b : BL H 765 22 1) : TS H := by
  obtain ⟨w1, -, w3, ⟨t1, -, t3, t4, t5, t6, t7, t8⟩, ⟨l1, -, l3, l4, l5, l6, l7, l8, l9, l10, l11⟩, ⟨v1, -, v3, v4, v5, v6, v7, v8, v9⟩, ⟨m1, -, m3, m4, m5, m6⟩, a1, a2, a3, a4, b1, b2⟩ := w
  obtain ⟨r1, -, r3, r4, r5, r6, r7, r8, r9, r10, r11, ⟨s1, s2, -⟩, s3, s4, s5, s6, s7, s8, s9, s10⟩ := m
  exact ⟨by omega, ⟨w1, w3, b1.as, b2.as⟩, ⟨t1, ⟨t3, t4, t5⟩, t6.as, t7.as, t8.as⟩, ⟨l1, ⟨l3, l4, l5, l6, l7⟩, l8.as, l9.as, l10.as, l11.as⟩, ⟨v1, ⟨v3, v4, v5, v6⟩, v7.as, v8.as, v9.as⟩, ⟨m1, m3, ⟨m4, m5⟩, fun c hc => ⟨(m6 c hc).1, (m6 c hc).2.ds⟩⟩, a1.ds, a2.ds, a3.ds, a4.ds,
    ⟨r1, ⟨r3, r4, r5, r6, r7, r8, r9, r10, r11⟩, ⟨s1, s2⟩, s3.as, s4.as, s5.as, s6.as, s7.as, s8.as, s9.as, s10.as⟩, b.as⟩
/-- the structure of the cells up to 765 is the same -/
def SS (h h' : Hp) : Prop := hN h ≤ hN h' ∧ ∀ r, r ≤ 765 → hS h' r = hS h r ∧ hL h' r = hL h r ∧ ∀ k, (hS h r = 4 → k ≠ 8) → hR h' r k = hR h r k
theorem SS.rf {h : Hp} : SS h h := ⟨Nat.le_refl _, fun _ _ => ⟨rfl, rfl, fun _ _ => rfl⟩⟩
theorem SS.tr {h h1 h2 : Hp} (x : SS h h1) (y : SS h1 h2) : SS h h2 := ⟨Nat.le_trans x.1 y.1, fun r hr => ⟨(y.2 r hr).1.trans (x.2 r hr).1, (y.2 r hr).2.1.trans (x.2 r hr).2.1, fun k hk => ((y.2 r hr).2.2 k (by rw [(x.2 r hr).1]; exact hk)).trans ((x.2 r hr).2.2 k hk)⟩⟩
theorem AS.ss {h h' : Hp} {r s l : Nat} (x : AS h r s l) (y : SS h h') (hr : r ≤ 765) : AS h' r s l := ⟨(y.2 r hr).1.trans x.1, (y.2 r hr).2.1.trans x.2⟩
theorem ss_S {h h' : Hp} {r s : Nat} (y : SS h h') (hr : r ≤ 765) (x : hS h r = s) : hS h' r = s := (y.2 r hr).1.trans x
theorem ss_R {h h' : Hp} {r k s v : Nat} (y : SS h h') (hr : r ≤ 765) (z : hS h r = s) (e : s ≠ 4 ∨ k ≠ 8) (x : hR h r k = v) : hR h' r k = v :=
  ((y.2 r hr).2.2 k (fun q => by rcases e with e | e; · exact absurd (z.symm.trans q) e
                                 · exact e)).trans x
theorem LDs.ss {h h' : Hp} {a : Nat} (x : LDs h a) (y : SS h h') (ha : a + 45 ≤ 765) : LDs h' a := by
  obtain ⟨x1, ⟨p3, p4, p5, p6, p7⟩, u1, u2, u3, u4, u5, xc, xh, xd⟩ := x
  have R : ∀ k v, k ≠ 8 → hR h a k = v → hR h' a k = v := fun k v e z => ss_R y (by omega) x1 (Or.inr e) z
  exact ⟨ss_S y (by omega) x1, ⟨R _ _ (by decide) p3, R _ _ (by decide) p4, R _ _ (by decide) p5, R _ _ (by decide) p6, R _ _ (by decide) p7⟩, u1.ss y (by omega), u2.ss y (by omega), u3.ss y (by omega), u4.ss y (by omega), u5.ss y (by omega),
    fun c hc => ⟨ss_R y (by omega) u1.1 (Or.inl (by decide)) (xc c hc).1, ss_S y (by omega) (xc c hc).2.1, ss_R y (by omega) (xc c hc).2.1 (Or.inl (by decide)) (xc c hc).2.2.1, (xc c hc).2.2.2.ss y (by omega)⟩,
    fun c hc => ⟨ss_R y (by omega) u2.1 (Or.inl (by decide)) (xh c hc).1, ss_S y (by omega) (xh c hc).2.1, ss_R y (by omega) (xh c hc).2.1 (Or.inl (by decide)) (xh c hc).2.2.1, (xh c hc).2.2.2.ss y (by omega)⟩,
    fun c hc => ⟨ss_R y (by omega) u3.1 (Or.inl (by decide)) (xd c hc).1, ss_S y (by omega) (xd c hc).2⟩⟩
theorem TS.ss {h h' : Hp} (x : TS h) (y : SS h h') : TS h' := by
  obtain ⟨n, ⟨w1, ⟨q0, q1, q2, q3, q4, q5, q6, q7, q8, q9⟩, b1, b2⟩, ⟨t1, ⟨t3, t4, t5⟩, t6, t7, t8⟩, ⟨l1, ⟨l3, l4, l5, l6, l7⟩, l8, l9, l10, l11⟩, ⟨v1, ⟨v3, v4, v5, v6⟩, v7, v8, v9⟩, ⟨m1, m3, m4, m6⟩, a1, a2, a3, a4, ⟨r1, ⟨r3, r4, r5, r6, r7, r8, r9, r10, r11⟩, s1, s3, s4, s5, s6, s7, s8, s9, s10⟩, b⟩ := x
  have R : ∀ {r k s v : Nat}, r ≤ 765 → hS h r = s → s ≠ 4 → hR h r k = v → hR h' r k = v := fun hr z e x => ss_R y hr z (Or.inl e) x
  refine ⟨Nat.le_trans n y.1, ⟨ss_S y (by decide) w1, ⟨R (by decide) w1 (by decide) q0, R (by decide) w1 (by decide) q1, R (by decide) w1 (by decide) q2, R (by decide) w1 (by decide) q3, R (by decide) w1 (by decide) q4, R (by decide) w1 (by decide) q5, R (by decide) w1 (by decide) q6, R (by decide) w1 (by decide) q7, R (by decide) w1 (by decide) q8, R (by decide) w1 (by decide) q9⟩, b1.ss y (by decide), b2.ss y (by decide)⟩,
    ⟨ss_S y (by decide) t1, ⟨R (by decide) t1 (by decide) t3, R (by decide) t1 (by decide) t4, R (by decide) t1 (by decide) t5⟩, t6.ss y (by decide), t7.ss y (by decide), t8.ss y (by decide)⟩,
    ⟨ss_S y (by decide) l1, ⟨R (by decide) l1 (by decide) l3, R (by decide) l1 (by decide) l4, R (by decide) l1 (by decide) l5, R (by decide) l1 (by decide) l6, R (by decide) l1 (by decide) l7⟩, l8.ss y (by decide), l9.ss y (by decide), l10.ss y (by decide), l11.ss y (by decide)⟩,
    ⟨ss_S y (by decide) v1, ⟨R (by decide) v1 (by decide) v3, R (by decide) v1 (by decide) v4, R (by decide) v1 (by decide) v5, R (by decide) v1 (by decide) v6⟩, v7.ss y (by decide), v8.ss y (by decide), v9.ss y (by decide)⟩,
    ⟨ss_S y (by decide) m1, R (by decide) m1 (by decide) m3, m4.ss y (by decide), fun c hc => ⟨R (by decide) m4.1 (by decide) (m6 c hc).1, (m6 c hc).2.ss y (by omega)⟩⟩, a1.ss y (by decide), a2.ss y (by decide), a3.ss y (by decide), a4.ss y (by decide),
    ⟨ss_S y (by decide) r1, ⟨R (by decide) r1 (by decide) r3, R (by decide) r1 (by decide) r4, R (by decide) r1 (by decide) r5, R (by decide) r1 (by decide) r6, R (by decide) r1 (by decide) r7, R (by decide) r1 (by decide) r8, R (by decide) r1 (by decide) r9, R (by decide) r1 (by decide) r10, R (by decide) r1 (by decide) r11⟩, s1.ss y (by decide), s3.ss y (by decide), s4.ss y (by decide), s5.ss y (by decide), s6.ss y (by decide), s7.ss y (by decide), s8.ss y (by decide), s9.ss y (by decide), s10.ss y (by decide)⟩, b.ss y (by decide)⟩
theorem SS.sI {h : Hp} {a k : Nat} {v : Int32} : SS h (sI h a k v) := SS.rf
theorem SS.sJ {h : Hp} {a k : Nat} {v : Int64} : SS h (sJ h a k v) := SS.rf
theorem SS.cI {h : Hp} {a : Nat} {g : Nat → Int32} : SS h (cI h a g) := SS.rf
theorem SS.hA {h : Hp} {s l z : Nat} (n : 765 ≤ hN h) : SS h (hA h s l z) :=
  ⟨Nat.le_succ _, fun r hr => ⟨if_neg (by omega), if_neg (by omega), fun k _ => if_neg (by omega)⟩⟩
theorem SS.sR8 {h : Hp} {a v : Nat} (e : hS h a = 4) : SS h (sR h a 8 v) :=
  ⟨Nat.le_refl _, fun r _ => ⟨rfl, rfl, fun k hk => if_neg fun z => hk (by rw [z.1]; exact e) z.2⟩⟩
end P3
