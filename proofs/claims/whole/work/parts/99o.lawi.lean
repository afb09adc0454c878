/-! ===== a new law in the invariant ===== -/
section U64
variable {h h' : Hp} {g g' g1 g2 G : Nat → Nat → Int32} {w w' : Nat → Int32} {b : Nat → Nat} {T p q n i j k m c s r d S M A a z B : Nat} {e es x E : List (Nat × Nat)} {v y u : Int32} {L l : List (Nat × List (Nat × Nat))} {ts : List Bool} {F : Nat → Int32}
theorem RLa.lw (R : RLa g A w) (Bd : WFb w) (e : ∀ k, k < 617 → k ≠ 3 → w' k = w k) : RLa g A w' := by
  obtain ⟨R1, R2, R3, R4, R5⟩ := R
  obtain ⟨B1, B2, B3⟩ := Bd
  have n0 : nc w' = nc w := congrArg ix (e 0 (by omega) (by omega))
  have n1 : nh w' = nh w := congrArg ix (e 1 (by omega) (by omega))
  have n2 : nd w' = nd w := congrArg ix (e 10 (by omega) (by omega))
  refine ⟨?_, fun c' hc' => ?_, fun k' hk' => ?_, fun d hd => ?_, ?_⟩
  · unfold RLs
    rw [e 0 (by omega) (by omega), e 1 (by omega) (by omega), e 10 (by omega) (by omega), e 2 (by omega) (by omega), e 4 (by omega) (by omega), e 5 (by omega) (by omega), e 6 (by omega) (by omega), e 7 (by omega) (by omega), e 8 (by omega) (by omega), e 9 (by omega) (by omega)]
    exact R1
  · rw [n0] at hc'
    obtain ⟨r1, r2, r3⟩ := R2 c' hc'
    unfold RLc
    rw [ms_eq (w' := w') (w := w) (fun y hy => e _ (by omega) (by omega))]
    exact ⟨fun j hj => by rw [e _ (by omega) (by omega)]; exact r1 j hj, fun y hy => by rw [e _ (by omega) (by omega)]; exact r2 y hy, r3⟩
  · rw [n1] at hk'
    obtain ⟨r1, r2⟩ := R3 k' hk'
    exact ⟨fun j hj => by rw [e _ (by omega) (by omega)]; exact r1 j hj, fun y hy => by rw [e _ (by omega) (by omega)]; exact r2 y hy⟩
  · rw [n2] at hd
    exact fun j hj => by rw [e _ (by omega) (by omega)]; exact R4 d hd j hj
  · exact fun y hy => by rw [e _ (by omega) (by omega)]; exact R5 y hy
theorem HELD.ext (H : HELD M h g A w) (hA2 : A + 45 ≤ 765) (hn : 765 ≤ hN h) (hL' : hR h A 8 + 5 ≤ hN h) (o : ∀ r, r ≤ hN h → r ≠ 569 → OLD h h' r) (a9 : A ≠ 569) (x : ∀ r, (A ≤ r ∧ r ≤ A + 45) ∨ (765 < r ∧ r ≤ hN h) → g' r = g r) : HELD M h' g' A w := by
  obtain ⟨W, R, Lr⟩ := H
  refine ⟨W, R.ex W.2.1 fun r h1 h2 _ => x r (Or.inl ⟨h1, h2⟩), ?_⟩
  have rA : hR h' A 8 = hR h A 8 := (o A (by omega) a9).2.2 8
  rcases Lr with ⟨z1, z2⟩ | ⟨z1, z2, z3, S, z4, z5⟩
  · exact Or.inl ⟨z1, rA.trans z2⟩
  · have O : ∀ k, k ≤ 5 → OLD h h' (hR h A 8 + k) := fun k hk => o _ (by omega) (by omega)
    have X : ∀ k, k ≤ 5 → g' (hR h A 8 + k) = g (hR h A 8 + k) := fun k hk => x _ (Or.inr ⟨by omega, by omega⟩)
    refine Or.inr ⟨z1, by rw [rA]; exact z2, z3, S, ?_, ?_⟩
    · rw [rA]
      obtain ⟨y1, ⟨y2, y3, y4, y5, y6⟩, ⟨y7, y7'⟩, ⟨y8, y8'⟩, ⟨y9, y9'⟩, ⟨ya, ya'⟩, yb, yb'⟩ := z4
      have O0 := O 0 (by decide)
      rw [Nat.add_zero] at O0
      exact ⟨O0.1.trans y1, ⟨(O0.2.2 1).trans y2, (O0.2.2 2).trans y3, (O0.2.2 3).trans y4, (O0.2.2 4).trans y5, (O0.2.2 5).trans y6⟩, ⟨(O 1 (by decide)).1.trans y7, (O 1 (by decide)).2.1.trans y7'⟩, ⟨(O 2 (by decide)).1.trans y8, (O 2 (by decide)).2.1.trans y8'⟩, ⟨(O 3 (by decide)).1.trans y9, (O 3 (by decide)).2.1.trans y9'⟩, ⟨(O 4 (by decide)).1.trans ya, (O 4 (by decide)).2.1.trans ya'⟩, (O 5 (by decide)).1.trans yb, (O 5 (by decide)).2.1.trans yb'⟩
    · rw [rA]
      obtain ⟨G1, G2, G3, G4, G5, G6⟩ := z5
      have X0 := X 0 (by decide)
      rw [Nat.add_zero] at X0
      exact ⟨by rw [X0]; exact G1, by rw [X0]; exact G2, fun n hn => by rw [X 1 (by decide), X 2 (by decide)]; exact G3 n hn, fun i hi => by rw [X 3 (by decide)]; exact G4 i hi, by rw [X0]; exact G5, G6⟩
/-- rows that reading a text may change -/
def TXR (r : Nat) : Prop := r = 1 ∨ r = 2 ∨ (4 ≤ r ∧ r ≤ 14) ∨ r = 755 ∨ r = 756 ∨ r = 758
theorem INV.tx (I : INV M h g) (x : ∀ r, ¬ TXR r → g' r = g r) (x1 : ∀ j, j ≠ 11 → g' 1 j = g 1 j) (x5 : g' 755 6 = g 755 6 ∧ g' 755 7 = g 755 7) (xw : g' 1 11 = g' 755 14) (xt : TAP g') (xm : MOS g') (xk : ∀ k, k < 1454 → g' 756 k = g 756 k) : INV M h g' := by
  obtain ⟨t, H, I1, ⟨N, R, m1, m2, m3, m4, m5, m6⟩, -, W, lb, mo⟩ := I
  have X : ∀ r, ¬ (r = 1 ∨ r = 2 ∨ (4 ≤ r ∧ r ≤ 14) ∨ r = 755 ∨ r = 756 ∨ r = 758) → g' r = g r := x
  have z : FZ h g g' := fun r hr _ => X r (by omega)
  refine ⟨t, ?_, ?_, ⟨N, R, ?_, m2, ?_, ?_, m5, fun i hi => ?_⟩, xt, xw, lb, xm⟩
  · exact HELD.cg (H.fz z fun r h1 h2 _ => X r (by omega)) xk
  · rcases I1 with ⟨i1, i2⟩ | ⟨i1, i2, i3⟩
    · exact Or.inl ⟨by rw [x1 10 (by decide)]; exact i1, by rw [x5.1]; exact i2⟩
    · exact Or.inr ⟨by rw [x1 10 (by decide)]; exact i1, by rw [x5.1]; exact i2, by rw [X 757 (by omega)]; exact i3.fz z fun r h1 h2 _ => X r (by omega)⟩
  · rw [X 15 (by omega)]; exact m1
  · rw [X 15 (by omega)]; exact m3
  · rw [x5.2]; exact m4
  · have e : wmo g' (R - 1 - i) = wmo g (R - 1 - i) := funext fun k => by unfold wmo; rw [X 760 (by omega)]
    have := Nat.mod_lt (N + 12 - i) (show 0 < 12 by decide)
    rw [e]
    exact (m6 i hi).fz z fun r h1 h2 _ => X r (by unfold la at *; omega)
/-- a new law -/
theorem INV.nl (I : INV M h g) (x : ∀ r, r ≤ hN h → ¬ TXR r → G r = g r) (x1 : ∀ j, j ≠ 11 → G 1 j = g 1 j) (x5 : G 755 6 = g 755 6 ∧ G 755 7 = g 755 7) (xw : G 1 11 = G 755 14) (xt : TAP G) (xm : MOS G) (xk : ∀ k, k < 617 → k ≠ 3 → G 756 k = g 756 k) (x3 : G 756 3 = 1)
    (Tw : TLw (G 756) L) (l12 : L.length ≤ 12) (ok : LOK L) (hS4 : (stpL L).length ≤ 400) (y0 : G (hN h + 1) 0 = nI L.length) (y6 : G (hN h + 1) 6 = 0 ∨ G (hN h + 1) 6 = 1) (y1 : ∀ k v es, L[k]? = some (v, es) → G (hN h + 1 + 1) k = fI v ∧ G (hN h + 1 + 2) k = nI (stpL (L.take (k + 1))).length) (y3 : ∀ i s n, (stpL L)[i]? = some (s, n) → G (hN h + 1 + 3) i = encS (nI s) (nI n)) (y7 : G (hN h + 1) 6 = 0 → ∀ i, i < (stpL L).length → G (hN h + 1 + 3) i ≠ 1004) : INV M (sR (lwH h (stpL L).length) 569 8 (hN h + 1)) G := by
  obtain ⟨t, H, I1, ⟨N, R, m1, m2, m3, m4, m5, m6⟩, -, W, lb, mo⟩ := I
  have n9 := t.1
  have X : ∀ r, r ≤ hN h → ¬ (r = 1 ∨ r = 2 ∨ (4 ≤ r ∧ r ≤ 14) ∨ r = 755 ∨ r = 756 ∨ r = 758) → G r = g r := x
  have o : ∀ r, r ≤ hN h → r ≠ 569 → OLD h (sR (lwH h (stpL L).length) 569 8 (hN h + 1)) r := fun r h1 h2 => (lwH_old h1).tr (OLD.sr h2)
  have ss : SS h (lwH h (stpL L).length) := ⟨by rw [lwH_N]; omega, fun r hr => ⟨(lwH_old (by omega)).1, (lwH_old (by omega)).2.1, fun k _ => (lwH_old (by omega)).2.2 k⟩⟩
  have t1 : TS (sR (lwH h (stpL L).length) 569 8 (hN h + 1)) := (t.ss ss).sR8 (c := 12) (by decide)
  obtain ⟨wfl, lN, lE⟩ := Tw.wfl l12 ok hS4
  have gt : ∀ k, k < L.length → ∃ v es, L[k]? = some (v, es) := fun k hk => ⟨_, _, List.getElem?_eq_getElem hk⟩
  have gs : ∀ i, i < (stpL L).length → ∃ s n, (stpL L)[i]? = some (s, n) := fun k hk => ⟨_, _, List.getElem?_eq_getElem hk⟩
  have r8 : hR (sR (lwH h (stpL L).length) 569 8 (hN h + 1)) 569 8 = hN h + 1 := by rw [hR_R, if_pos ⟨rfl, rfl⟩]
  refine ⟨t1, ⟨H.1.lawn xk x3 wfl, ?_, ?_⟩, ?_, ⟨N, R, ?_, m2, ?_, ?_, m5, fun i hi => ?_⟩, xt, xw, fun c hc => ?_, xm⟩
  · exact (H.2.1.ex H.1.2.1 fun r h1 h2 _ => X r (by omega) (by omega)).lw H.1.2.1 xk
  · refine Or.inr ⟨x3, by rw [r8]; omega, wfl, (stpL L).length, ?_, ?_⟩
    · rw [r8]
      exact lwH_new.r8 (by omega) (by decide)
    · rw [r8]
      refine ⟨y0.trans Tw.1.symm, y6, fun n hn => ?_, fun i hi => ?_, fun z i hi z4 => ?_, hS4⟩
      · rw [lN] at hn
        obtain ⟨v, es, hv⟩ := gt n hn
        obtain ⟨b1, b2, b3⟩ := Tw.2.1 n v es hv
        rw [b1, b3]
        exact ⟨(y1 n v es hv).1, (y1 n v es hv).2, lE n hn⟩
      · obtain ⟨s, n, hs⟩ := gs i hi
        rw [(Tw.2.2 i s n hs).1, (Tw.2.2 i s n hs).2]
        exact y3 i s n hs
      · obtain ⟨s, n, hs⟩ := gs i hi
        refine y7 z i hi ?_
        rw [y3 i s n hs, ← (Tw.2.2 i s n hs).1, z4]
        unfold encS
        rw [if_neg (by decide), if_neg (by decide), if_neg (by decide), if_neg (by decide), if_neg (by decide), if_neg (by decide), if_neg (by decide)]
        rfl
  · rcases I1 with ⟨i1, i2⟩ | ⟨i1, i2, i3⟩
    · exact Or.inl ⟨by rw [x1 10 (by decide)]; exact i1, by rw [x5.1]; exact i2⟩
    · exact Or.inr ⟨by rw [x1 10 (by decide)]; exact i1, by rw [x5.1]; exact i2, by rw [X 757 (by omega) (by omega)]; exact i3.ext (by decide) n9 (lb 15 (by decide)) o (by decide) fun r hr => X r (by omega) (by omega)⟩
  · rw [X 15 (by omega) (by omega)]; exact m1
  · rw [X 15 (by omega) (by omega)]; exact m3
  · rw [x5.2]; exact m4
  · have e : wmo G (R - 1 - i) = wmo g (R - 1 - i) := funext fun k => by unfold wmo; rw [X 760 (by omega) (by omega)]
    have := Nat.mod_lt (N + 12 - i) (show 0 < 12 by decide)
    rw [e]
    exact (m6 i hi).ext (by unfold la; omega) n9 (lb _ (by omega)) o (by unfold la; omega) fun r hr => X r (by unfold la at *; omega) (by unfold la at *; omega)
  · by_cases q : c = 12
    · subst q
      rw [show la 12 = 569 from rfl, r8, hN_R, lwH_N]
      omega
    · rw [(o (la c) (by unfold la; omega) (by unfold la; omega)).2.2 8, hN_R, lwH_N]
      have := lb c hc
      omega
end U64
