/-! ===== a new law ===== -/
section U62
variable {h : Hp} {g g' g1 g2 : Nat → Nat → Int32} {w w' : Nat → Int32} {b : Nat → Nat} {T p q n i j k m c s r d S M A : Nat} {e es x E : List (Nat × Nat)} {v y u : Int32} {L l : List (Nat × List (Nat × Nat))} {ts : List Bool}
theorem WF.lawn (W : WF M w) (e : ∀ k, k < 617 → k ≠ 3 → w' k = w k) (e3 : w' 3 = 1) (Lw : WFL w') : WF M w' := by
  obtain ⟨⟨W1, W2, W3⟩, ⟨B1, B2, B3⟩, T, Mo, La, Ci, Ho, Ze, De, Sa⟩ := W
  have n0 : nc w' = nc w := congrArg ix (e 0 (by omega) (by omega))
  have n1 : nh w' = nh w := congrArg ix (e 1 (by omega) (by omega))
  have n2 : nd w' = nd w := congrArg ix (e 10 (by omega) (by omega))
  refine ⟨⟨?_, ?_, ?_⟩, ⟨?_, ?_, ?_⟩, ?_, ?_, Or.inr ⟨e3, Lw⟩, ?_, ?_, ?_, ?_, ?_⟩
  · rw [n0, e 0 (by decide) (by decide)]; exact W1
  · rw [n1, e 1 (by decide) (by decide)]; exact W2
  · rw [n2, e 10 (by decide) (by decide)]; exact W3
  · rw [n0]; exact B1
  · rw [n1]; exact B2
  · rw [n2]; exact B3
  · rw [e 2 (by decide) (by decide)]; exact T
  · rw [e 4 (by decide) (by decide)]; exact Mo
  · rw [n0]
    intro c hc
    exact (Ci c hc).of (b := ly w c) (fun y hy => by rw [e _ (by omega) (by omega)]; exact ((Ci c hc).1 y hy).1) (Ci c hc).2.1.2.2 (fun i hi => e _ (by omega) (by omega))
  · rw [n1]
    intro k hk
    obtain ⟨⟨H1, H2⟩, ⟨H3, H4⟩, H5⟩ := Ho k hk
    have m0 : neH w' k = neH w k := congrArg ix (e _ (by omega) (by omega))
    have m1 : atH w' k = atH w k := congrArg ix (e _ (by omega) (by omega))
    exact ⟨⟨by rw [m0, e _ (by omega) (by omega)]; exact H1, by rw [m0]; exact H2⟩, ⟨by rw [m1, e _ (by omega) (by omega)]; exact H3, by rw [m1, n0]; exact H4⟩, by rw [e _ (by omega) (by omega)]; exact H5⟩
  · rw [n1]; exact fun k hk h8 j hj => by rw [e _ (by omega) (by omega)]; exact Ze k hk h8 j hj
  · rw [n2]
    intro d hd
    obtain ⟨d1, d2, d3⟩ := De d hd
    refine ⟨?_, ?_, ?_⟩
    · rw [n1, e _ (by omega) (by omega)]; exact d1
    · rw [e _ (by omega) (by omega)]; exact d2
    · rw [e _ (by omega) (by omega)]; exact d3
  · intro y hy
    rw [e _ (by omega) (by omega)]; exact Sa y hy
/-- each line is as it should be -/
def LOK (l : List (Nat × List (Nat × Nat))) : Prop := ∀ z ∈ l, z.1 ≤ 1000 ∧ (tyE z.2 [] = some [] ∨ tyE z.2 [] = some [true])
theorem la_ok : ∀ (m p : Nat) (l : List (Nat × List (Nat × Nat))), laP b T m p = .inr l → l.length ≤ m ∧ LOK l ∧ (stpL l).length + p + 1 ≤ T := by
  intro m
  induction m with
  | zero => intro p l h; cases h
  | succ m ih =>
    intro p l h
    unfold laP at h
    cases hr : lwP b T p with
    | inl z => rw [hr] at h; cases h
    | inr u =>
      obtain ⟨w, e, u⟩ := u
      rw [hr] at h
      obtain ⟨k1, k2, k3, k4, k5⟩ := lw_ok _ _ _ hr
      have h : (if cdT b T u = 3000 then Sum.inr [(w, e)] else if cdT b T u = 2059 then (match laP b T m (nx b T u) with
        | .inl z => .inl z
        | .inr l => .inr ((w, e) :: l)) else .inl u) = Sum.inr l := h
      by_cases c : cdT b T u = 3000
      · rw [if_pos c] at h
        cases h
        refine ⟨by show 1 ≤ m + 1; omega, fun z hz => ?_, by rw [stp_one]; omega⟩
        rcases List.mem_cons.mp hz with rfl | hz
        · exact ⟨k5, k4⟩
        · cases hz
      · rw [if_neg c] at h
        by_cases c2 : cdT b T u = 2059
        · have n1 := nx_lt (b := b) (cd_T (b := b) (T := T) (p := u) (by omega))
          rw [if_pos c2] at h
          cases hl : laP b T m (nx b T u) with
          | inl z => rw [hl] at h; cases h
          | inr l2 =>
            rw [hl] at h
            cases h
            obtain ⟨a1, a2, a3⟩ := ih _ _ hl
            refine ⟨by show l2.length + 1 ≤ m + 1; omega, fun z hz => ?_, ?_⟩
            · rcases List.mem_cons.mp hz with rfl | hz
              · exact ⟨k5, k4⟩
              · exact a2 z hz
            · have : stpL ((w, e) :: l2) = e ++ stpL l2 := rfl
              rw [this, List.length_append]
              omega
        · rw [if_neg c2] at h
          cases h
theorem laT_ok (h : laT b T = .inr l) : l.length ≤ 12 ∧ LOK l ∧ (stpL l).length ≤ T := by
  unfold laT at h
  by_cases c : cdT b T (bk b T 0) = 3000
  · rw [if_pos c] at h
    cases h
    exact ⟨Nat.zero_le _, (fun z hz => by cases hz), Nat.zero_le _⟩
  · rw [if_neg c] at h
    obtain ⟨a1, a2, a3⟩ := la_ok _ _ _ h
    exact ⟨a1, a2, by omega⟩
theorem laT_lt (h : laT b T = .inr l) (hT : T ≤ 400) : (stpL l).length < 400 := by
  unfold laT at h
  by_cases c : cdT b T (bk b T 0) = 3000
  · rw [if_pos c] at h
    cases h
    decide
  · rw [if_neg c] at h
    obtain ⟨a1, a2, a3⟩ := la_ok _ _ _ h
    omega
/-- the lines stand in a world -/
def TLw (w : Nat → Int32) (L : List (Nat × List (Nat × Nat))) : Prop := w 617 = nI L.length ∧ (∀ k v es, L[k]? = some (v, es) → w (618 + 3 * k) = fI v ∧ w (619 + 3 * k) = nI (stpL (L.take k)).length ∧ w (620 + 3 * k) = nI (stpL (L.take (k + 1))).length) ∧ ∀ i s n, (stpL L)[i]? = some (s, n) → w (654 + 2 * i) = nI s ∧ w (655 + 2 * i) = nI n
theorem tyR_E : ∀ (e : List (Nat × Nat)) (i : Nat) (ts : List Bool), (∀ j s n, e[j]? = some (s, n) → w (654 + 2 * (i + j)) = nI s ∧ w (655 + 2 * (i + j)) = nI n) → tyR w e.length i ts = tyE e ts := by
  intro e
  induction e with
  | nil => intro i ts _; rfl
  | cons a e ih =>
    intro i ts h
    obtain ⟨s, n⟩ := a
    obtain ⟨h1, h2⟩ := h 0 s n rfl
    rw [Nat.add_zero] at h1 h2
    show tyR w (e.length + 1) i ts = _
    unfold tyR tyE
    rw [h1, h2]
    cases tyS (nI s) (nI n) ts with
    | none => rfl
    | some t =>
      refine ih (i + 1) t fun j s n hj => ?_
      have := h (j + 1) s n hj
      rw [show i + (j + 1) = i + 1 + j from by omega] at this
      exact this
theorem stp_take (h : L[k]? = some (n, es)) : stpL (L.take (k + 1)) = stpL (L.take k) ++ es := by
  rw [List.take_add_one, h, stp_app]
  show _ ++ stpL [(n, es)] = _
  rw [stp_one]
theorem stp_get (h : L[k]? = some (n, es)) (hj : j < es.length) : (stpL L)[(stpL (L.take k)).length + j]? = es[j]? := by
  have e1 : stpL L = stpL (L.take k) ++ es ++ stpL (L.drop (k + 1)) := by
    rw [← stp_take h, ← stp_app, List.take_append_drop]
  rw [e1, List.getElem?_append_left (by rw [List.length_append]; omega), List.getElem?_append_right (by omega), show (stpL (L.take k)).length + j - (stpL (L.take k)).length = j from by omega]
theorem stp_mono (k : Nat) : (stpL (L.take k)).length ≤ (stpL L).length := by
  have : stpL L = stpL (L.take k) ++ stpL (L.drop k) := by rw [← stp_app, List.take_append_drop]
  rw [this, List.length_append]
  omega
theorem TLw.wfl (Tw : TLw w L) (h12 : L.length ≤ 12) (ok : LOK L) (h4 : (stpL L).length ≤ 400) : WFL w ∧ lwN w = L.length ∧ ∀ k, k < L.length → lwE w k ≤ (stpL L).length := by
  obtain ⟨t1, t2, t3⟩ := Tw
  have n0 : lwN w = L.length := by
    show ix (w 617) = _
    rw [t1, ix_n (by omega)]
  have gt : ∀ k, k < L.length → ∃ v es, L[k]? = some (v, es) := fun k hk => ⟨_, _, List.getElem?_eq_getElem hk⟩
  have E : ∀ k, k < L.length → lwE w k = (stpL (L.take (k + 1))).length := fun k hk => by
    obtain ⟨v, es, hv⟩ := gt k hk
    show ix (w (620 + 3 * k)) = _
    rw [(t2 k v es hv).2.2, ix_n (by have := stp_mono (L := L) (k + 1); omega)]
  have St : ∀ k, k < L.length → lwS w k = (stpL (L.take k)).length := fun k hk => by
    unfold lwS
    by_cases q : k = 0
    · rw [if_pos q, q]; rfl
    · rw [if_neg q, E (k - 1) (by omega), show k - 1 + 1 = k from by omega]
  refine ⟨⟨by rw [n0]; exact t1, by rw [n0]; exact h12, fun k hk => ?_⟩, n0, fun k hk => by rw [E k hk]; exact stp_mono _⟩
  rw [n0] at hk
  obtain ⟨v, es, hv⟩ := gt k hk
  obtain ⟨a1, a2, a3⟩ := t2 k v es hv
  have hz := ok _ (List.mem_of_getElem? hv)
  have m1 := stp_mono (L := L) (k + 1)
  have ln : (stpL (L.take (k + 1))).length = (stpL (L.take k)).length + es.length := by rw [stp_take hv, List.length_append]
  rw [E k hk, St k hk]
  refine ⟨a2, a3, by omega, by omega, ?_, ?_⟩
  · rw [a1]
    unfold fI
    by_cases q : v = 1000
    · rw [if_pos q]; exact Or.inl rfl
    · rw [if_neg q]
      have h1 : v ≤ 1000 := hz.1
      exact Or.inr ⟨v, rfl, by omega⟩
  · have : tyR w ((stpL (L.take (k + 1))).length - (stpL (L.take k)).length) (stpL (L.take k)).length [] = tyE es [] := by
      rw [show (stpL (L.take (k + 1))).length - (stpL (L.take k)).length = es.length from by omega]
      refine tyR_E es _ [] fun j s n hj => ?_
      have hj' : j < es.length := by
        rcases Nat.lt_or_ge j es.length with z | z
        · exact z
        · rw [List.getElem?_eq_none z] at hj; cases hj
      exact t3 _ s n (by rw [stp_get hv hj']; exact hj)
    rw [this]
    exact hz.2
end U62
