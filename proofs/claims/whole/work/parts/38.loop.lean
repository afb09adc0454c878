/-! ===== the law's loop over an invariant P (wip/whole/gen/p2.py) ===== -/
section P2
theorem c6 : (6 : Int32) = nI 6 := rfl
theorem lim_lt {L i : Nat} (hL : L ≤ 3072) (hi : i ≤ 3078) (h : L < i + 6) : Int32.ofNat L - 6 < nI i := by
  by_cases g : 6 ≤ L
  · obtain ⟨m, rfl⟩ : ∃ m, L = m + 6 := ⟨L - 6, by omega⟩
    have e : Int32.ofNat (m + 6) - 6 = nI m := by
      show nI (m + 6) - nI 6 = nI m
      rw [← nI_add, Int32.add_sub_cancel]
    rw [e]
    exact nI_lt (by omega) (by omega)
  · have hp : (0 : Int32) ≤ nI i := nI_pos' (by omega)
    have hn : ∀ L : Nat, L < 6 → Int32.ofNat L - 6 < 0 := by decide +kernel
    exact Int32.lt_of_lt_of_le (hn L (by omega)) hp
theorem lim_ge {L i : Nat} (hL : L ≤ 3072) (h : i + 6 ≤ L) : ¬ (Int32.ofNat L - 6 < nI i) := by
  obtain ⟨m, rfl⟩ : ∃ m, L = m + 6 := ⟨L - 6, by omega⟩
  have e : Int32.ofNat (m + 6) - 6 = nI m := by
    show nI (m + 6) - nI 6 = nI m
    rw [← nI_add, Int32.add_sub_cancel]
  rw [e]
  exact nI_nlt (by omega) (by omega)
theorem main_end {X : Nat × (Nat → Int32)} {k9 : Hp → Nat → Nat → Nat → Nat → Int32 → Option (Int32 × Hp)} {h : Hp} {i : Nat} (hL : X.1 ≤ 3072) (hi : i ≤ 3078) (hx : X.1 < i + 6) : f_Lw_main_b23 X k9 h SCR 1 755 765 (nI i) = some (1, h) := by
  unfold f_Lw_main_b23
  rw [if_pos rfl, if_pos (lim_lt hL hi hx)]
/-- what one call may do: on it goes, the invariant kept, within its part of the room -/
def StepOK (P : Hp → Prop) : Prop := ∀ (X : Nat × (Nat → Int32)) (k9 : Hp → Nat → Nat → Nat → Nat → Int32 → Option (Int32 × Hp)) (h : Hp) (i : Nat), X.1 ≤ 3072 → P h → i + 6 ≤ X.1 →
  ∃ h', f_Lw_main_b23 X k9 h SCR 1 755 765 (nI i) = k9 h' SCR 1 755 765 (nI (i + 6)) ∧ P h' ∧ hN h' ≤ hN h + 1170 ∧ hZ h' ≤ hZ h + 14000
theorem main_loop {P : Hp → Prop} (st : StepOK P) {X : Nat × (Nat → Int32)} (hL : X.1 ≤ 3072) (n : Nat) : ∀ (j : Nat) (h : Hp) (i : Nat), P h → i ≤ 3078 → X.1 < i + 6 * (j + 1) →
    ∃ h', f_Lw_main_L23 X (n + j + 1) h SCR 1 755 765 (nI i) = some (1, h') ∧ hN h' ≤ hN h + 1170 * j ∧ hZ h' ≤ hZ h + 14000 * j := by
  intro j
  induction j with
  | zero =>
    intro h i hp hi hx
    exact ⟨h, main_end hL hi (by omega), by omega, by omega⟩
  | succ j ih =>
    intro h i hp hi hx
    by_cases g : X.1 < i + 6
    · exact ⟨h, main_end hL hi g, by omega, by omega⟩
    · obtain ⟨h1, e1, p1, n1, z1⟩ := st X (f_Lw_main_L23 X (n + j + 1)) h i hL hp (by omega)
      obtain ⟨h', e2, n2, z2⟩ := ih h1 (i + 6) p1 (by omega) (by omega)
      exact ⟨h', e1.trans e2, by omega, by omega⟩
theorem FU_512 : FU = 999487 + 512 + 1 := rfl
/-- the pure claim, out of an invariant that fresh objects have and that every call keeps -/
theorem pure_of {P : Hp → Prop} (p0 : ∀ H : Hp, hN H = 765 → WA H → MD H 755 → BL H 765 22 1 → P H) (st : StepOK P) : PureClaim := by
  intro L xs hL
  obtain ⟨H, e0, n0, z0, w0, m0, b0⟩ := main_start (L, xs) SCR
  obtain ⟨h', e1, n1, z1⟩ := main_loop st (X := (L, xs)) hL 999487 512 H 0 (p0 H n0 w0 m0 b0) (by omega) (by show L < _; omega)
  refine ⟨h', ?_, by omega, by omega⟩
  rw [e0, FU_512]
  exact e1
end P2
