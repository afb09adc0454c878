/-! ===== every run of calls ===== -/
section U78
theorem st_any {X : Nat × (Nat → Int32)} {k9 : Hp → Nat → Nat → Nat → Nat → Int32 → Option (Int32 × Hp)} {h : Hp} {i M : Nat} (hX : X.1 ≤ 3072) (hi : i + 6 ≤ X.1) (hM : M + 60 < 2 ^ 30) (I : INV M h (hI h)) : GD M h i k9 (f_Lw_main_b23 X k9 h SCR 1 755 765 (nI i)) :=
  st_all hX hi I (fun _ _ _ _ _ => sp_feed) (fun _ => sp_end) sp_land sp_law sp_fault (fun _ _ => sp_cistern) (fun _ _ => sp_layer) (fun _ => sp_salt) (fun _ _ => sp_house) (fun _ _ => sp_drank) (fun _ _ => sp_place) (fun _ => sp_next) (fun _ => sp_months hM) sp_undo (fun _ _ => sp_oath) (fun _ => sp_winter (by omega)) (fun _ _ hp => sp_seal hp) (fun _ => sp_seed) (fun _ _ _ => sp_blend) (sp_lasts hM) (sp_worst hM) sp_judge (fun _ _ _ _ _ => sp_swap) (fun _ => sp_foul) (fun _ => sp_fewest) sp_look (fun _ => sp_site) (fun _ _ => sp_owed) (fun _ _ _ => sp_owe) (fun _ => sp_debt) (fun _ => sp_settle) (fun _ _ _ => sp_mix) (fun _ hp => sp_order hp) (fun _ _ => sp_enough hM) (fun _ _ => sp_latest) sp_image sp_back (fun _ => sp_count)
theorem any_loop {X : Nat × (Nat → Int32)} (hL : X.1 ≤ 3072) (n : Nat) : ∀ (j : Nat) (h : Hp) (i : Nat), INV (10 * i) h (hI h) → i ≤ 3078 → X.1 < i + 6 * (j + 1) →
    ∃ h', f_Lw_main_L23 X (n + j + 1) h SCR 1 755 765 (nI i) = some (1, h') ∧ hN h' ≤ hN h + 1170 * j ∧ hZ h' ≤ hZ h + 14000 * j := by
  intro j
  induction j with
  | zero =>
    intro h i hp hi hx
    exact ⟨h, main_end hL hi (by omega), by omega, by omega⟩
  | succ j ih =>
    intro h i hp hi hx
    by_cases g : X.1 < i + 6
    · exact ⟨h, main_end hL hi g, by omega, by omega⟩
    · obtain ⟨h1, e1, p1, n1, z1⟩ := st_any (k9 := f_Lw_main_L23 X (n + j + 1)) hL (by omega : i + 6 ≤ X.1) (by omega) hp
      have p1 : INV (10 * (i + 6)) h1 (hI h1) := p1.mono (by omega)
      obtain ⟨h', e2, n2, z2⟩ := ih h1 (i + 6) p1 (by omega) (by omega)
      exact ⟨h', e1.trans e2, by omega, by omega⟩
theorem pure_all : PureClaim := by
  intro L xs hL
  obtain ⟨H, e0, n0, z0, w0, m0, b0⟩ := main_start (L, xs) SCR
  obtain ⟨h', e1, n1, z1⟩ := any_loop (X := (L, xs)) hL 999487 512 H 0 (INV.start n0 w0 m0 b0) (by omega) (by show L < _; omega)
  refine ⟨h', ?_, by omega, by omega⟩
  rw [e0, FU_512]
  exact e1
end U78
