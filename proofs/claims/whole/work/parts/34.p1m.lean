section P1M
variable {h h' h2 : Hp} {a b c k j m r s l z : Nat}
theorem mem_step {k9 : Hp → Nat → Int32 → Option Hp} {i : Nat} (hi : i < 12) (h1 : hS h m = 8) (h2 : hR h m 0 = m + 1) (h3 : hS h (m + 1) = 26) (h4 : hL h (m + 1) = 12) (h5 : m + 1 ≤ hN h) :
    ∃ H1, f_Memory_init_b15 k9 h m (nI i) = k9 H1 m (nI (i + 1)) ∧ hN H1 = hN h + 46 ∧ hZ H1 = hZ h + 708 ∧ (∀ r, r ≤ hN h → r ≠ m + 1 → SM h H1 r) ∧ hS H1 (m + 1) = hS h (m + 1) ∧ hL H1 (m + 1) = hL h (m + 1) ∧ (∀ k, hR H1 (m + 1) k = if k = i then hN h + 1 else hR h (m + 1) k) ∧ LN H1 (hN h + 1) := by
  have e4 : ¬ (nI 12 ≤ nI i) := nI_ge hi (by decide)
  obtain ⟨h6, q1, q2, q3, q4, q5⟩ := land_new (h := hA h 4 0 16) (a := hN h + 1) rfl BL.new
  have S : ∀ r, r ≤ hN h → SM h h6 r := fun r hr => (SM.hA (by omega)).tr (q4 r (by omega))
  have S1 := S (m + 1) h5
  refine ⟨sR h6 (m + 1) i (hN h + 1), ?_, by show hN h6 = _; omega, by show hZ h6 = _; rw [q3]; show hZ h + 16 + 692 = _; omega, fun r hr e => (S r hr).tr (SM.sR e), S1.1, S1.2.1, fun k => ?_, q5.sm fun r g1 g2 => SM.sR (by omega)⟩
  · unfold f_Memory_init_b15
    rw [n12, if_neg e4, if_pos h1]
    show bV (f_Land_init (hA h 4 0 16) (hN h + 1)) _ = _
    rw [q1, h2]
    show (if hS h6 (m + 1) = 26 then if ib (nI i) (hL h6 (m + 1)) = true then if hS h6 (hN h + 1) = 4 then k9 (sR h6 (m + 1) (ix (nI i)) (hN h + 1)) m (nI i + 1) else none else none else none) = _
    rw [if_pos (S1.1.trans h3), S1.2.1.trans h4, if_pos (ib_n hi (by decide)), if_pos q5.1, ix_n (show i < 2 ^ 31 by omega), nI_1]
  · by_cases e : k = i
    · subst e
      rw [if_pos rfl]
      exact if_pos ⟨rfl, rfl⟩
    · rw [if_neg e]
      exact (if_neg fun z => e z.2).trans (congrFun S1.2.2.2.1 k)
theorem mem_loop : ∀ (j : Nat) {i : Nat} {h : Hp}, i + j = 12 → hS h m = 8 → hR h m 0 = m + 1 → hS h (m + 1) = 26 → hL h (m + 1) = 12 → hN h = m + 1 + 46 * i → (∀ c, c < i → hR h (m + 1) c = m + 2 + 46 * c ∧ LN h (m + 2 + 46 * c)) → ∀ n, ∃ h', f_Memory_init_L15 (n + j + 1) h m (nI i) = some h' ∧
    hN h' = m + 553 ∧ hZ h' = hZ h + 708 * j ∧ (∀ r, r ≤ m → SM h h' r) ∧ (∀ c, c < 12 → hR h' (m + 1) c = m + 2 + 46 * c ∧ LN h' (m + 2 + 46 * c)) ∧ hS h' (m + 1) = 26 ∧ hL h' (m + 1) = 12 := by
  intro j
  induction j with
  | zero =>
    intro i h hi h1 h2 h3 h4 hn hd n
    have hi8 : i = 12 := by omega
    subst hi8
    refine ⟨h, ?_, by omega, by simp, fun _ _ => SM.rf, hd, h3, h4⟩
    show f_Memory_init_b15 (f_Memory_init_L15 n) h m (nI 12) = _
    unfold f_Memory_init_b15
    rw [n12, if_pos (Int32.le_refl _)]
  | succ j ih =>
    intro i h hi h1 h2 h3 h4 hn hd n
    obtain ⟨H1, st, e1, e2, e3, e4, e5, e6, e7⟩ := mem_step (k9 := f_Memory_init_L15 (n + j + 1)) (h := h) (m := m) (i := i) (by omega) h1 h2 h3 h4 (by omega)
    have sa := e3 m (by omega) (by omega)
    obtain ⟨h', g1, g2, g3, g4, g5, g6, g7⟩ := ih (i := i + 1) (h := H1) (by omega) (sa.1.trans h1) ((congrFun sa.2.2.2.1 _).trans h2) (e4.trans h3) (e5.trans h4) (by omega) (fun c hc9 => by
      by_cases hc : c < i
      · exact ⟨(e6 c).trans ((if_neg (by omega)).trans (hd c hc).1), (hd c hc).2.sm fun r q1 q2 => e3 r (by omega) (by omega)⟩
      · have hci : c = i := by omega
        subst hci
        refine ⟨(e6 c).trans ((if_pos rfl).trans (by omega)), ?_⟩
        have q : hN h + 1 = m + 2 + 46 * c := by omega
        rw [← q]
        exact e7) n
    exact ⟨h', st.trans g1, g2, by rw [g3, e2, Nat.mul_succ]; omega, fun r hr => (e3 r (by omega) (by omega)).tr (g4 r hr), g5, g6, g7⟩
theorem FU_12 : FU = 999987 + 12 + 1 := rfl
theorem ix_12 : ix (12 : Int32) = 12 := by decide +kernel
theorem mem_new (ha : hN h = m) (h1 : hS h m = 8) : ∃ h', f_Memory_init h m = some h' ∧ hN h' = m + 553 ∧ hZ h' = hZ h + 8508 ∧ (∀ r, r < m → SM h h' r) ∧ (hS h' m = 8 ∧ hI h' m = hI h m ∧ ∀ k, hR h' m k = if k = 0 then m + 1 else hR h m k) ∧
    (∀ c, c < 12 → hR h' (m + 1) c = m + 2 + 46 * c ∧ LN h' (m + 2 + 46 * c)) ∧ hS h' (m + 1) = 26 ∧ hL h' (m + 1) = 12 := by
  have e : m ≠ hN h + 1 := by omega
  have E : f_Memory_init h m = f_Memory_init_L15 FU (sR (hA h 26 12 12) m 0 (m + 1)) m 0 := by
    unfold f_Memory_init f_Memory_init_b0
    simp [wr, HPs, rs1, h1, ha, ix_12]
  obtain ⟨h', g1, g2, g3, g4, g5, g6, g7⟩ := mem_loop (m := m) 12 (i := 0) (h := sR (hA h 26 12 12) m 0 (m + 1)) rfl (by simp [HPs, rs1, h1, ha]) (by simp [HPs, up2]) (by simp [HPs, rs1, ha]) (by simp [HPs, rs1, ha]) (by simp [HPs, ha]) (fun c hc => absurd hc (Nat.not_lt_zero c)) 999987
  refine ⟨h', ?_, g2, ?_, fun r hr => (SM.hA (by omega)).tr ((SM.sR (by omega)).tr (g4 r (by omega))), ⟨?_, ?_, ?_⟩, g5, g6, g7⟩
  · rw [E, FU_12]; exact g1
  · rw [g3]; show hZ h + 12 + 708 * 12 = _; omega
  · rw [(g4 m (Nat.le_refl _)).1]; simp [HPs, rs1, h1, ha]
  · rw [(g4 m (Nat.le_refl _)).2.2.1]; funext k; simp [HPs, rs2, ha]
  · intro k
    rw [(g4 m (Nat.le_refl _)).2.2.2.1]
    by_cases e : k = 0
    · subst e; simp [HPs, up2]
    · simp [HPs, up2, rs2, ha, e]
end P1M
