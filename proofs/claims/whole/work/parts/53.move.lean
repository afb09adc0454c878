/-! ===== moveMost of the class ===== -/
section U3
variable {h : Hp} {g g' g1 : Nat → Nat → Int32} {A a b c T k n l r y j m q u w : Nat} {v x : Int32} {f p : Nat → Nat}
theorem drN_add : drN (drN f n) m = drN f (n + m) := by
  induction m with
  | zero => rfl
  | succ m ih =>
    show drF (drN (drN f n) m) = drF (drN f (n + m))
    rw [ih]
theorem i_eqn {a b : Nat} (e : x + nI b = nI a) (h : b ≤ a) : x = nI (a - b) := by
  rw [← pk_sub h]
  exact Int32.eq_sub_iff_add_eq.mpr e
theorem i_0 : x + nI 0 = x := by rw [nI_0, Int32.add_zero]
/-- u of the from's measures are gone, w of them to T, the others lost -/
def MV (g g' : Nat → Nat → Int32) (A a T : Nat) (f : Nat → Nat) (u w : Nat) : Prop :=
  (∀ k, k < 30 → g' (a + 1) k = nI (drN f u k)) ∧ g' a 5 = nI (smN f 30 - u) ∧ (T ≠ 0 → (∀ k, k < 30 → g' (T + 1) k = g (T + 1) k + nI (shF f w k)) ∧ g' T 5 = g T 5 + nI w) ∧ g' A 12 = g A 12 + nI (u - w) ∧
  ∀ r k, ¬ (r = a + 1 ∧ k < 30) → ¬ (r = a ∧ k = 5) → (T ≠ 0 → ¬ (r = T + 1 ∧ k < 30) ∧ ¬ (r = T ∧ k = 5)) → ¬ (r = A ∧ k = 12) → g' r k = g r k
theorem shF_le : shF f n y ≤ f y := Nat.sub_le _ _
theorem sh_dr : f y - shF f n y = drN f n y := by
  have := drN_le (f := f) (n := n) (y := y)
  unfold shF
  omega
theorem C_move_41 (tA : hS h A = 4) (t : CS h a) (e1 : A ≠ a) (e2 : A ≠ a + 1) (hg : ∀ y, y < 30 → g (a + 1) y = nI (f y)) (hf : ∀ y, y < 30 → f y ≤ 999) (h5 : g a 5 = nI (smN f 30)) (hw : w ≤ u) (hu : u - w ≤ smN f 30) (hb : u < 2 ^ 20) :
    ∃ g', f_Land_moveMost_b41 (uI h g) A a (nI u) (nI w) = some (uI h g') ∧ (∀ k, k < 30 → g' (a + 1) k = nI (drN f (u - w) k)) ∧ g' a 5 = nI (smN f 30 - (u - w)) ∧ g' A 12 = g A 12 + nI (u - w) ∧
      ∀ r k, ¬ (r = a + 1 ∧ k < 30) → ¬ (r = a ∧ k = 5) → ¬ (r = A ∧ k = 12) → g' r k = g r k := by
  obtain ⟨s, -⟩ := t.un (g := g)
  unfold f_Land_moveMost_b41
  by_cases e : u ≤ w
  · obtain rfl : u = w := by omega
    rw [if_pos (Int32.le_refl _)]
    refine ⟨g, rfl, fun k hk => ?_, ?_, ?_, fun _ _ _ _ _ => rfl⟩
    · rw [Nat.sub_self]; exact hg k hk
    · rw [Nat.sub_self]; exact h5
    · rw [Nat.sub_self, i_0]
  · rw [if_neg (nI_ge (by omega) (by omega)), if_pos s, pk_sub hw]
    obtain ⟨g1, q1, p1, p2, -, p4⟩ := C_give t (T := 0) (Or.inl rfl) hg hf hu
    rw [q1, bV_s]
    have tA1 : hS (uI h g1) A = 4 := tA
    rw [if_pos tA1]
    refine ⟨up2 g1 A 12 (g1 A 12 + nI (u - w)), rfl, fun k hk => ?_, ?_, ?_, fun r k h1 h2 h3 => ?_⟩
    · rw [up_r (by omega)]
      have := p1 k hk
      rw [hg k hk] at this
      rw [i_eqn this shF_le, sh_dr]
    · rw [up_r (by omega)]
      rw [shF_sum hu, h5] at p2
      exact i_eqn p2 hu
    · rw [up_eq, p4 A 12 (fun z => e2 z.1) (fun z => e1 z.1) (fun z => absurd rfl z)]
    · have : up2 g1 A 12 (g1 A 12 + nI (u - w)) r k = g1 r k := if_neg h3
      rw [this, p4 r k h1 h2 (fun z => absurd rfl z)]
theorem C_move_27 (tA : hS h A = 4) (t : CS h a) (T1 : isT h a T) (e1 : A ≠ a) (e2 : A ≠ a + 1) (e3 : A ≠ T) (e4 : A ≠ T + 1) (hg : ∀ y, y < 30 → g (a + 1) y = nI (f y)) (hf : ∀ y, y < 30 → f y ≤ 999) (h5 : g a 5 = nI (smN f 30)) (hw : w ≤ u) (hu : u ≤ smN f 30) (hb : u < 2 ^ 20) (hz : T = 0 → w = 0) :
    ∃ g', f_Land_moveMost_b27 (uI h g) A a T (nI u) (nI w) = some (uI h g') ∧ MV g g' A a T f u w := by
  obtain ⟨s, -⟩ := t.un (g := g)
  unfold f_Land_moveMost_b27
  by_cases e : w = 0
  · subst e
    rw [if_pos (show nI 0 ≤ 0 from by decide)]
    obtain ⟨g1, q1, p1, p2, p3, p4⟩ := C_move_41 tA t e1 e2 hg hf h5 (w := 0) (u := u) (Nat.zero_le _) (by omega) hb
    refine ⟨g1, q1, fun k hk => by rw [p1 k hk]; rfl, p2, fun hT => ?_, p3, fun r k h1 h2 h3 h4 => p4 r k h1 h2 h4⟩
    obtain ⟨-, x1, x2, x3⟩ := T1.resolve_left hT
    refine ⟨fun k hk => ?_, ?_⟩
    · have z : shF f 0 k = 0 := Nat.sub_self _
      rw [z, i_0, p4 (T + 1) k (fun z => by have := z.1; omega) (fun z => by have := z.1; omega) (fun z => by have := z.1; omega)]
    · rw [i_0, p4 T 5 (fun z => by have := z.1; omega) (fun z => by have := z.1; omega) (fun z => by have := z.1; omega)]
  · have hT : T ≠ 0 := fun z => e (hz z)
    obtain ⟨-, x1, x2, x3⟩ := T1.resolve_left hT
    rw [if_neg (nI_nle (by omega) (by omega)), if_pos s]
    obtain ⟨g2, q2, r1, r2, r3, r4⟩ := C_give t T1 hg hf (n := w) (by omega)
    rw [q2, bV_s]
    obtain ⟨r5, r6⟩ := r3 hT
    have sm := drN_sum (f := f) (n := w) (by omega)
    have hg2 : ∀ y, y < 30 → g2 (a + 1) y = nI (drN f w y) := fun k hk => by
      have := r1 k hk
      rw [hg k hk] at this
      rw [i_eqn this shF_le, sh_dr]
    have h52 : g2 a 5 = nI (smN (drN f w) 30) := by
      rw [shF_sum (by omega), h5] at r2
      rw [i_eqn r2 (by omega)]
      congr 1
      omega
    obtain ⟨g1, q1, p1, p2, p3, p4⟩ := C_move_41 tA t e1 e2 hg2 (fun y hy => Nat.le_trans drN_le (hf y hy)) h52 hw (by omega) hb
    refine ⟨g1, q1, fun k hk => ?_, ?_, fun _ => ⟨fun k hk => ?_, ?_⟩, ?_, fun r k h1 h2 h3 h4 => ?_⟩
    · rw [p1 k hk, drN_add, show w + (u - w) = u from by omega]
    · rw [p2]; congr 1; omega
    · rw [p4 (T + 1) k (fun z => by have := z.1; omega) (fun z => by have := z.1; omega) (fun z => by have := z.1; omega), r5 k hk]
    · rw [p4 T 5 (fun z => by have := z.1; omega) (fun z => by have := z.1; omega) (fun z => by have := z.1; omega), r6, shF_sum (by omega)]
    · rw [p3, r4 A 12 (fun z => e2 z.1) (fun z => e1 z.1) (fun _ => ⟨fun z => e4 z.1, fun z => e3 z.1⟩)]
    · rw [p4 r k h1 h2 h4, r4 r k h1 h2 h3]
theorem C_move (tA : hS h A = 4) (t : CS h a) (T1 : isT h a T) (e1 : A ≠ a) (e2 : A ≠ a + 1) (e3 : A ≠ T) (e4 : A ≠ T + 1) (hg : ∀ y, y < 30 → g (a + 1) y = nI (f y)) (hf : ∀ y, y < 30 → f y ≤ 999) (h5 : g a 5 = nI (smN f 30)) (hn : n < 2 ^ 20) (hT : T ≠ 0 → g T 0 = nI q ∧ g T 5 = nI m ∧ q < 2 ^ 20 ∧ m < 2 ^ 20) :
    ∃ g', f_Land_moveMost (uI h g) A a T (nI n) = some (uI h g') ∧ MV g g' A a T f (min n (smN f 30)) (if T = 0 then 0 else min (min n (smN f 30)) (q - m)) := by
  have hs : smN f 30 ≤ 29970 := ab_le (l := 0) hf
  obtain ⟨s, -⟩ := t.un (g := g)
  unfold f_Land_moveMost f_Land_moveMost_b0
  rw [if_pos s, hI_u, h5, mn_n (by omega) (by omega), bI_s]
  by_cases e : T = 0
  · rw [if_pos e, if_pos e]
    exact C_move_27 tA t T1 e1 e2 e3 e4 hg hf h5 (Nat.zero_le _) (by omega) (by omega) (fun _ => rfl)
  · obtain ⟨c, -⟩ := T1.resolve_left e
    obtain ⟨s2, -⟩ := c.un (g := g)
    obtain ⟨k1, k2, k3, k4⟩ := hT e
    rw [if_neg e, if_neg e, if_pos s2, C_free c k1 k2 (by omega) (by omega), bI_s, mn_n (by omega) (by omega), bI_s]
    exact C_move_27 tA t T1 e1 e2 e3 e4 hg hf h5 (by omega) (by omega) (by omega) (fun z => absurd z e)
end U3
