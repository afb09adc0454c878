/-! ===== the rules of Rn for fields and arrays ===== -/
theorem inX0 : ∀ w ∈ wsX00, w ∈ lw_tbl := by decide +kernel
theorem inX1 : ∀ w ∈ wsX10, w ∈ lw_tbl := by decide +kernel
theorem inX2 : ∀ w ∈ wsX20, w ∈ lw_tbl := by decide +kernel
theorem inX3 : ∀ w ∈ wsX30, w ∈ lw_tbl := by decide +kernel
theorem inX4 : ∀ w ∈ wsX40, w ∈ lw_tbl := by decide +kernel
theorem inX5 : ∀ w ∈ wsX50, w ∈ lw_tbl := by decide +kernel
theorem inX6 : ∀ w ∈ wsX60, w ∈ lw_tbl := by decide +kernel
theorem inX8 : ∀ w ∈ wsX80, w ∈ lw_tbl := by decide +kernel
theorem inX9 : ∀ w ∈ wsX90, w ∈ lw_tbl := by decide +kernel
theorem inX10 : ∀ w ∈ wsX100, w ∈ lw_tbl := by decide +kernel
theorem inX11 : ∀ w ∈ wsX110, w ∈ lw_tbl := by decide +kernel
theorem in_gw {ws : List Cond} (h : ∀ w ∈ ws, w ∈ lw_tbl) (g : ws.all goodWord = true) : ∀ w ∈ ws, w ∈ gw := fun w hw => List.mem_filter.mpr ⟨h w hw, List.all_eq_true.mp g w hw⟩
/-- what is known of a class by its place in vwCl -/
def CF (ci : Nat) : Prop := ∃ q : vw_C, vwCl[ci]? = some q ∧ (∀ w ∈ u_ws q.1 q.2.1 q.2.2, w ∈ gw) ∧ (∀ k, k < q.2.2 → parseFieldDescriptor (q.2.1 k).2.2.1 = some (tyA ci k)) ∧ (∀ a, a < q.2.2 → ∀ b, b < q.2.2 → a ≠ b → (q.2.1 a).2.1 ≠ (q.2.1 b).2.1) ∧ Cond.instantiable q.1 q.2.2 ∈ gw ∧ Cond.initialized q.1 ∈ gw
theorem mem_gw {w : Cond} (h : w ∈ lw_tbl) (g : goodWord w = true) : w ∈ gw := List.mem_filter.mpr ⟨h, g⟩
theorem CF_all : ∀ ci, ci < 11 → CF ci := by
  intro ci h
  match ci, h with
  | 0, _ => exact ⟨_, rfl, in_gw inX0 (by decide +kernel), tyX0_ok, nmX0, mem_gw (by decide +kernel) (by decide +kernel), mem_gw (by decide +kernel) (by decide +kernel)⟩
  | 1, _ => exact ⟨_, rfl, in_gw inX1 (by decide +kernel), tyX1_ok, nmX1, mem_gw (by decide +kernel) (by decide +kernel), mem_gw (by decide +kernel) (by decide +kernel)⟩
  | 2, _ => exact ⟨_, rfl, in_gw inX2 (by decide +kernel), tyX2_ok, nmX2, mem_gw (by decide +kernel) (by decide +kernel), mem_gw (by decide +kernel) (by decide +kernel)⟩
  | 3, _ => exact ⟨_, rfl, in_gw inX3 (by decide +kernel), tyX3_ok, nmX3, mem_gw (by decide +kernel) (by decide +kernel), mem_gw (by decide +kernel) (by decide +kernel)⟩
  | 4, _ => exact ⟨_, rfl, in_gw inX4 (by decide +kernel), tyX4_ok, nmX4, mem_gw (by decide +kernel) (by decide +kernel), mem_gw (by decide +kernel) (by decide +kernel)⟩
  | 5, _ => exact ⟨_, rfl, in_gw inX5 (by decide +kernel), tyX5_ok, nmX5, mem_gw (by decide +kernel) (by decide +kernel), mem_gw (by decide +kernel) (by decide +kernel)⟩
  | 6, _ => exact ⟨_, rfl, in_gw inX6 (by decide +kernel), tyX6_ok, nmX6, mem_gw (by decide +kernel) (by decide +kernel), mem_gw (by decide +kernel) (by decide +kernel)⟩
  | 7, _ => exact ⟨_, rfl, in_gw inX8 (by decide +kernel), tyX8_ok, nmX8, mem_gw (by decide +kernel) (by decide +kernel), mem_gw (by decide +kernel) (by decide +kernel)⟩
  | 8, _ => exact ⟨_, rfl, in_gw inX9 (by decide +kernel), tyX9_ok, nmX9, mem_gw (by decide +kernel) (by decide +kernel), mem_gw (by decide +kernel) (by decide +kernel)⟩
  | 9, _ => exact ⟨_, rfl, in_gw inX10 (by decide +kernel), tyX10_ok, nmX10, mem_gw (by decide +kernel) (by decide +kernel), mem_gw (by decide +kernel) (by decide +kernel)⟩
  | 10, _ => exact ⟨_, rfl, in_gw inX11 (by decide +kernel), tyX11_ok, nmX11, mem_gw (by decide +kernel) (by decide +kernel), mem_gw (by decide +kernel) (by decide +kernel)⟩
/-- the pool entry idx of the class own is the field k of the class ci -/
def FL (own : String) (idx ci k : Nat) : Prop := ∃ q : vw_C, vwCl[ci]? = some q ∧ k < q.2.2 ∧ ∃ ref : String, Cond.fieldLink own idx ref (q.2.1 k).2.1 (q.2.1 k).2.2.1 ∈ gw ∧ (ref = (q.2.1 k).1 ∨ Cond.sameField ref (q.2.1 k).1 (q.2.1 k).2.1 (q.2.1 k).2.2.1 ∈ gw)
theorem vw_lt {ci : Nat} {q : vw_C} (h : vwCl[ci]? = some q) : ci < 11 := (List.getElem?_eq_some_iff.mp h).1
section DC
variable {l : Launch} {X : Nat × (Nat → Int32)} {μ : MI} {d pc pc' : Nat} {L L' : List (Nat × Value)} {S S' : List Value} {h h' : Hp} {o : Oc}
variable {D : va_G} {ar : Nat → ClassId} {ea av : Nat → Nat} {b : Nat} {p : Program} {e : Env} {R : Room} {s : State} {m : MethodId} {args : Array Value} {below : List Frame} {meth : Method} {c : Code} {H : Heap} {locs : List Loc} {cells slots : Nat} {Q : State → Prop} {ls : Array Slot} {st : List Value}
theorem dm_same {s : State} {args : Array Value} {q : vw_C} {k : Nat} {ref : String} (hts : ∀ w ∈ gw, w.before args s = true) (h : ref = (q.2.1 k).1 ∨ Cond.sameField ref (q.2.1 k).1 (q.2.1 k).2.1 (q.2.1 k).2.2.1 ∈ gw) :
    ∀ x, s.fieldFound? (q.2.1 k).1 (q.2.1 k).2.1 (q.2.1 k).2.2.1 = some x → s.fieldFound? ref (q.2.1 k).2.1 (q.2.1 k).2.2.1 = some x := by
  intro x hx
  rcases h with h | h
  · rw [h]; exact hx
  · exact u_same (hts _ h) x hx
/-- a field is read -/
theorem dm_get (C : Cx l X μ D ar ea av b p s m args meth c) {a ci k idx : Nat} (fl : FL μ.1 idx ci k) (hs : hS h a = ci + 1) (hW : HW D ar ea b h H) (dg : decode μ.2.1 pc = .ok (.getfield idx, 3))
    (kk : W p l e R s m args below meth c H locs cells slots Q (F0 m (pc + 3) ls (cv ea h a k :: st))) : W p l e R s m args below meth c H locs cells slots Q (F0 m pc ls (.ref (ea a) :: st)) := by
  obtain ⟨hx, hb, -, -, hown, hts, -, -, -, -, hK, -⟩ := C
  obtain ⟨q, hq, hk, ref, hlk, hsm⟩ := fl
  have hci := vw_lt hq
  obtain ⟨q', hq', hin, -⟩ := CF_all ci hci
  cases hq.symm.trans hq'
  obtain ⟨-, -, hck⟩ := hW.2 a (by omega)
  obtain ⟨q2, hq2, hob⟩ := hck.1 (by omega)
  rw [hs, Nat.add_sub_cancel] at hq2 hob
  cases hq.symm.trans hq2
  obtain ⟨C0, T, N⟩ := q
  have hP : va_P D vwCl [(ea a, .inr (ci, (List.range N).map (cv ea h a)))] H := by
    intro j x hx0
    have hj : j = 0 := by have := (List.getElem?_eq_some_iff.mp hx0).1; simpa using this
    subst hj
    cases hx0
    refine ⟨_, hq, hob.to fun z hz => ?_⟩
    simp [vp_V, hz]
  exact va_get hx hb hts hin hown hK hP 0 rfl hq k hk (hts _ hlk) (dm_same hts hsm) (by simp [hk]) dg kk
theorem Rn.getI {a ci k idx : Nat} (fl : FL μ.1 idx ci k) (hs : hS h a = ci + 1) (hk : kd (ci + 1) k = 0) (dg : decode μ.2.1 pc = .ok (.getfield idx, 3)) (hp : pc + 3 = pc') (kk : Rn l X μ d pc' L (.int (hI h a k) :: S) h o h') : Rn l X μ d pc L (.ref a :: S) h o h' := by
  subst hp
  refine ⟨kk.1, kk.2.1, fun D ar ea av b p e R s m args below meth c H locs ls n0 z0 C hn hz hc hs1 hf hl hB hS1 hW hL => ?_⟩
  have K := kk.2.2 D ar ea av b p e R s m args below meth c H locs ls n0 z0 C hn hz hc hs1 hf hl hB hS1 hW hL
  have h0 := (hw_lt hW C.2.2.2.2.2.2.2.2.2.2.2.2.2.1 (Nat.lt_of_le_of_lt kk.1 hB) (r := a) (by omega)).2.2
  show W p l e R s m args below meth c H locs _ _ _ (F0 m pc ls (tv ea (.ref a) :: S.map (tv ea)))
  rw [tv_rf h0]
  exact dm_get C fl hs hW dg (by rw [cv_0 (by rw [hs]; exact hk)]; exact K)
theorem Rn.getR {a ci k idx : Nat} (fl : FL μ.1 idx ci k) (hs : hS h a = ci + 1) (hk : kd (ci + 1) k = 1) (dg : decode μ.2.1 pc = .ok (.getfield idx, 3)) (hp : pc + 3 = pc') (kk : Rn l X μ d pc' L (.ref (hR h a k) :: S) h o h') : Rn l X μ d pc L (.ref a :: S) h o h' := by
  subst hp
  refine ⟨kk.1, kk.2.1, fun D ar ea av b p e R s m args below meth c H locs ls n0 z0 C hn hz hc hs1 hf hl hB hS1 hW hL => ?_⟩
  have K := kk.2.2 D ar ea av b p e R s m args below meth c H locs ls n0 z0 C hn hz hc hs1 hf hl hB hS1 hW hL
  have h0 := (hw_lt hW C.2.2.2.2.2.2.2.2.2.2.2.2.2.1 (Nat.lt_of_le_of_lt kk.1 hB) (r := a) (by omega)).2.2
  show W p l e R s m args below meth c H locs _ _ _ (F0 m pc ls (tv ea (.ref a) :: S.map (tv ea)))
  rw [tv_rf h0]
  exact dm_get C fl hs hW dg (by rw [cv_1 (by rw [hs]; exact hk)]; exact K)
/-- a field is written: what must be of the value -/
theorem dm_put (C : Cx l X μ D ar ea av b p s m args meth c) {a ci k idx : Nat} (fl : FL μ.1 idx ci k) (hs : hS h a = ci + 1) (hW : HW D ar ea b h H) (hB : hN h < BIG) (hS1 : va_S (AA b) s.heap H locs) {v : Value} (hfin : ∀ q : vw_C, vwCl[ci]? = some q → (q.2.1 k).2.2.2 = false ∨ (μ.2.2.2.2.2 = true ∧ (q.2.1 k).1 = μ.1)) (hnr : narrow (tyA ci k) v = v) (hft : fits (tyA ci k) v = true)
    {h1 : Hp} (hn1 : hN h1 = hN h) (hs1 : hS h1 = hS h) (hl1 : hL h1 = hL h) (hc : ∀ r, r ≠ a → cv ea h1 r = cv ea h r) (hc1 : cv ea h1 a = updV (cv ea h a) k v) (dg : decode μ.2.1 pc = .ok (.putfield idx, 3))
    (kk : ∀ (H1 : Heap) (locs1 : List Loc), HW D ar ea b h1 H1 → va_S (AA b) s.heap H1 locs1 → W p l e R s m args below meth c H1 locs1 cells slots Q (F0 m (pc + 3) ls st)) : W p l e R s m args below meth c H locs cells slots Q (F0 m pc ls (v :: .ref (ea a) :: st)) := by
  obtain ⟨hx, hb, -, -, hown, hts, -, -, -, hini, hK, -, -, he, -⟩ := C
  obtain ⟨q, hq, hk, ref, hlk, hsm⟩ := fl
  have hci := vw_lt hq
  obtain ⟨q', hq', hin, hty, hnm, -⟩ := CF_all ci hci
  cases hq.symm.trans hq'
  obtain ⟨-, -, hck⟩ := hW.2 a (by omega)
  obtain ⟨q2, hq2, hob⟩ := hck.1 (by omega)
  rw [hs, Nat.add_sub_cancel] at hq2 hob
  cases hq.symm.trans hq2
  have hfin := hfin q hq
  obtain ⟨C0, T, N⟩ := q
  obtain ⟨cell, q1, q2, q3, q4⟩ := hob
  have hap := va_apart (own := μ.1) hts hin (tyA ci) hty hnm hK hq
  obtain ⟨hSl, hfc, kC, hkC, hkind⟩ := hK.1 ci _ hq
  obtain ⟨cf, kf, fi, f, hi, hsl⟩ := hSl k hk
  have hst := (u_facts hfc hkC (u_lays hts hin hk) hi).1
  have hlt := hw_lt hW he hB (r := a) (by omega)
  have key : ∀ H' : Heap, H'[ea a]? = some (cell.setSlot f.slot v) → H'.size = H.size → (∀ q, q ≠ ea a → H'[q]? = H[q]?) → HW D ar ea b h1 H' ∧ va_S (AA b) s.heap H' (locs ++ [⟨ea a, f.slot⟩]) := by
    intro H' e1 e2 e3
    refine ⟨hw_put hW he hB hn1 hs1 hl1 e2 e3 hc (by omega) ⟨fun _ => ?_, fun z => ?_⟩, hS1.put e2 e3 hlt.1⟩
    · rw [hs1, hs, Nat.add_sub_cancel]
      rw [hsl] at e1
      exact ⟨_, hq, by rw [hc1]; exact ⟨_, e1, q2, q3, t_set q4 hap hk v⟩⟩
    · rw [hs1, hs] at z; omega
  have hlay := hts _ (hin _ (u_in_lay hk))
  unfold u_lay at hlay
  by_cases hf0 : (T k).2.2.2 = false
  · rw [if_neg (by rw [hf0]; decide)] at hlay
    have h6 := u_store hfc hkC hkind hlay hi (hty k hk) hnr hft
    refine W.putK hx hb (f := f) ⟨hown, hts _ hlk, ⟨_, _, _, dm_same (q := (C0, T, N)) hts hsm _ hi⟩, hst⟩ (by rw [q2]; exact h6) q1 q3 (by rw [hsl]; exact k2_hasslot (q4 k hk)) rfl rfl dg fun H' e1 e2 e3 => ?_
    obtain ⟨g1, g2⟩ := key H' e1 e2 e3
    exact kk H' _ g1 g2
  · have hf1 : (T k).2.2.2 = true := by cases hz : (T k).2.2.2 <;> simp_all
    rw [if_pos hf1] at hlay
    rcases hfin with hfin | ⟨hi2, hdecl⟩
    · exact absurd hfin hf0
    have hcf : m.cls = cf := by
      obtain ⟨_, _, c', _, _, _, -, -, hf', -, -, -, hown2, -⟩ := Cond.laysFinal_spec hlay
      have e1 : c' = cf := by have := hi.symm.trans hf'; simp at this; exact this.1.symm
      have hdecl' : (T k).1 = μ.1 := hdecl
      rw [hdecl'] at hown2
      rw [← e1]; exact Option.some.inj (hown.symm.trans hown2)
    have h6 := u_fits hfc hkC hkind (Or.inr hlay) hi (hty k hk) hnr hft
    refine W.putFinK hx hb hown (hts _ hlk) (dm_same (q := (C0, T, N)) hts hsm _ hi) hst hcf (hini hi2) (by rw [q2]; exact h6) q1 q3 (by rw [hsl]; exact k2_hasslot (q4 k hk)) rfl rfl dg fun H' e1 e2 e3 => ?_
    obtain ⟨g1, g2⟩ := key H' e1 e2 e3
    exact kk H' _ g1 g2
/-- may the field k of the class ci be written here -/
def FW (μ : MI) (ci k : Nat) : Prop := ∀ q : vw_C, vwCl[ci]? = some q → (q.2.1 k).2.2.2 = false ∨ (μ.2.2.2.2.2 = true ∧ (q.2.1 k).1 = μ.1)
theorem Rn.putI {a ci k idx : Nat} {v : Int32} (fl : FL μ.1 idx ci k) (fw : FW μ ci k) (hs : hS h a = ci + 1) (hk : kd (ci + 1) k = 0) (hnr : narrow (tyA ci k) (.int v) = .int v) (hft : fits (tyA ci k) (.int v) = true) (dg : decode μ.2.1 pc = .ok (.putfield idx, 3)) (hp : pc + 3 = pc') (kk : Rn l X μ d pc' L S (sI h a k v) o h') : Rn l X μ d pc L (.int v :: .ref a :: S) h o h' := by
  subst hp
  refine ⟨kk.1, kk.2.1, fun D ar ea av b p e R s m args below meth c H locs ls n0 z0 C hn hz hc hs1 hf hl hB hS1 hW hL => ?_⟩
  have hBn : hN h < BIG := Nat.lt_of_le_of_lt kk.1 hB
  have h0 := (hw_lt hW C.2.2.2.2.2.2.2.2.2.2.2.2.2.1 hBn (r := a) (by omega)).2.2
  show W p l e R s m args below meth c H locs _ _ _ (F0 m pc ls (.int v :: tv ea (.ref a) :: S.map (tv ea)))
  rw [tv_rf h0]
  exact dm_put C fl hs hW hBn hS1 fw hnr hft (h1 := sI h a k v) rfl rfl rfl (fun r hr => cv_sI_ne hr) (cv_sI (by rw [hs]; exact hk)) dg fun H1 locs1 hW1 hS2 => kk.2.2 D ar ea av b p e R s m args below meth c H1 locs1 ls n0 z0 C hn hz hc hs1 hf hl hB hS2 hW1 hL
theorem nar_rf {ty : FieldType} (h : kdT ty = 1) (ea : Nat → Nat) (r : Nat) : narrow ty (rv ea r) = rv ea r ∧ fits ty (rv ea r) = true := by
  unfold rv
  cases ty <;> first | (simp [kdT] at h; done) | (split <;> exact ⟨rfl, rfl⟩)
theorem Rn.putR {a ci k idx r : Nat} (fl : FL μ.1 idx ci k) (fw : FW μ ci k) (hs : hS h a = ci + 1) (hk : kdT (tyA ci k) = 1) (hk2 : kd (ci + 1) k = 1) (dg : decode μ.2.1 pc = .ok (.putfield idx, 3)) (hp : pc + 3 = pc') (kk : Rn l X μ d pc' L S (sR h a k r) o h') : Rn l X μ d pc L (.ref r :: .ref a :: S) h o h' := by
  subst hp
  refine ⟨kk.1, kk.2.1, fun D ar ea av b p e R s m args below meth c H locs ls n0 z0 C hn hz hc hs1 hf hl hB hS1 hW hL => ?_⟩
  have hBn : hN h < BIG := Nat.lt_of_le_of_lt kk.1 hB
  have h0 := (hw_lt hW C.2.2.2.2.2.2.2.2.2.2.2.2.2.1 hBn (r := a) (by omega)).2.2
  show W p l e R s m args below meth c H locs _ _ _ (F0 m pc ls (rv ea r :: tv ea (.ref a) :: S.map (tv ea)))
  rw [tv_rf h0]
  exact dm_put C fl hs hW hBn hS1 fw (nar_rf hk ea r).1 (nar_rf hk ea r).2 (h1 := sR h a k r) rfl rfl rfl (fun r hr => cv_sR_ne hr) (cv_sR (by rw [hs]; exact hk2)) dg fun H1 locs1 hW1 hS2 => kk.2.2 D ar ea av b p e R s m args below meth c H1 locs1 ls n0 z0 C hn hz hc hs1 hf hl hB hS2 hW1 hL
end DC
