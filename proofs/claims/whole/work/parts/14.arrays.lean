section DA
variable {l : Launch} {X : Nat × (Nat → Int32)} {μ : MI} {d pc pc' : Nat} {L L' : List (Nat × Value)} {S S' : List Value} {h h' : Hp} {o : Oc}
variable {D : va_G} {ar : Nat → ClassId} {ea av : Nat → Nat} {b : Nat} {p : Program} {e : Env} {R : Room} {s : State} {m : MethodId} {args : Array Value} {below : List Frame} {meth : Method} {c : Code} {H : Heap} {locs : List Loc} {cells slots : Nat} {Q : State → Prop} {ls : Array Slot} {st : List Value}
theorem Cx.hea (C : Cx l X μ D ar ea av b p s m args meth c) : EA ea b := C.2.2.2.2.2.2.2.2.2.2.2.2.2.1
theorem Cx.k (C : Cx l X μ D ar ea av b p s m args meth c) : va_K D vwCl (tysA ar) s := C.2.2.2.2.2.2.2.2.2.2.1
theorem Cx.oh (C : Cx l X μ D ar ea av b p s m args meth c) : OH X ea av b s s.heap := C.2.2.2.2.2.2.2.2.2.2.2.2.1
theorem Cx.ot (C : Cx l X μ D ar ea av b p s m args meth c) : OT ea s := C.2.2.2.2.2.2.2.2.2.2.2.1
theorem Cx.own (C : Cx l X μ D ar ea av b p s m args meth c) : s.vm.findClass μ.1 = some m.cls := C.2.2.2.2.1
theorem Cx.ts (C : Cx l X μ D ar ea av b p s m args meth c) : ∀ w ∈ gw, w.before args s = true := C.2.2.2.2.2.1
theorem Cx.bsz (C : Cx l X μ D ar ea av b p s m args meth c) : b < s.heap.size := C.2.2.2.2.2.2.2.2.2.2.2.2.2.2
theorem dm_arr {a sh : Nat} (hW : HW D ar ea b h H) (hs : hS h a = sh) (h20 : 20 ≤ sh) : H[ea a]? = some (arrV (ar sh) (hL h a) (cv ea h a)) := by
  subst hs
  exact (hW.2 a (by omega)).2.2.2 h20
theorem Rn.iald {a : Nat} {i : Int32} (hs : hS h a = 20) (hi : ib i (hL h a) = true) (dg : decode μ.2.1 pc = .ok (.iaload, 1)) (hp : pc + 1 = pc') (kk : Rn l X μ d pc' L (.int (hI h a (ix i)) :: S) h o h') : Rn l X μ d pc L (.int i :: .ref a :: S) h o h' := by
  subst hp
  refine ⟨kk.1, kk.2.1, fun D ar ea av b p e R s m args below meth c H locs ls n0 z0 C hn hz hc hs1 hf hl hB hS1 hW hLv => ?_⟩
  have K := kk.2.2 D ar ea av b p e R s m args below meth c H locs ls n0 z0 C hn hz hc hs1 hf hl hB hS1 hW hLv
  have h0 := (hw_lt hW C.hea (Nat.lt_of_le_of_lt kk.1 hB) (r := a) (by omega)).2.2
  show W p l e R s m args below meth c H locs _ _ _ (F0 m pc ls (.int i :: tv ea (.ref a) :: S.map (tv ea)))
  rw [tv_rf h0]
  have hin := ib_in hi
  have hlt : i.toNatClampNeg < hL h a := Nat.not_le.mp fun q => hin (Or.inr q)
  exact W.iald (v := .int (hI h a (ix i))) C.1 C.2.1 (dm_arr hW hs (by omega)) ((C.k.2 0 _ rfl).1 _ _) (fun q => by cases q) (by rw [arrV_size]; exact hin) (by rw [arrV_read _ _ hlt, cv_0 (by rw [hs]; exact kd_20 _)]; rfl) rfl rfl dg K
theorem Rn.bald {a : Nat} {i : Int32} (hs : hS h a = 21) (hi : ib i (hL h a) = true) (dg : decode μ.2.1 pc = .ok (.baload, 1)) (hp : pc + 1 = pc') (kk : Rn l X μ d pc' L (.int (hI h a (ix i)) :: S) h o h') : Rn l X μ d pc L (.int i :: .ref a :: S) h o h' := by
  subst hp
  refine ⟨kk.1, kk.2.1, fun D ar ea av b p e R s m args below meth c H locs ls n0 z0 C hn hz hc hs1 hf hl hB hS1 hW hLv => ?_⟩
  have K := kk.2.2 D ar ea av b p e R s m args below meth c H locs ls n0 z0 C hn hz hc hs1 hf hl hB hS1 hW hLv
  have h0 := (hw_lt hW C.hea (Nat.lt_of_le_of_lt kk.1 hB) (r := a) (by omega)).2.2
  show W p l e R s m args below meth c H locs _ _ _ (F0 m pc ls (.int i :: tv ea (.ref a) :: S.map (tv ea)))
  rw [tv_rf h0]
  have hin := ib_in hi
  have hlt : i.toNatClampNeg < hL h a := Nat.not_le.mp fun q => hin (Or.inr q)
  exact W.bald (v := .int (hI h a (ix i))) C.1 C.2.1 (dm_arr hW hs (by omega)) ((C.k.2 1 _ rfl).1 _ _) (fun q => by cases q) (by rw [arrV_size]; exact hin) (by rw [arrV_read _ _ hlt, cv_0 (by rw [hs]; exact kd_21 _)]; rfl) rfl rfl dg K
theorem Rn.lald {a : Nat} {i : Int32} (hs : hS h a = 22) (hi : ib i (hL h a) = true) (dg : decode μ.2.1 pc = .ok (.laload, 1)) (hp : pc + 1 = pc') (kk : Rn l X μ d pc' L (.long (hJ h a (ix i)) :: S) h o h') : Rn l X μ d pc L (.int i :: .ref a :: S) h o h' := by
  subst hp
  refine ⟨kk.1, kk.2.1, fun D ar ea av b p e R s m args below meth c H locs ls n0 z0 C hn hz hc hs1 hf hl hB hS1 hW hLv => ?_⟩
  have K := kk.2.2 D ar ea av b p e R s m args below meth c H locs ls n0 z0 C hn hz hc hs1 hf hl hB hS1 hW hLv
  have h0 := (hw_lt hW C.hea (Nat.lt_of_le_of_lt kk.1 hB) (r := a) (by omega)).2.2
  show W p l e R s m args below meth c H locs _ _ _ (F0 m pc ls (.int i :: tv ea (.ref a) :: S.map (tv ea)))
  rw [tv_rf h0]
  have hin := ib_in hi
  have hlt : i.toNatClampNeg < hL h a := Nat.not_le.mp fun q => hin (Or.inr q)
  exact W.lald (v := .long (hJ h a (ix i))) C.1 C.2.1 (dm_arr hW hs (by omega)) ((C.k.2 2 _ rfl).1 _ _) (fun q => by cases q) (by rw [arrV_size]; exact hin) (by rw [arrV_read _ _ hlt, cv_2 (by rw [hs]; exact kd_22 _)]; rfl) rfl rfl dg K
theorem tys_q {sh : Nat} (h1 : 23 ≤ sh) (h2 : sh ≤ 26) (ar : Nat → ClassId) : ∃ C0 : String, (tysA ar)[sh - 20]? = some (ar sh, .object C0) := by
  have hq : sh = 23 ∨ sh = 24 ∨ sh = 25 ∨ sh = 26 := by omega
  rcases hq with rfl | rfl | rfl | rfl <;> exact ⟨_, rfl⟩
theorem Rn.aald {a sh : Nat} {i : Int32} (hs : hS h a = sh) (h1 : 23 ≤ sh) (h2 : sh ≤ 26) (hi : ib i (hL h a) = true) (dg : decode μ.2.1 pc = .ok (.aaload, 1)) (hp : pc + 1 = pc') (kk : Rn l X μ d pc' L (.ref (hR h a (ix i)) :: S) h o h') : Rn l X μ d pc L (.int i :: .ref a :: S) h o h' := by
  subst hp
  refine ⟨kk.1, kk.2.1, fun D ar ea av b p e R s m args below meth c H locs ls n0 z0 C hn hz hc hs1 hf hl hB hS1 hW hLv => ?_⟩
  have K := kk.2.2 D ar ea av b p e R s m args below meth c H locs ls n0 z0 C hn hz hc hs1 hf hl hB hS1 hW hLv
  have h0 := (hw_lt hW C.hea (Nat.lt_of_le_of_lt kk.1 hB) (r := a) (by omega)).2.2
  show W p l e R s m args below meth c H locs _ _ _ (F0 m pc ls (.int i :: tv ea (.ref a) :: S.map (tv ea)))
  rw [tv_rf h0]
  have hin := ib_in hi
  have hlt : i.toNatClampNeg < hL h a := Nat.not_le.mp fun q => hin (Or.inr q)
  obtain ⟨C0, hty⟩ := tys_q h1 h2 ar
  exact W.aald (v := rv ea (hR h a (ix i))) (ty := .object C0) C.1 C.2.1 (dm_arr hW hs (by omega)) ((C.k.2 _ _ hty).1 _ _) rfl (fun q => by cases q) (by rw [arrV_size]; exact hin) (by rw [arrV_read _ _ hlt, cv_1 (by rw [hs]; exact kd_23 h1 _)]; rfl) rfl rfl dg K
/-- behind an array's store -/
theorem dm_ast {a sh k : Nat} {v : Value} {H' : Heap} {h1 : Hp} (hW : HW D ar ea b h H) (he : EA ea b) (hB : hN h < BIG) (hS1 : va_S (AA b) s.heap H locs) (hs : hS h a = sh) (h20 : 20 ≤ sh) (hn1 : hN h1 = hN h) (hs1 : hS h1 = hS h) (hl1 : hL h1 = hL h) (hc : ∀ r, r ≠ a → cv ea h1 r = cv ea h r) (hc1 : cv ea h1 a = updV (cv ea h a) k v)
    (e1 : H'[ea a]? = some ((arrV (ar sh) (hL h a) (cv ea h a)).setSlot k v)) (e2 : H'.size = H.size) (e3 : ∀ q, q ≠ ea a → H'[q]? = H[q]?) : HW D ar ea b h1 H' ∧ va_S (AA b) s.heap H' (locs ++ [⟨ea a, k⟩]) := by
  have hlt := hw_lt hW he hB (r := a) (by omega)
  refine ⟨hw_put hW he hB hn1 hs1 hl1 e2 e3 hc (by omega) ⟨fun z => ?_, fun _ => ?_⟩, hS1.put e2 e3 hlt.1⟩
  · rw [hs1, hs] at z; omega
  · rw [e1, hs1, hs, hl1, hc1, arrV_store]
theorem Rn.iast {a : Nat} {i v : Int32} (hs : hS h a = 20) (hi : ib i (hL h a) = true) (dg : decode μ.2.1 pc = .ok (.iastore, 1)) (hp : pc + 1 = pc') (kk : Rn l X μ d pc' L S (sI h a (ix i) v) o h') : Rn l X μ d pc L (.int v :: .int i :: .ref a :: S) h o h' := by
  subst hp
  refine ⟨kk.1, kk.2.1, fun D ar ea av b p e R s m args below meth c H locs ls n0 z0 C hn hz hc hs1 hf hl hB hS1 hW hLv => ?_⟩
  have hBn : hN h < BIG := Nat.lt_of_le_of_lt kk.1 hB
  have h0 := (hw_lt hW C.hea hBn (r := a) (by omega)).2.2
  show W p l e R s m args below meth c H locs _ _ _ (F0 m pc ls (.int v :: .int i :: tv ea (.ref a) :: S.map (tv ea)))
  rw [tv_rf h0]
  have hin := ib_in hi
  refine W.iast C.1 C.2.1 (dm_arr hW hs (by omega)) ((C.k.2 0 _ rfl).1 _ _) (fun q => by cases q) (by rw [arrV_size]; exact hin) rfl rfl dg fun H' e1 e2 e3 => ?_
  obtain ⟨g1, g2⟩ := dm_ast (h1 := sI h a (ix i) v) hW C.hea hBn hS1 hs (by omega) rfl rfl rfl (fun r hr => cv_sI_ne hr) (cv_sI (by rw [hs]; exact kd_20 _)) e1 e2 e3
  exact kk.2.2 D ar ea av b p e R s m args below meth c H' _ ls n0 z0 C hn hz hc hs1 hf hl hB g2 g1 hLv
theorem Rn.bast {a : Nat} {i v : Int32} (hs : hS h a = 21) (hi : ib i (hL h a) = true) (dg : decode μ.2.1 pc = .ok (.bastore, 1)) (hp : pc + 1 = pc') (kk : Rn l X μ d pc' L S (sI h a (ix i) v.toInt8.toInt32) o h') : Rn l X μ d pc L (.int v :: .int i :: .ref a :: S) h o h' := by
  subst hp
  refine ⟨kk.1, kk.2.1, fun D ar ea av b p e R s m args below meth c H locs ls n0 z0 C hn hz hc hs1 hf hl hB hS1 hW hLv => ?_⟩
  have hBn : hN h < BIG := Nat.lt_of_le_of_lt kk.1 hB
  have h0 := (hw_lt hW C.hea hBn (r := a) (by omega)).2.2
  show W p l e R s m args below meth c H locs _ _ _ (F0 m pc ls (.int v :: .int i :: tv ea (.ref a) :: S.map (tv ea)))
  rw [tv_rf h0]
  have hin := ib_in hi
  refine W.bast C.1 C.2.1 (dm_arr hW hs (by omega)) ((C.k.2 1 _ rfl).1 _ _) (fun q => by cases q) (by rw [arrV_size]; exact hin) rfl rfl dg fun H' e1 e2 e3 => ?_
  obtain ⟨g1, g2⟩ := dm_ast (h1 := sI h a (ix i) v.toInt8.toInt32) hW C.hea hBn hS1 hs (by omega) rfl rfl rfl (fun r hr => cv_sI_ne hr) (cv_sI (by rw [hs]; exact kd_21 _)) e1 e2 e3
  exact kk.2.2 D ar ea av b p e R s m args below meth c H' _ ls n0 z0 C hn hz hc hs1 hf hl hB g2 g1 hLv
theorem Rn.last {a : Nat} {i : Int32} {v : Int64} (hs : hS h a = 22) (hi : ib i (hL h a) = true) (dg : decode μ.2.1 pc = .ok (.lastore, 1)) (hp : pc + 1 = pc') (kk : Rn l X μ d pc' L S (sJ h a (ix i) v) o h') : Rn l X μ d pc L (.long v :: .int i :: .ref a :: S) h o h' := by
  subst hp
  refine ⟨kk.1, kk.2.1, fun D ar ea av b p e R s m args below meth c H locs ls n0 z0 C hn hz hc hs1 hf hl hB hS1 hW hLv => ?_⟩
  have hBn : hN h < BIG := Nat.lt_of_le_of_lt kk.1 hB
  have h0 := (hw_lt hW C.hea hBn (r := a) (by omega)).2.2
  show W p l e R s m args below meth c H locs _ _ _ (F0 m pc ls (.long v :: .int i :: tv ea (.ref a) :: S.map (tv ea)))
  rw [tv_rf h0]
  have hin := ib_in hi
  refine W.last C.1 C.2.1 (dm_arr hW hs (by omega)) ((C.k.2 2 _ rfl).1 _ _) (fun q => by cases q) (by rw [arrV_size]; exact hin) rfl rfl dg fun H' e1 e2 e3 => ?_
  obtain ⟨g1, g2⟩ := dm_ast (h1 := sJ h a (ix i) v) hW C.hea hBn hS1 hs (by omega) rfl rfl rfl (fun r hr => cv_sJ_ne hr) (cv_sJ (by rw [hs]; exact kd_22 _)) e1 e2 e3
  exact kk.2.2 D ar ea av b p e R s m args below meth c H' _ ls n0 z0 C hn hz hc hs1 hf hl hB g2 g1 hLv
/-- which objects go into which arrays -/
def QP (sh ci : Nat) : Prop := (sh = 23 ∧ ci = 0) ∨ (sh = 24 ∧ ci = 2) ∨ (sh = 25 ∧ ci = 1) ∨ (sh = 26 ∧ ci = 3)
theorem QP.ty {sh ci : Nat} (hq : QP sh ci) (ar : Nat → ClassId) : 23 ≤ sh ∧ sh ≤ 26 ∧ ∃ r : vw_C, vwCl[ci]? = some r ∧ (tysA ar)[sh - 20]? = some (ar sh, .object r.1) := by
  rcases hq with ⟨rfl, rfl⟩ | ⟨rfl, rfl⟩ | ⟨rfl, rfl⟩ | ⟨rfl, rfl⟩ <;> exact ⟨by omega, by omega, _, rfl, rfl⟩
theorem Rn.aast {a sh ci v : Nat} {i : Int32} (hq : QP sh ci) (hs : hS h a = sh) (hv : hS h v = ci + 1) (hi : ib i (hL h a) = true) (dg : decode μ.2.1 pc = .ok (.aastore, 1)) (hp : pc + 1 = pc') (kk : Rn l X μ d pc' L S (sR h a (ix i) v) o h') : Rn l X μ d pc L (.ref v :: .int i :: .ref a :: S) h o h' := by
  subst hp
  refine ⟨kk.1, kk.2.1, fun D ar ea av b p e R s m args below meth c H locs ls n0 z0 C hn hz hc hs1 hf hl hB hS1 hW hLv => ?_⟩
  have hBn : hN h < BIG := Nat.lt_of_le_of_lt kk.1 hB
  obtain ⟨g1, g2, r, hr, hty⟩ := hq.ty ar
  have h0 := (hw_lt hW C.hea hBn (r := a) (by omega)).2.2
  have hv0 := (hw_lt hW C.hea hBn (r := v) (by omega)).2.2
  show W p l e R s m args below meth c H locs _ _ _ (F0 m pc ls (rv ea v :: .int i :: tv ea (.ref a) :: S.map (tv ea)))
  rw [tv_rf h0]
  have hrv : rv ea v = .ref (ea v) := tv_rf (ea := ea) hv0
  rw [hrv]
  have hin := ib_in hi
  have hlt : i.toNatClampNeg < hL h a := Nat.not_le.mp fun q => hin (Or.inr q)
  have h00 : ¬ i < 0 := fun q => hin (Or.inl q)
  have hci := vw_lt hr
  obtain ⟨q2, hq2, cellV, f1, f2, f3, -⟩ := (hW.2 v (by omega)).2.2.1 (by omega)
  rw [hv, Nat.add_sub_cancel] at hq2 f2
  have hcls := (C.k.1 ci r hr).2
  obtain ⟨kA, comp, k1, k2, k3, -⟩ := (C.k.2 _ _ hty).2
  have hcomp : comp = D.1 ci := Option.some.inj (k3.symm.trans hcls.1)
  subst hcomp
  obtain ⟨kC, hkC, -⟩ := hcls.2
  refine W.aast C.1 C.2.1 (dm_arr hW hs (by omega)) (fun q h => by cases h) (fun h => by cases h) k1 k2 rfl hkC ⟨h00, by rw [arrV_size]; exact hlt⟩ f1 (fun q h => by rw [f3] at h; cases h) (by rw [f2]; exact hkC) (by rw [f2]; exact va_assign hcls) rfl rfl dg fun H' e1 e2 e3 => ?_
  obtain ⟨g3, g4⟩ := dm_ast (h1 := sR h a (ix i) v) (v := rv ea v) (k := ix i) hW C.hea hBn hS1 hs (by omega) rfl rfl rfl (fun r hr => cv_sR_ne hr) (cv_sR (by rw [hs]; exact kd_23 g1 _)) (by rw [hrv]; exact e1) e2 e3
  exact kk.2.2 D ar ea av b p e R s m args below meth c H' _ ls n0 z0 C hn hz hc hs1 hf hl hB g4 g3 hLv
theorem tys_all {sh : Nat} (h1 : 20 ≤ sh) (h2 : sh ≤ 26) (ar : Nat → ClassId) : ∃ ty : FieldType, (tysA ar)[sh - 20]? = some (ar sh, ty) := by
  have hq : sh = 20 ∨ sh = 21 ∨ sh = 22 ∨ sh = 23 ∨ sh = 24 ∨ sh = 25 ∨ sh = 26 := by omega
  rcases hq with rfl | rfl | rfl | rfl | rfl | rfl | rfl <;> exact ⟨_, rfl⟩
theorem Rn.alen {a sh : Nat} (hs : hS h a = sh) (h1 : 20 ≤ sh) (h2 : sh ≤ 26) (dg : decode μ.2.1 pc = .ok (.arraylength, 1)) (hp : pc + 1 = pc') (kk : Rn l X μ d pc' L (.int (Int32.ofNat (hL h a)) :: S) h o h') : Rn l X μ d pc L (.ref a :: S) h o h' := by
  subst hp
  refine ⟨kk.1, kk.2.1, fun D ar ea av b p e R s m args below meth c H locs ls n0 z0 C hn hz hc hs1 hf hl hB hS1 hW hLv => ?_⟩
  have K := kk.2.2 D ar ea av b p e R s m args below meth c H locs ls n0 z0 C hn hz hc hs1 hf hl hB hS1 hW hLv
  have h0 := (hw_lt hW C.hea (Nat.lt_of_le_of_lt kk.1 hB) (r := a) (by omega)).2.2
  show W p l e R s m args below meth c H locs _ _ _ (F0 m pc ls (tv ea (.ref a) :: S.map (tv ea)))
  rw [tv_rf h0]
  obtain ⟨ty, hty⟩ := tys_all h1 h2 ar
  exact W.alen (n := Int32.ofNat (hL h a)) C.1 C.2.1 (dm_arr hW hs h1) ((C.k.2 _ _ hty).1 _ _) (by rw [arrV_size] <;> rfl) rfl rfl dg K
/-- the script -/
theorem Rn.sld {i : Int32} (hi : ib i X.1 = true) (dg : decode μ.2.1 pc = .ok (.iaload, 1)) (hp : pc + 1 = pc') (kk : Rn l X μ d pc' L (.int (X.2 (ix i)) :: S) h o h') : Rn l X μ d pc L (.int i :: .ref SCR :: S) h o h' := by
  subst hp
  refine ⟨kk.1, kk.2.1, fun D ar ea av b p e R s m args below meth c H locs ls n0 z0 C hn hz hc hs1 hf hl hB hS1 hW hLv => ?_⟩
  have K := kk.2.2 D ar ea av b p e R s m args below meth c H locs ls n0 z0 C hn hz hc hs1 hf hl hB hS1 hW hLv
  show W p l e R s m args below meth c H locs _ _ _ (F0 m pc ls (.int i :: tv ea (.ref SCR) :: S.map (tv ea)))
  rw [tv_rf (by unfold SCR BIG; omega)]
  obtain ⟨-, -, -, -, hX, hle, -⟩ := C.oh
  exact va_sld C.1 C.2.1 hX (Nat.lt_of_le_of_lt hle C.bsz) (Nat.not_lt.mpr hle) hS1 (ib_in hi) dg K
theorem Rn.slen (dg : decode μ.2.1 pc = .ok (.arraylength, 1)) (hp : pc + 1 = pc') (kk : Rn l X μ d pc' L (.int (Int32.ofNat X.1) :: S) h o h') : Rn l X μ d pc L (.ref SCR :: S) h o h' := by
  subst hp
  refine ⟨kk.1, kk.2.1, fun D ar ea av b p e R s m args below meth c H locs ls n0 z0 C hn hz hc hs1 hf hl hB hS1 hW hLv => ?_⟩
  have K := kk.2.2 D ar ea av b p e R s m args below meth c H locs ls n0 z0 C hn hz hc hs1 hf hl hB hS1 hW hLv
  show W p l e R s m args below meth c H locs _ _ _ (F0 m pc ls (tv ea (.ref SCR) :: S.map (tv ea)))
  rw [tv_rf (by unfold SCR BIG; omega)]
  obtain ⟨-, -, -, -, hX, hle, -⟩ := C.oh
  exact va_slen C.1 C.2.1 hX (Nat.lt_of_le_of_lt hle C.bsz) (Nat.not_lt.mpr hle) hS1 dg K
end DA
