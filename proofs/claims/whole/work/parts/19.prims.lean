/-! ===== what the written proofs use besides; arraycopy, clone ===== -/
theorem kp_sI {h h1 : Hp} {a k r c : Nat} {v : Int32} (e : sI h a k v = h1) (g : hS h r = c) : hS h1 r = c := by rw [← e]; exact g
theorem kp_sR {h h1 : Hp} {a k r c v : Nat} (e : sR h a k v = h1) (g : hS h r = c) : hS h1 r = c := by rw [← e]; exact g
theorem kp_sJ {h h1 : Hp} {a k r c : Nat} {v : Int64} (e : sJ h a k v = h1) (g : hS h r = c) : hS h1 r = c := by rw [← e]; exact g
theorem kp_cI {h h1 : Hp} {a r c : Nat} {f : Nat → Int32} (e : cI h a f = h1) (g : hS h r = c) : hS h1 r = c := by rw [← e]; exact g
theorem kp_nA {h h1 : Hp} {sh len z : Nat} (e : hA h sh len z = h1) : hS h1 (hN h + 1) = sh := by rw [← e]; simp [hS, hA, rs1]
theorem kp_nC {h h1 : Hp} {sh len z : Nat} {a : Nat} {f : Nat → Int32} (e : cI (hA h sh len z) a f = h1) : hS h1 (hN h + 1) = sh := by rw [← e]; simp [hS, cI, hA, rs1]
theorem kp_n0 {h : Hp} {a c : Nat} (g : hS h a = c + 1) : hS h a ≠ 0 := by omega
theorem pre0 {P : ExceptionTableEntry → Prop} {l : List ExceptionTableEntry} : ∀ w ∈ l.take 0, P w := fun w hw => by simp at hw
theorem pre1 {P : ExceptionTableEntry → Prop} {a : ExceptionTableEntry} {l : List ExceptionTableEntry} (h : P a) : ∀ w ∈ (a :: l).take 1, P w := fun w hw => by
  rw [List.mem_singleton.mp (show w ∈ [a] from hw)]; exact h
theorem pre2 {P : ExceptionTableEntry → Prop} {a b : ExceptionTableEntry} {l : List ExceptionTableEntry} (h : P a) (h2 : P b) : ∀ w ∈ (a :: b :: l).take 2, P w := fun w hw => by
  rcases List.mem_cons.mp (show w ∈ [a, b] from hw) with rfl | hw
  · exact h
  · rw [List.mem_singleton.mp hw]; exact h2
section DP
variable {l : Launch} {X : Nat × (Nat → Int32)} {μ μ' : MI} {d d' pc pc' : Nat} {L L' : List (Nat × Value)} {S S' : List Value} {h h' h1 : Hp} {o o1 : Oc} {y : MethodName} {As : List Value}
variable {D : va_G} {ar : Nat → ClassId} {ea av : Nat → Nat} {b : Nat} {p : Program} {e : Env} {R : Room} {s : State} {m : MethodId} {args : Array Value} {below : List Frame} {meth : Method} {c : Code} {H : Heap} {locs : List Loc} {cells slots : Nat} {Q : State → Prop} {ls : Array Slot} {st : List Value}
/-- a switch with holes: the way out -/
theorem Rn.tabDef {dflt lo hi : Int} {offs : Array Int} {len : Nat} {x : Int32} {tgt : Nat} (dg : decode μ.2.1 pc = .ok (.tableswitch dflt lo hi offs, len)) (ht : (pc : Int) + dflt = (tgt : Int)) (hz : ∀ z : Int, x = Int32.ofInt z → (lo ≤ z ∧ z ≤ hi) → offs[(z - lo).toNat]? = some dflt) (k : Rn l X μ d tgt L S h o h') : Rn l X μ d pc L (.int x :: S) h o h' := by
  by_cases c1 : x.toInt < lo
  · exact Rn.tabOut dg (Or.inl c1) ht k
  · by_cases c2 : hi < x.toInt
    · exact Rn.tabOut dg (Or.inr c2) ht k
    · exact Rn.tabIn dg c1 c2 (hz x.toInt (fb0_asI x) (by omega)) ht k
theorem look_no {x : Int32} : ∀ (ps : List (Int × Int)) (dflt : Int), (∀ q ∈ ps, ¬ x.toInt = q.1) → Op.lookupswitch.offset ps dflt x.toInt = dflt
  | [], dflt, _ => rfl
  | (a, o) :: r, dflt, hq => by
    rw [Op.lookupswitch.offset_cons, if_neg (fun e => hq (a, o) List.mem_cons_self e.symm)]
    exact look_no r dflt fun q h => hq q (List.mem_cons_of_mem _ h)
theorem look_nt {x v : Int32} {z : Int} (hz : v.toInt = z) (c : ¬ x = v) : ¬ x.toInt = z := fun h => c (Int32.toInt_inj.mp (h.trans hz.symm))
/-- the ints of a cell anew: the world behind -/
theorem cv_cI {ea : Nat → Nat} {h : Hp} {a : Nat} {g : Nat → Int32} (hs : hS h a = 20) : cv ea (cI h a g) a = fun k => .int (g k) := by
  funext k
  have e1 : hS (cI h a g) a = 20 := hs
  have f1 : hI (cI h a g) a k = g k := by simp [hI, cI, rs2]
  unfold cv
  rw [e1, kd_20, if_pos rfl, f1]
theorem Rn.acopy {a q0 idx : Nat} {sp dp n : Int32} (hlk : Cond.methodLink μ.1 idx arraycopyName ∈ gw) (ha : hS h a = 20) (hb : hS h q0 = 20) (h1 : ¬ sp < 0) (h2 : ¬ dp < 0) (h3 : ¬ n < 0) (h4 : ix sp + ix n ≤ hL h a) (h5 : ix dp + ix n ≤ hL h q0) (hw : (S.map fun v => v.category).sum ≤ 8) (dg : decode μ.2.1 pc = .ok (.invokestatic idx, 3)) (hp : pc + 3 = pc')
    (kk : Rn l X μ d pc' L S (cI h q0 (va_cpy (hI h a) (hI h q0) (ix sp) (ix dp) (ix n))) o h') : Rn l X μ d pc L (.int n :: .int dp :: .ref q0 :: .int sp :: .ref a :: S) h o h' := by
  subst hp
  refine ⟨kk.1, kk.2.1, fun D ar ea av b p e R s m args below meth c H locs ls n0 z0 C hn hz hc hs1 hf hl hB hS1 hW hLv => ?_⟩
  have hBn : hN h < BIG := Nat.lt_of_le_of_lt kk.1 hB
  have la := hw_lt hW C.hea hBn (r := a) (by omega)
  have lb := hw_lt hW C.hea hBn (r := q0) (by omega)
  show W p l e R s m args below meth c H locs _ _ _ (F0 m pc ls (.int n :: .int dp :: tv ea (.ref q0) :: .int sp :: tv ea (.ref a) :: S.map (tv ea)))
  rw [tv_rf la.2.2, tv_rf lb.2.2]
  have nn : ∀ z : Int32, ¬ z < 0 → z.toInt = (z.toNatClampNeg : Int) := by
    intro z hz
    have hz0 : (0 : Int) ≤ z.toInt := by
      have := Int32.not_lt.mp hz
      simpa using Int32.le_iff_toInt_le.mp this
    show z.toInt = ((z.toInt.toNat : Nat) : Int)
    omega
  intro T hT X0
  have hc0 := dm_arr hW ha (by omega)
  have hc1 := dm_arr hW hb (by omega)
  obtain ⟨hs6, k0, hk0, cm0, hkk0⟩ := (C.k.2 0 _ rfl).1 (hL h a) (cv ea h a)
  obtain ⟨-, k1, hk1, cm1, hkk1⟩ := (C.k.2 0 _ rfl).1 (hL h q0) (cv ea h q0)
  unfold ix at h4 h5
  obtain ⟨vm', X', step⟩ := X0.arraycopy C.1 C.own (C.ts _ hlk) (C.ts _ (mem_gw (by decide +kernel) (by decide +kernel))) (C.ts _ (mem_gw (by decide +kernel) (by decide +kernel))) (C.ts _ (mem_gw (by decide +kernel) (by decide +kernel))) (src := ea a) (dst := ea q0) (srcPos := sp) (destPos := dp) (n := n) (by rw [hT]; exact hc0) (by rw [hT]; exact hc1)
    (fun _ h => by cases h) (fun _ h => by cases h) (fun h => by cases h) (fun h => by cases h) hk0 hk1 hkk0 hkk1 (by simp [refKind]) h1 h2 h3
    (by rw [nn sp h1, nn n h3, arrV_size]; omega)
    (by rw [nn dp h2, nn n h3, arrV_size]; omega)
    (fun vm₁ _ i hi => by
      have e1 : (arrV (ar 20) (hL h a) (cv ea h a)).slots.getD (sp.toNatClampNeg + i) .null = .int (hI h a (sp.toNatClampNeg + i)) := by
        rw [Array.getD_eq_getD_getElem?, arrV_read _ _ (by omega), cv_0 (by rw [ha]; exact kd_20 _)]
        rfl
      refine ⟨?_, ?_⟩
      · rw [e1]
        rfl
      · rw [e1]
        exact trivial)
    (g := F0 m pc ls (.int n :: .int dp :: .ref (ea q0) :: .int sp :: .ref (ea a) :: S.map (tv ea))) rfl (hLv.1.trans C.2.2.2.1.symm) (rest := S.map (tv ea)) rfl (by rw [C.2.1]; exact dg) (by omega) (by
      have hnw : nativeFrameWords "java/lang/System" "arraycopy" 5 ≤ 30 := by decide +kernel
      show 2 * 0 + ((S.map (tv ea)).map fun v => v.category).sum + _ ≤ R.locals
      rw [cat_map]
      omega)
  have ecell : copied (arrV (ar 20) (hL h a) (cv ea h a)) (arrV (ar 20) (hL h q0) (cv ea h q0)) sp dp n = vp_cell (ar 20) (hL h q0, .inl (va_cpy (hI h a) (hI h q0) sp.toNatClampNeg dp.toNatClampNeg n.toNatClampNeg)) := by
    have ea1 : arrV (ar 20) (hL h q0) (cv ea h q0) = vp_cell (ar 20) (hL h q0, .inl (hI h q0)) := by
      rw [vp_cell_i]
      congr 1
      funext k
      exact cv_0 (by rw [hb]; exact kd_20 _)
    rw [ea1]
    exact va_copiedX (fun z => .int z) _ (ar 20) (hI h a) (hI h q0) (fun j hj => by rw [arrV_read _ _ hj, cv_0 (by rw [ha]; exact kd_20 _)]) h4
  rw [ecell] at X' step
  have hheap : ((T.setVm vm').setCell (ea q0) (vp_cell (ar 20) (hL h q0, .inl (va_cpy (hI h a) (hI h q0) sp.toNatClampNeg dp.toNatClampNeg n.toNatClampNeg)))).heap = H.setIfInBounds (ea q0) (vp_cell (ar 20) (hL h q0, .inl (va_cpy (hI h a) (hI h q0) sp.toNatClampNeg dp.toNatClampNeg n.toNatClampNeg))) := by rw [← hT]; rfl
  have oq : ∀ q : Nat, q ≠ ea q0 → (H.setIfInBounds (ea q0) (vp_cell (ar 20) (hL h q0, .inl (va_cpy (hI h a) (hI h q0) sp.toNatClampNeg dp.toNatClampNeg n.toNatClampNeg))))[q]? = H[q]? := fun q hq => by simp [Array.getElem?_setIfInBounds, Ne.symm hq]
  have hW1 : HW D ar ea b (cI h q0 (va_cpy (hI h a) (hI h q0) (ix sp) (ix dp) (ix n))) (H.setIfInBounds (ea q0) (vp_cell (ar 20) (hL h q0, .inl (va_cpy (hI h a) (hI h q0) sp.toNatClampNeg dp.toNatClampNeg n.toNatClampNeg)))) := by
    refine hw_put (a := q0) hW C.hea hBn rfl rfl rfl (by simp) oq (fun r hr => cv_cI_ne hr) (by omega) ⟨fun z => ?_, fun _ => ?_⟩
    · have z' : hS h q0 < 20 := z
      omega
    · have e9 : hS (cI h q0 (va_cpy (hI h a) (hI h q0) (ix sp) (ix dp) (ix n))) q0 = 20 := hb
      rw [e9, cv_cI hb]
      show (H.setIfInBounds (ea q0) _)[ea q0]? = some (arrV (ar 20) (hL h q0) _)
      rw [Array.getElem?_setIfInBounds, if_pos rfl, if_pos lb.2.1, vp_cell_i]
      rfl
  obtain ⟨t, a1, b1⟩ := kk.2.2 D ar ea av b p e R s m args below meth c _ _ ls n0 z0 C hn hz hc hs1 hf hl hB ⟨by simp; exact hS1.1, fun q g1 g2 => by
      rw [oq q (fun e => g2 (by rw [e]; exact lb.1))]
      exact hS1.2.1 q g1 g2, fun q hq => by
      rcases List.mem_append.mp hq with h | h
      · exact hS1.2.2 q h
      · obtain ⟨z, -, hz⟩ := List.mem_map.mp h
        rw [← hz]
        exact lb.1⟩ hW1 hLv _ hheap X'
  exact ⟨t, step t a1, b1⟩
theorem Rn.castA {a idx : Nat} (hlk : Cond.classLink μ.1 idx "[I" ∈ gw) (ha : hS h a = 20) (dg : decode μ.2.1 pc = .ok (.checkcast idx, 3)) (hp : pc + 3 = pc') (kk : Rn l X μ d pc' L (.ref a :: S) h o h') : Rn l X μ d pc L (.ref a :: S) h o h' := by
  subst hp
  refine ⟨kk.1, kk.2.1, fun D ar ea av b p e R s m args below meth c H locs ls n0 z0 C hn hz hc hs1 hf hl hB hS1 hW hLv => ?_⟩
  have K := kk.2.2 D ar ea av b p e R s m args below meth c H locs ls n0 z0 C hn hz hc hs1 hf hl hB hS1 hW hLv
  have K1 : W p l e R s m args below meth c H locs (hN h - n0) (hZ h - z0) (vx_MQ below (RQ D ar ea b o h') (RX D ar ea b o h') args s (hN h' - n0) (hZ h' - z0) (AA b)) (F0 m (pc + 3) ls (tv ea (.ref a) :: S.map (tv ea))) := K
  have h0 := (hw_lt hW C.hea (Nat.lt_of_le_of_lt kk.1 hB) (r := a) (by omega)).2.2
  show W p l e R s m args below meth c H locs _ _ _ (F0 m pc ls (tv ea (.ref a) :: S.map (tv ea)))
  rw [tv_rf h0] at K1 ⊢
  have hnm : s.vm.findClass "[I" = some (ar 20) := va_nm_int (C.k.2 0 _ rfl).2
  intro T hT X0
  obtain ⟨vm', X', st⟩ := X0.checkcastYes C.1 C.own (C.ts _ hlk) (by rw [hT]; exact dm_arr hW ha (by omega)) rfl hnm (va_asg _ _) (g := F0 m pc ls (.ref (ea a) :: S.map (tv ea))) rfl rfl (by rw [C.2.1]; exact dg)
  obtain ⟨t, a1, b1⟩ := K1 (T.setVm vm') hT X'
  exact ⟨t, st t a1, b1⟩
theorem Rn.cloneI {a idx : Nat} (hlk : Cond.methodLink μ.1 idx ⟨"[I", "clone", "()Ljava/lang/Object;"⟩ ∈ gw) (ha : hS h a = 20) (hw : (S.map fun v => v.category).sum ≤ 8) (dg : decode μ.2.1 pc = .ok (.invokevirtual idx, 3)) (hp : pc + 3 = pc')
    (kk : Rn l X μ d pc' L (.ref (hN h + 1) :: S) (cI (hA h 20 (hL h a) (hL h a)) (hN h + 1) (hI h a)) o h') : Rn l X μ d pc L (.ref a :: S) h o h' := by
  subst hp
  have kn : hN h + 1 ≤ hN h' := kk.1
  have kz : hZ h + hL h a ≤ hZ h' := kk.2.1
  refine ⟨by omega, by omega, fun D ar ea av b p e R s m args below meth c H locs ls n0 z0 C hn hz hc hs1 hf hl hB hS1 hW hLv => ?_⟩
  have hBn : hN h < BIG := by omega
  have la := hw_lt hW C.hea hBn (r := a) (by omega)
  show W p l e R s m args below meth c H locs _ _ _ (F0 m pc ls (tv ea (.ref a) :: S.map (tv ea)))
  rw [tv_rf la.2.2]
  have hc0 := dm_arr hW ha (by omega)
  have hnm : s.vm.findClass "[I" = some (ar 20) := va_nm_int (C.k.2 0 _ rfl).2
  obtain ⟨c0, t0', f1, f2, f3⟩ := Cond.castable_spec (va_Nw.use (A := args) rfl (C.ot.2.2.1 ("[I", "java/lang/Cloneable") (by decide)))
  cases hnm.symm.trans f1
  intro T hT X0
  have hcellT : T.heap[ea a]? = some (arrV (ar 20) (hL h a) (cv ea h a)) := by rw [hT]; exact hc0
  obtain ⟨-, kA, hkA, comp, hkind⟩ := State.isArrayOf_alike X0.warmed.alike ((C.k.2 0 _ rfl).1 0 (fun _ => .null))
  obtain ⟨-, kS, hkS, compS, hkindS⟩ := (C.k.2 0 _ rfl).1 0 (fun _ => .null)
  obtain ⟨vm', X', st⟩ := X0.cloneArray C.1 C.own (ad := "[I") (index := idx) (C.ts _ hlk) (C.ts _ (mem_gw (by decide +kernel) (by decide +kernel))) (C.ts _ (mem_gw (by decide +kernel) (by decide +kernel))) (C.ts _ (mem_gw (by decide +kernel) (by decide +kernel))) (C.ts _ (mem_gw (by decide +kernel) (by decide +kernel))) (a := ea a) (cell := arrV (ar 20) (hL h a) (cv ea h a)) hcellT (fun k h => by cases h) (fun h => by cases h) hnm f2 f3
    (fun i v hv => by
      have hk' : T.vm.classes[ar 20]? = some kA := hkA
      have hv0 : fits .int v = true := by
        refine va_fit (fun i hi => ?_) i v hv
        rw [cv_0 (by rw [ha]; exact kd_20 _)]
        rfl
      show T.fitsSlot (ar 20) .none i v = true
      simpa [State.fitsSlot, State.slotType?, hk', hkind] using hv0)
    (g := F0 m pc ls (.ref (ea a) :: S.map (tv ea))) rfl (hLv.1.trans C.2.2.2.1.symm) rfl (by rw [C.2.1]; exact dg) (by omega) (by show 2 * 0 + ((S.map (tv ea)).map fun v => v.category).sum + 14 ≤ _; rw [cat_map]; omega) (by omega) (by rw [arrV_size]; omega) (hloader := Vm.clonesLoader_of_array hkS hkindS)
  have hsz : (arrV (ar 20) (hL h a) (cv ea h a)).slots.size = hL h a := arrV_size _ _ _
  have hcellE : ({ cls := (arrV (ar 20) (hL h a) (cv ea h a)).cls, slots := (arrV (ar 20) (hL h a) (cv ea h a)).slots } : Cell) = arrV (ar 20) (hL h a) (cv ea h a) := rfl
  rw [hcellE, hsz] at X'
  generalize hH1 : H.push (arrV (ar 20) (hL h a) (cv ea h a)) = H1
  have e2 : H1.size = H.size + 1 := by rw [← hH1, Array.size_push]
  have e1 : H1[H.size]? = some (arrV (ar 20) (hL h a) (cv ea h a)) := by rw [← hH1, Array.getElem?_push_size]
  have e3 : ∀ q : Nat, q < H.size → H1[q]? = H[q]? := fun q hq => by rw [← hH1, Array.getElem?_push, if_neg (Nat.ne_of_lt hq)]
  have er0 : ea (hN h + 1) = H.size := by rw [C.hea (hN h + 1) (by omega) (by omega), hW.1]; omega
  have hs9 : hS (cI (hA h 20 (hL h a) (hL h a)) (hN h + 1) (hI h a)) = hS (hA h 20 (hL h a) (hL h a)) := rfl
  have hs8 : hS (hA h 20 (hL h a) (hL h a)) (hN h + 1) = 20 := by simp [hS, hA, rs1]
  have hW1 : HW D ar ea b (cI (hA h 20 (hL h a) (hL h a)) (hN h + 1) (hI h a)) H1 := by
    refine ⟨by rw [e2, hW.1]; show _ = b + (hN h + 1) + 1; omega, fun r hr => ?_⟩
    rw [hs9] at hr
    show 1 ≤ r ∧ r ≤ hN h + 1 ∧ _
    by_cases e : r = hN h + 1
    · subst e
      refine ⟨by omega, by omega, fun z => ?_, fun _ => ?_⟩
      · rw [hs9, hs8] at z; omega
      · have hl8 : hL (cI (hA h 20 (hL h a) (hL h a)) (hN h + 1) (hI h a)) (hN h + 1) = hL h a := by simp [hL, hA, cI, rs1]
        rw [hs9, hs8, hl8, cv_cI hs8, er0, e1]
        congr 2
        funext k
        exact cv_0 (by rw [ha]; exact kd_20 _)
    · have q1 : hS (hA h 20 (hL h a) (hL h a)) r = hS h r := by show rs1 (hS h) (hN h + 1) 20 r = _; unfold rs1; rw [if_neg e]
      have q2 : hL (cI (hA h 20 (hL h a) (hL h a)) (hN h + 1) (hI h a)) r = hL h r := by show rs1 (hL h) (hN h + 1) _ r = _; unfold rs1; rw [if_neg e]
      rw [q1] at hr
      obtain ⟨g1, g2, g3⟩ := hW.2 r hr
      have hlt := hw_lt hW C.hea hBn hr
      refine ⟨g1, by omega, g3.kept (by rw [hs9]; exact q1) q2 ?_ (e3 _ hlt.2.1)⟩
      rw [cv_cI_ne e]
      funext k
      have f1 : hI (hA h 20 (hL h a) (hL h a)) r k = hI h r k := by simp [hI, hA, rs2, e]
      have f2 : hR (hA h 20 (hL h a) (hL h a)) r k = hR h r k := by simp [hR, hA, rs2, e]
      have f3 : hJ (hA h 20 (hL h a) (hL h a)) r k = hJ h r k := by simp [hJ, hA, rs2, e]
      unfold cv
      rw [q1, f1, f2, f3]
  have K := kk.2.2 D ar ea av b p e R s m args below meth c H1 locs ls n0 z0 C (by show n0 ≤ hN h + 1; omega) (by show z0 ≤ hZ h + hL h a; omega) hc hs1 hf hl hB (hS1.new e2 e3) hW1 hLv
  rw [show hN (cI (hA h 20 (hL h a) (hL h a)) (hN h + 1) (hI h a)) - n0 = hN h - n0 + 1 from by show hN h + 1 - n0 = _; omega, show hZ (cI (hA h 20 (hL h a) (hL h a)) (hN h + 1) (hI h a)) - z0 = hZ h - z0 + hL h a from by show hZ h + hL h a - z0 = _; omega] at K
  have er : tv ea (.ref (hN h + 1)) = .ref H.size := by rw [tv_rf (by omega), er0]
  have K2 : W p l e R s m args below meth c H1 locs (hN h - n0 + 1) (hZ h - z0 + hL h a) (vx_MQ below (RQ D ar ea b o h') (RX D ar ea b o h') args s (hN h' - n0) (hZ h' - z0) (AA b)) (F0 m (pc + 3) ls (tv ea (.ref (hN h + 1)) :: S.map (tv ea))) := K
  rw [er] at K2
  obtain ⟨t, b1, b2⟩ := K2 ((T.setVm vm').pushCell (arrV (ar 20) (hL h a) (cv ea h a))) (by rw [← hH1, ← hT]; rfl) X'
  refine ⟨t, st t ?_, b2⟩
  rw [hcellE, hT]
  exact b1
end DP
