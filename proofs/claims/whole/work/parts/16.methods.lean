/-! ===== contracts MC, out of a body's run; calls ===== -/
def wsM (y : MethodName) (μ : MI) : List Cond := (match μ.2.2.2.2.1 with | [] => Cond.code y μ.2.1 μ.2.2.1 μ.2.2.2.1 | hh => Cond.codeWith y μ.2.1 μ.2.2.1 μ.2.2.2.1 hh) :: gw
def rmM (d : Nat) (h h' : Hp) : Room := { frames := d + 12, cells := hN h' - hN h, slots := hZ h' - hZ h, locals := 64 * d + 200 }
/-- the world at a method's start -/
def PW (X : Nat × (Nat → Int32)) (D : va_G) (ar : Nat → ClassId) (ea av : Nat → Nat) (b : Nat) (h : Hp) (U : State) : Prop := HW D ar ea b h U.heap ∧ va_K D vwCl (tysA ar) U ∧ OT ea U ∧ OH X ea av b U U.heap
/-- the method y (μ), called with As over the arena h, comes to the outcome o over h' -/
def MC (l : Launch) (X : Nat × (Nat → Int32)) (y : MethodName) (μ : MI) (d : Nat) (As : List Value) (h : Hp) (o : Oc) (h' : Hp) : Prop :=
  hN h ≤ hN h' ∧ hZ h ≤ hZ h' ∧ ∀ (D : va_G) (ar : Nat → ClassId) (ea av : Nat → Nat) (b : Nat), hN h' < BIG → EA ea b →
    vx_Met l y (wsM y μ) (rmM d h h') (va_Pc (As.map (tv ea)) (PW X D ar ea av b h)) (RQ D ar ea b o h') (RX D ar ea b o h') (hN h' - hN h) (hZ h' - hZ h) (AA b)
theorem PW.blind {X : Nat × (Nat → Int32)} {D : va_G} {ar : Nat → ClassId} {ea av : Nat → Nat} {b : Nat} {h : Hp} {As : List Value} : FrameBlind (va_Pc As (PW X D ar ea av b h)) := by
  intro a U g mk q
  obtain ⟨q0, q1, q2, q3, q4⟩ := q
  exact ⟨q0, q1, va_K.moved (u := U) (U := U.calling g mk a) (Vm.Alike.refl U.vm) q2, OT.warm (s := U) (U := U.calling g mk a) (State.WarmedH.refl U) q3, OH.moved (u := U) (U := U.calling g mk a) (Vm.Alike.refl U.vm) q4⟩
theorem lva_map (ea : Nat → Nat) : ∀ (As : List Value) (i : Nat), lv_args i (As.map (tv ea)) = (lv_args i As).map (tq ea)
  | [], _ => rfl
  | v :: vs, i => by
    show (i, tv ea v) :: lv_args (if (tv ea v).category = 2 then i + 2 else i + 1) (vs.map (tv ea)) = (i, tv ea v) :: (lv_args (if v.category = 2 then i + 2 else i + 1) vs).map (tq ea)
    rw [tv_cat, lva_map ea vs]
theorem lgs_len : ∀ As : List Value, (lg_sl As).length = (As.map fun v => v.category).sum
  | [] => rfl
  | v :: vs => by
    have e : lg_sl (v :: vs) = (if v.category = 2 then [.val v, .second] else [.val v]) ++ lg_sl vs := by simp [lg_sl]
    rw [e, List.length_append, lgs_len vs, List.map_cons, List.sum_cons]
    cases v <;> rfl
theorem cat_map (ea : Nat → Nat) (As : List Value) : ((As.map (tv ea)).map fun v => v.category) = As.map fun v => v.category := by
  rw [List.map_map]
  congr 1
  funext v
  exact tv_cat ea v
section DM
variable {l : Launch} {X : Nat × (Nat → Int32)} {μ μ' : MI} {d d' pc pc' : Nat} {L L' : List (Nat × Value)} {S S' : List Value} {h h' h1 : Hp} {o o1 : Oc} {y : MethodName} {As : List Value}
variable {D : va_G} {ar : Nat → ClassId} {ea av : Nat → Nat} {b : Nat} {p : Program} {e : Env} {R : Room} {s : State} {m : MethodId} {args : Array Value} {below : List Frame} {meth : Method} {c : Code} {H : Heap} {locs : List Loc} {cells slots : Nat} {Q : State → Prop} {ls : Array Slot} {st : List Value}
theorem dm_ofW {l : Launch} {y : MethodName} {ws ws' : List Cond} {rm : Room} {Pc : Array Value → State → Prop} {Qc : Array Value → State → Outcome → State → Prop} {XC : String → State → State → Prop} {mc ms : Nat} {free : Addr → Prop} {cc : ByteArray} {maxL : Nat} {ret : Option FieldType}
    (hy : plainFor y = true) (hw : ws = Cond.code y cc maxL ret :: ws')
    (body : ∀ p e s m args below meth c s₁, BodyLoose p l y (headSpec ws rm) cc maxL ret e s m args below meth c s₁ → c.maxLocals = maxL → (∀ x ∈ c.exceptionTable.toList, False) → Pc args s →
      W p l e (headSpec ws rm).room s m args below meth c s.heap [] 0 0 (vx_MQ below Qc XC args s mc ms free) (entryFrame m args maxL)) : vx_Met l y ws rm Pc Qc XC mc ms free := by
  refine MetFree.of_bodySF (code := cc) (maxLocals := maxL) (ret := ret) hy ?_ ?_
  · intro args s m h hn
    obtain ⟨meth, c, h1, h2, h3, h4, h5, h6, -, -⟩ := Cond.code_spec hn (atoms_spec (ws := ws) h _ (by rw [hw]; exact List.mem_cons_self))
    exact ⟨meth, c, h1, h2, h3, h4, h5, h6⟩
  · intro p e s m args below meth c s₁ B hml hP _
    have hh0 : s₁.heap = s.heap := by rw [B.state]; rfl
    have ht : ∀ x ∈ c.exceptionTable.toList, False := by
      obtain ⟨meth9, c9, h1, h2, -, -, -, -, h7, -⟩ := Cond.code_spec B.named (atoms_spec (ws := ws) B.pre _ (by rw [hw]; exact List.mem_cons_self))
      cases Option.some.inj (h1.symm.trans B.method)
      cases Option.some.inj (h2.symm.trans (Stand.of_body B).code)
      intro x hx
      rw [Array.isEmpty_iff.mp h7] at hx
      cases hx
    obtain ⟨t, a1, o, b1, b2, b3⟩ := body p e s m args below meth c s₁ B hml ht hP s₁ hh0 (Stand.of_body B)
    exact ⟨t, o, a1, b1, b2, b3⟩
theorem dm_ofWH {l : Launch} {y : MethodName} {ws ws' : List Cond} {rm : Room} {Pc : Array Value → State → Prop} {Qc : Array Value → State → Outcome → State → Prop} {XC : String → State → State → Prop} {mc ms : Nat} {free : Addr → Prop} {cc : ByteArray} {maxL : Nat} {ret : Option FieldType} {hh : List (Nat × Nat × Nat × Nat)}
    (hy : plainFor y = true) (hw : ws = Cond.codeWith y cc maxL ret hh :: ws')
    (body : ∀ p e s m args below meth c s₁, BodyLoose p l y (headSpec ws rm) cc maxL ret e s m args below meth c s₁ → c.maxLocals = maxL → Pc args s →
      W p l e (headSpec ws rm).room s m args below meth c s.heap [] 0 0 (vx_MQ below Qc XC args s mc ms free) (entryFrame m args maxL)) : vx_Met l y ws rm Pc Qc XC mc ms free := by
  refine MetFree.of_bodySF (code := cc) (maxLocals := maxL) (ret := ret) hy ?_ ?_
  · intro args s m h hn
    obtain ⟨m9, meth, c, hn9, h1, h2, h3, h4, -, h5, h6, -⟩ := Cond.codeWith_spec (atoms_spec (ws := ws) h _ (by rw [hw]; exact List.mem_cons_self))
    cases hn.symm.trans hn9
    exact ⟨meth, c, h1, h2, h3, h4, h5, h6⟩
  · intro p e s m args below meth c s₁ B hml hP _
    have hh0 : s₁.heap = s.heap := by rw [B.state]; rfl
    obtain ⟨t, a1, o, b1, b2, b3⟩ := body p e s m args below meth c s₁ B hml hP s₁ hh0 (Stand.of_body B)
    exact ⟨t, o, a1, b1, b2, b3⟩
/-- a method's contract out of its body -/
theorem MC.body (hy : plainFor y = true) (hown : y.cls = μ.1) (hini : μ.2.2.2.2.2 = true → y.name = "<init>") (hst : l.stackTraces = false) (hnL : (As.map fun v => v.category).sum ≤ μ.2.2.1) (k : Rn l X μ d 0 (lv_args 0 As) [] h o h') : MC l X y μ d As h o h' := by
  refine ⟨k.1, k.2.1, fun D ar ea av b hB he => ?_⟩
  have go : ∀ (p : Program) (e : Env) (s : State) (m : MethodId) (args : Array Value) (below : List Frame) (meth : Method) (c : Code) (s₁ : State), BodyLoose p l y (headSpec (wsM y μ) (rmM d h h')) μ.2.1 μ.2.2.1 μ.2.2.2.1 e s m args below meth c s₁ → c.maxLocals = μ.2.2.1 → c.exceptionTable.toList = tableOf μ.2.2.2.2.1 → va_Pc (As.map (tv ea)) (PW X D ar ea av b h) args s →
      W p l e (headSpec (wsM y μ) (rmM d h h')).room s m args below meth c s.heap [] 0 0 (vx_MQ below (RQ D ar ea b o h') (RX D ar ea b o h') args s (hN h' - hN h) (hZ h' - hZ h) (AA b)) (entryFrame m args μ.2.2.1) := by
    intro p e s m args below meth c s₁ B hml hT hv
    obtain ⟨rfl, hW, hK, hOT, hOH⟩ := hv
    have hts0 := atoms_spec (ws := wsM y μ) B.pre
    have hfc : s.vm.findClass μ.1 = some m.cls := by rw [← hown]; exact findClass_of_methodNamed B.named
    have C : Cx l X μ D ar ea av b p s m (As.map (tv ea)).toArray meth c := ⟨B.exec, B.bytes, B.returns, hml, hfc, fun w hw => hts0 w (List.mem_cons_of_mem _ hw), B.notSynchronized, hst, hT, fun hi => ((name_of_methodNamed B.named B.method).1).trans (hini hi), hK, hOT, hOH, he, by rw [hW.1]; omega⟩
    rw [lg_entry_eq]
    have hl := lv_entry (As.map (tv ea)) (n := μ.2.2.1) (by rw [lgs_len, cat_map]; exact hnL)
    rw [lva_map] at hl
    have K := k.2.2 D ar ea av b p e (rmM d h h') s m (As.map (tv ea)).toArray below meth c s.heap [] _ (hN h) (hZ h) C (Nat.le_refl _) (Nat.le_refl _) (by show hN h' ≤ hN h + (hN h' - hN h); omega) (by show hZ h' ≤ hZ h + (hZ h' - hZ h); omega) (Nat.le_refl _) (Nat.le_refl _) hB va_S.rf hW hl
    rw [Nat.sub_self, Nat.sub_self] at K
    exact K
  obtain ⟨own, bytes, nL, ret, hh, ini⟩ := μ
  cases hh with
  | nil =>
    refine dm_ofW (cc := bytes) (maxL := nL) (ret := ret) hy rfl ?_
    intro p e s m args below meth c s₁ B hml ht hv
    refine go p e s m args below meth c s₁ B hml ?_ hv
    show c.exceptionTable.toList = []
    cases hq : c.exceptionTable.toList with
    | nil => rfl
    | cons z zs => exact (ht z (by rw [hq]; exact List.mem_cons_self)).elim
  | cons z zs =>
    refine dm_ofWH (cc := bytes) (maxL := nL) (ret := ret) (hh := z :: zs) hy rfl ?_
    intro p e s m args below meth c s₁ B hml hv
    exact go p e s m args below meth c s₁ B hml (vx_table (x := y) B (atoms_spec (ws := wsM y (own, bytes, nL, ret, z :: zs, ini)) B.pre _ List.mem_cons_self)) hv
/-- thrown at pc: the code e -/
def RnX (l : Launch) (X : Nat × (Nat → Int32)) (μ : MI) (d : Nat) (pc : Nat) (L : List (Nat × Value)) (x : Nat) (h : Hp) (o : Oc) (h' : Hp) : Prop :=
  hN h ≤ hN h' ∧ hZ h ≤ hZ h' ∧ ∀ (D : va_G) (ar : Nat → ClassId) (ea av : Nat → Nat) (b : Nat) (p : Program) (e : Env) (R : Room) (s : State) (m : MethodId) (args : Array Value) (below : List Frame) (meth : Method) (c : Code) (H : Heap) (locs : List Loc) (ls : Array Slot) (n0 z0 : Nat) (q : Addr) (ce : Cell) (st : List Value),
    Cx l X μ D ar ea av b p s m args meth c → n0 ≤ hN h → z0 ≤ hZ h → hN h' ≤ n0 + R.cells → hZ h' ≤ z0 + R.slots → d + 12 ≤ R.frames → 64 * d + 200 ≤ R.locals → hN h' < BIG →
    va_S (AA b) s.heap H locs → HW D ar ea b h H → lv_has ls μ.2.2.1 (L.map (tq ea)) → H[q]? = some ce → ce.vm = .none → s.vm.findClass (xn x) = some ce.cls →
    vx_W p l e R s m args below meth c H locs (hN h - n0) (hZ h - z0) (vx_MQ below (RQ D ar ea b o h') (RX D ar ea b o h') args s (hN h' - n0) (hZ h' - z0) (AA b)) (F0 m pc ls st) q
theorem RnX.out {x : Nat} (hT : (tableOf μ.2.2.2.2.1).all (fun z => !covers z pc) = true) : RnX l X μ d pc L x h (.inr x) h := by
  refine ⟨Nat.le_refl _, Nat.le_refl _, fun D ar ea av b p e R s m args below meth c H locs ls n0 z0 q ce st C hn hz hc hs1 hf hl hB hS1 hW hLv hce hcv hcl => ?_⟩
  refine vx_out (E := xn x) (ce := ce) (fun z hz2 => ?_) C.2.2.2.2.2.2.1 hce hcv hcl (fun t ht _ => ⟨⟨x, rfl, rfl, by rw [ht]; exact hW⟩, hS1.F ht⟩) hS1.2.2 (Nat.le_refl _) (Nat.le_refl _)
  rw [C.2.2.2.2.2.2.2.2.1] at hz2
  have h9 := List.all_eq_true.mp hT z hz2
  cases hcz : covers z pc with
  | false => rfl
  | true => rw [hcz] at h9; cases h9
/-- caught by the handler at place j of the table, which stores it into the variable i -/
theorem RnX.catch {x i pch : Nat} (j : Nat) {z : Nat × Nat × Nat × Nat} (hj : μ.2.2.2.2.1[j]? = some z) (hpre : ∀ w ∈ (tableOf μ.2.2.2.2.1).take j, covers w pc = false ∨ (w.catchType ≠ 0 ∧ ∃ nm : String, Cond.classLink μ.1 w.catchType nm ∈ gw ∧ (xn x, nm) ∈ ncL))
    (hcov : covers ⟨z.1, z.2.1, z.2.2.1, z.2.2.2⟩ pc = true) (h0 : z.2.2.2 ≠ 0) (hlk : Cond.classLink μ.1 z.2.2.2 (xn x) ∈ gw) (hca : (xn x, xn x) ∈ casL)
    (hst : (∃ k : Fin 4, (k : Nat) = i ∧ decode μ.2.1 z.2.2.1 = .ok (.astore_n k, 1) ∧ pch = z.2.2.1 + 1) ∨ (decode μ.2.1 z.2.2.1 = .ok (.astore i, 2) ∧ pch = z.2.2.1 + 2)) (hi : i < μ.2.2.1)
    (k : Rn l X μ d pch (L.filter (fun q => !(q.1 == i) && !(q.1 + 1 == i && q.2.category == 2))) [] h o h') : RnX l X μ d pc L x h o h' := by
  refine ⟨k.1, k.2.1, fun D ar ea av b p e R s m args below meth c H locs ls n0 z0 q ce st C hn hz hc hs1 hf hl hB hS1 hW hLv hce hcv hcl => ?_⟩
  have hsplit : c.exceptionTable.toList = (tableOf μ.2.2.2.2.1).take j ++ (⟨z.1, z.2.1, z.2.2.1, z.2.2.2⟩ : ExceptionTableEntry) :: (tableOf μ.2.2.2.2.1).drop (j + 1) := by
    rw [C.2.2.2.2.2.2.2.2.1]
    have hj2 : (tableOf μ.2.2.2.2.1)[j]? = some (⟨z.1, z.2.1, z.2.2.1, z.2.2.2⟩ : ExceptionTableEntry) := by
      unfold tableOf
      rw [List.getElem?_map, hj]
      rfl
    obtain ⟨hlt, he⟩ := List.getElem?_eq_some_iff.mp hj2
    rw [← he, List.getElem_cons_drop, List.take_append_drop]
  refine vx_catch (E := xn x) (name := xn x) C.own _ _ _ hsplit (fun w hw => ?_) hcov h0 (C.ts _ hlk) (va_Nw.use rfl (C.ot.2.2.1 _ hca)) hce hcv hcl ?_
  · rcases hpre w hw with g | ⟨g0, nm, g1, g2⟩
    · exact Or.inl g
    · exact Or.inr ⟨g0, nm, C.ts _ g1, C.ot.2.2.2.2.2 _ g2⟩
  have hfm : (i, Value.ref q) :: (L.map (tq ea)).filter (fun q => !(q.1 == i) && !(q.1 + 1 == i && q.2.category == 2)) = (i, Value.ref q) :: (L.filter (fun q => !(q.1 == i) && !(q.1 + 1 == i && q.2.category == 2))).map (tq ea) := by
    have := stI_tq ea i (.int 0) L
    unfold stI at this
    rw [List.map_cons] at this
    rw [(List.cons.inj this).2]
  have fin : ∀ ls' : Array Slot, lv_has ls' μ.2.2.1 ((i, Value.ref q) :: (L.filter (fun q => !(q.1 == i) && !(q.1 + 1 == i && q.2.category == 2))).map (tq ea)) → W p l e R s m args below meth c H locs (hN h - n0) (hZ h - z0) (vx_MQ below (RQ D ar ea b o h') (RX D ar ea b o h') args s (hN h' - n0) (hZ h' - z0) (AA b)) (F0 m pch ls' []) :=
    fun ls' hL' => k.2.2 D ar ea av b p e R s m args below meth c H locs ls' n0 z0 C hn hz hc hs1 hf hl hB hS1 hW ⟨hL'.1, hL'.2.1, fun q hq => hL'.2.2 q (List.mem_cons_of_mem _ hq)⟩
  rcases hst with ⟨k4, e4, dg, rfl⟩ | ⟨dg, rfl⟩
  · exact lv_astore_n C.1 C.2.1 dg e4 hLv hi hfm fin
  · exact lv_astore C.1 C.2.1 dg hLv hi hfm fin
/-- what a call asks of the world: the callee's world, out of the caller's -/
theorem dm_pre (C : Cx l X μ D ar ea av b p s m args meth c) (hS1 : va_S (AA b) s.heap H locs) (hW : HW D ar ea b h H) : ∀ U : State, U.heap = H → s.WarmedH U.vm → va_Pc (As.map (tv ea)) (PW X D ar ea av b h) (As.map (tv ea)).toArray U :=
  fun U hU hWm => ⟨rfl, by rw [hU]; exact hW, va_K.moved hWm.alike C.k, OT.warm hWm C.ot, by rw [hU]; exact (C.oh.moved hWm.alike).kept hS1.2.1⟩
/-- behind a call -/
theorem dm_ret {mc ms : Nat} {g0 : JFrame} {rest : List Value} {a9 : Array Value} (hr : vx_Run p l e R s m args below meth c H locs cells slots mc ms g0 rest (RQ D ar ea b o1 h1 a9) (RX D ar ea b o1 h1) (AA b)) (hS1 : va_S (AA b) s.heap H locs)
    (kr : ∀ v : Option Value, o1 = .inl v → ∀ (H1 : Heap) (locs1 : List Loc), HW D ar ea b h1 H1 → va_S (AA b) s.heap H1 locs1 → W p l e R s m args below meth c H1 locs1 (cells + mc) (slots + ms) Q { g0 with pc := g0.pc + 3, stack := (v.map (tv ea)).toList ++ rest })
    (kx : ∀ x : Nat, o1 = .inr x → ∀ (H1 : Heap) (locs1 : List Loc) (q : Addr) (ce : Cell), HW D ar ea b h1 H1 → va_S (AA b) s.heap H1 locs1 → H1[q]? = some ce → ce.vm = .none → s.vm.findClass (xn x) = some ce.cls → vx_W p l e R s m args below meth c H1 locs1 (cells + mc) (slots + ms) Q { g0 with stack := rest } q) :
    W p l e R s m args below meth c H locs cells slots Q g0 := by
  intro T hT X0
  rcases hr T hT X0 with ⟨v, st₀, t, T', Lx, e0, X', hL, e1, e2, ⟨⟨v', ho, hoc, hW1⟩, hF⟩, stp⟩ | ⟨q, st₀, t, T', Lx, E, ce, e0, X', hL, e1, e2, ⟨⟨x, ho, hE, hW1⟩, hF⟩, hce, hcv, hcl, stp⟩
  · have hv : v = v'.map (tv ea) := Outcome.returned.inj hoc
    subst hv
    obtain ⟨k1, k2, k3⟩ := vx_keep e0 e1 hS1 (fun q _ z => z) (fun q z => z) hL hF
    obtain ⟨t2, a1, b1⟩ := kr v' ho T'.heap (locs ++ Lx) (by rw [e1]; exact hW1) k3 T' rfl X'
    exact ⟨t2, stp t2 a1, b1⟩
  · subst hE
    obtain ⟨k1, k2, k3⟩ := vx_keep e0 e1 hS1 (fun q _ z => z) (fun q z => z) hL hF
    obtain ⟨t2, a1, b1⟩ := kx x ho T'.heap (locs ++ Lx) q ce (by rw [e1]; exact hW1) k3 (by rw [e1]; exact hce) hcv hcl T' rfl X'
    exact ⟨t2, stp.trans a1, b1⟩
/-- a call, its run given -/
theorem Rn.byRun (hn1 : hN h ≤ hN h1) (hz1 : hZ h ≤ hZ h1) {rest : List Value}
    (hrun : ∀ {D : va_G} {ar : Nat → ClassId} {ea av : Nat → Nat} {b : Nat} {p : Program} {e : Env} {R : Room} {s : State} {m : MethodId} {args : Array Value} {below : List Frame} {meth : Method} {c : Code} {H : Heap} {locs : List Loc} {ls : Array Slot} {cells slots : Nat}, Cx l X μ D ar ea av b p s m args meth c → ls.size = μ.2.2.1 → va_S (AA b) s.heap H locs → HW D ar ea b h H → hN h1 < BIG → d + 12 ≤ R.frames → 64 * d + 200 ≤ R.locals → cells + (hN h1 - hN h) ≤ R.cells → slots + (hZ h1 - hZ h) ≤ R.slots →
      ∃ a9 : Array Value, vx_Run p l e R s m args below meth c H locs cells slots (hN h1 - hN h) (hZ h1 - hZ h) (F0 m pc ls (S.map (tv ea))) (rest.map (tv ea)) (RQ D ar ea b o1 h1 a9) (RX D ar ea b o1 h1) (AA b))
    (hb : hN h1 ≤ hN h' ∧ hZ h1 ≤ hZ h')
    (kr : ∀ v : Option Value, o1 = .inl v → Rn l X μ d (pc + 3) L (v.toList ++ rest) h1 o h') (kx : ∀ x : Nat, o1 = .inr x → RnX l X μ d pc L x h1 o h') : Rn l X μ d pc L S h o h' := by
  refine ⟨Nat.le_trans hn1 hb.1, Nat.le_trans hz1 hb.2, fun D ar ea av b p e R s m args below meth c H locs ls n0 z0 C hn hz hc hs1 hf hl hB hS1 hW hLv => ?_⟩
  obtain ⟨hbn, hbz⟩ := hb
  obtain ⟨a9, hr⟩ := hrun (cells := hN h - n0) (slots := hZ h - z0) (e := e) (R := R) (below := below) C hLv.1 hS1 hW (Nat.lt_of_le_of_lt hbn hB) hf hl (by omega) (by omega)
  have ec : hN h1 - n0 = hN h - n0 + (hN h1 - hN h) := by omega
  have ez : hZ h1 - z0 = hZ h - z0 + (hZ h1 - hZ h) := by omega
  refine dm_ret hr hS1 (fun v ho H1 locs1 hW1 hS2 => ?_) (fun x ho H1 locs1 q ce hW1 hS2 hce hcv hcl => ?_)
  · have K := (kr v ho).2.2 D ar ea av b p e R s m args below meth c H1 locs1 ls n0 z0 C (by omega) (by omega) hc hs1 hf hl hB hS2 hW1 hLv
    rw [ec, ez] at K
    have est : (v.toList ++ rest).map (tv ea) = (v.map (tv ea)).toList ++ rest.map (tv ea) := by cases v <;> rfl
    rw [est] at K
    exact K
  · have K := (kx x ho).2.2 D ar ea av b p e R s m args below meth c H1 locs1 ls n0 z0 q ce (rest.map (tv ea)) C (by omega) (by omega) hc hs1 hf hl hB hS2 hW1 hLv hce hcv hcl
    rw [ec, ez] at K
    exact K
/-- a contract without a throw -/
theorem MC.met {v : Option Value} (hM : MC l X y μ d As h (.inl v) h') {D : va_G} {ar : Nat → ClassId} {ea av : Nat → Nat} {b : Nat} (hB : hN h' < BIG) (he : EA ea b) :
    Met l y (wsM y μ) (rmM d h h') (va_Pc (As.map (tv ea)) (PW X D ar ea av b h)) (RQ D ar ea b (.inl v) h') (hN h' - hN h) (hZ h' - hZ h) (AA b) := by
  have h0 := hM.2.2 D ar ea av b hB he
  intro p e ha hc hk s m args below hf happ hP hK
  obtain ⟨n, oc, g1, g2, g3, g4⟩ := h0 p e ha hc hk s m args below hf happ hP hK
  refine ⟨n, oc, g1, g2, g3, ?_⟩
  rcases g4 with g4 | ⟨q, -, E, ce, Lx, ⟨⟨x, hx, -⟩, -⟩, -⟩
  · exact g4
  · cases hx
theorem run_of {mc ms : Nat} {g0 : JFrame} {rest : List Value} {Qa : State → Outcome → State → Prop} {XC : String → State → State → Prop} {free : Addr → Prop} (hr : va_Run p l e R s m args below meth c H locs cells slots mc ms g0 rest Qa free) : vx_Run p l e R s m args below meth c H locs cells slots mc ms g0 rest Qa XC free :=
  fun T hT X0 => Or.inl (hr T hT X0)
theorem wsM_nil (hh : μ.2.2.2.2.1 = []) : wsM y μ = Cond.code y μ.2.1 μ.2.2.1 μ.2.2.2.1 :: gw := by unfold wsM; rw [hh]
theorem mapr (ea : Nat → Nat) (A B : List Value) : (A.reverse ++ B).map (tv ea) = (A.map (tv ea)).reverse ++ B.map (tv ea) := by rw [List.map_append, List.map_reverse]
end DM
