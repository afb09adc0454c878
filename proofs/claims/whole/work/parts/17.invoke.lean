/-! ===== calls, by kind; throw new E("text") (wip/whole/gen/calls.py) ===== -/
section DT
variable {p : Program} {l : Launch} {e : Env} {R : Room} {s : State} {m : MethodId} {args : Array Value} {below : List Frame} {meth : Method} {c : Code} {H : Heap} {locs : List Loc} {cells slots : Nat} {Q : State → Prop}
variable {free : Addr → Prop} {A0 A1 : Nat → Prop} {H0 : Heap} {a : Array Value} {ls : Array Slot} {st0 rest : List Value}
variable {Qc : Array Value → State → Outcome → State → Prop} {XC : String → State → State → Prop}
/-- vx_throwS of the part 02, with the heap's size told -/
theorem dm_throwS {cc : ByteArray} {pc : Nat} (hexec : p.tables.exec = Jvm.exec) (hb : c.code = cc) (hl : l.stackTraces = false) {own cls text : String} {names : List String} {ik is ic mc ms sa : Nat} {A : Nat → Prop}
    (hown : s.vm.findClass own = some m.cls) (hcls : Bundle.fit cls = true) (hnames : ∀ n ∈ names, Bundle.fit n = true)
    (hk : (Cond.classLink own ik cls).before args s = true) (hini : (Cond.initialized cls).before args s = true) (hstr : vk_R own is text sa s) (hat : ∀ w ∈ vx_atS own ic cls names, w.before args s = true)
    (hgood : ∀ w ∈ Cond.classLink own ik cls :: Cond.initialized cls :: vx_atS own ic cls names, vx_ot w = true)
    (hU : vx_Zq Bundle.tN "UNASSIGNED_STACK" Bundle.steD A s s.heap) (hN : vx_Zq Bundle.tN "SUPPRESSED_SENTINEL" Bundle.listD A s s.heap) (hS : va_S A s.heap H locs) (hsize : ls.size = c.maxLocals)
    (d0 : decode cc pc = .ok (.new ik, 3)) (d3 : decode cc (pc + 3) = .ok (.dup, 1)) (d4 : decode cc (pc + 4) = .ok (.ldc is, 2)) (d6 : decode cc (pc + 6) = .ok (.invokespecial ic, 3)) (d9 : decode cc (pc + 9) = .ok (.athrow, 1))
    (hout : ∀ x ∈ c.exceptionTable.toList, covers x (pc + 9) = false)
    (hRframes : names.length + 3 < R.frames) (hRlocals : (rest.map fun v => v.category).sum + (13 * (names.length + 1) + 43) ≤ R.locals) (hRcells : cells + 1 ≤ R.cells) (hRslots : slots + 6 ≤ R.slots) (hlocks : meth.locks = false)
    (hx : ∀ t : State, s.vm.Alike t.vm → t.heap.size = H.size + 1 → (∀ q : Nat, q < H.size → t.heap[q]? = H[q]?) → XC cls s t)
    (hf : ∀ z ∈ locs, free z.base) (hc : cells + 1 ≤ mc) (hs : slots + 6 ≤ ms) :
    W p l e R s m args below meth c H locs cells slots (vx_MQ below Qc XC args s mc ms free) (F0 m pc ls rest) := by
  intro T hT X
  have htr : e.platform.stackTraces = false := (show e.platform.stackTraces = l.stackTraces by rw [X.admits.platform]).trans hl
  have Y := vx_rebase X (R' := { frames := R.frames, locals := R.locals, cells := 1, slots := 6 }) (Nat.le_refl _) (Nat.le_refl _) hRcells hRslots
  obtain ⟨s', hA⟩ : ∃ z, z = (T.setVm s.vm).setFrames (.invoking m args :: below) := ⟨_, rfl⟩
  rw [← hA] at Y
  have hvm : s'.vm = s.vm := by rw [hA]; rfl
  have hhp : s'.heap = H := by rw [hA]; exact hT
  have hW0 : s.WarmedH s'.vm := by rw [hvm]; exact State.WarmedH.refl s
  have hat' : ∀ w ∈ vx_atS own ic cls names, w.before args s' = true := fun w hw => vx_ot_at hW0 hvm.symm (hgood w (List.mem_cons_of_mem _ (List.mem_cons_of_mem _ hw))) (hat w hw)
  have hk' : (Cond.classLink own ik cls).before args s' = true := vx_ot_at hW0 hvm.symm (hgood _ List.mem_cons_self) hk
  have hini' : (Cond.initialized cls).before args s' = true := vx_ot_at hW0 hvm.symm (hgood _ (List.mem_cons_of_mem _ List.mem_cons_self)) hini
  have hU' : vx_Zq Bundle.tN "UNASSIGNED_STACK" Bundle.steD A s' s'.heap := by rw [hhp]; exact vx_Zq.moved hW0.alike (hU.kept hS.2.1)
  have hN' : vx_Zq Bundle.tN "SUPPRESSED_SENTINEL" Bundle.listD A s' s'.heap := by rw [hhp]; exact vx_Zq.moved hW0.alike (hN.kept hS.2.1)
  have h : ∀ w ∈ Bundle.ownAtoms own ic cls names, w.before args s' = true := vx_own hat' (vx_isRefq hU'.1) (vx_isRefq hN'.1) hU'.2.word hN'.2.word
  have hown' : s'.vm.findClass own = some m.cls := by rw [hvm]; exact hown
  have hins : (Cond.instantiable cls 6).before args s' = true := h _ (by simp [Bundle.ownAtoms])
  obtain ⟨vm₁, cX, kX, hfX, hkX, -, -, X₁, st1⟩ := Y.newCold hexec (own := own) (C := cls) (index := ik) (n := 6) hown' hk' hins hini'
    (g := F0 m pc ls rest) rfl (by rw [hb]; exact d0) (Nat.le_refl _) (Nat.le_refl _)
  generalize hT1 : (T.setVm vm₁).pushCell { cls := cX, slots := kX.instanceTypes.map defaultValue, vm := .none } = T1 at X₁ st1
  have hcat : (Value.ref T.heap.size).category = 1 := rfl
  have hcellA : T1.heap[T.heap.size]? = some (freshCell cX kX) := by rw [← hT1]; exact State.heap_pushCell_size _ _
  have d3' : decode c.code (pc + 3) = .ok (.dup, 1) := by rw [hb]; exact d3
  have d4' : decode c.code (pc + 4) = .ok (.ldc is, 2) := by rw [hb]; exact d4
  have hstr' : vk_R own is text sa s' := vk_R.warm hW0 hstr
  obtain ⟨U, hsteps, hrun, hend, hW, hsame, ce, hce, hO⟩ := X₁.ctorThrowS hexec htr (own := own) (cls := cls) (names := names) (ic := ic) hown' hcls hnames h (fun x hx => nomatch hx) hfX hkX hcellA (by rw [hhp, hT]; exact Nat.le_refl _) (msg := .ref sa) rfl
    (g := { method := m, pc := pc + 6, locals := ls, stack := .ref sa :: .ref T.heap.size :: .ref T.heap.size :: rest, locked := none }) rfl hsize rfl rfl (rest := rest) rfl
    (by rw [hb]; exact d6) (by rw [hb]; exact d9) hout hRframes (by simp only [List.map_cons, List.sum_cons, hcat]; omega) hlocks
  obtain ⟨f1, f2⟩ := vx_frame hsame
  rw [hhp] at f1 f2
  have fz : U.heap.size = H.size + 1 := by
    have g1 : U.heap.size ≤ s'.heap.size + (0 + 1) := hsame.2.2.1
    have g2 := (Array.getElem?_eq_some_iff.mp hce).1
    rw [hhp] at g1
    rw [hT] at g2
    omega
  have hWs : s.WarmedH U.vm := State.WarmedH.trans hW0 hW
  have hcl : s.vm.findClass cls = some ce.cls := by
    have h9 := hO.cls
    rw [hvm] at h9
    exact h9
  have hall : s.sameButNew ({ U with vm := s.vm } : State) locs mc ms := by
    subst hA
    obtain ⟨e1, e2⟩ := hsame
    rw [State.setFrames_setFrames] at e1
    have h2 : (T.setVm s.vm).sameButNew ({ U with vm := s.vm } : State) [] (0 + 1) (0 + 6) := ⟨e1, e2⟩
    have h3 := X.same.trans h2
    rw [List.append_nil] at h3
    exact h3.mono hc hs
  refine ⟨U, ?_, .threw T.heap.size, hrun, hend, Or.inr ⟨T.heap.size, rfl, cls, ce, locs, hx U hWs.alike fz (fun q hq => f2 q hq (fun z hz => nomatch hz)), hce, hO.vm, hcl, hWs, hall, hf⟩⟩
  refine st1 _ ?_
  show Steps p.tables e below (T1.setTop { method := m, pc := pc + 3, locals := ls, stack := .ref T.heap.size :: rest, locked := none }) _
  jvm_step X₁.here [X₁.here.top, hexec, d3', Value.category]
  exact X₁.ldcString hexec (own := own) (text := text) (index := is) (a := sa) hown' hstr'.1 hstr'.2
    (g := { method := m, pc := pc + 4, locals := ls, stack := .ref T.heap.size :: .ref T.heap.size :: rest, locked := none }) rfl d4' _ hsteps
/-- vx_throwSW of the part 02, with the heap's size told -/
theorem dm_throwSW {cc : ByteArray} {pc : Nat} (hexec : p.tables.exec = Jvm.exec) (hb : c.code = cc) (hl : l.stackTraces = false) {own cls text : String} {names : List String} {ik is ic mc ms sa : Nat} {A : Nat → Prop}
    (hown : s.vm.findClass own = some m.cls) (hcls : Bundle.fit cls = true) (hnames : ∀ n ∈ names, Bundle.fit n = true)
    (hk : (Cond.classLink own ik cls).before args s = true) (hini : (Cond.initialized cls).before args s = true) (hstr : vk_R own is text sa s) (hat : ∀ w ∈ vx_atS own ic cls names, w.before args s = true)
    (hgood : ∀ w ∈ Cond.classLink own ik cls :: Cond.initialized cls :: vx_atS own ic cls names, vx_ot w = true)
    (hU : vx_Zq Bundle.tN "UNASSIGNED_STACK" Bundle.steD A s s.heap) (hN : vx_Zq Bundle.tN "SUPPRESSED_SENTINEL" Bundle.listD A s s.heap) (hS : va_S A s.heap H locs) (hsize : ls.size = c.maxLocals)
    (d0 : decode cc pc = .ok (.new ik, 3)) (d3 : decode cc (pc + 3) = .ok (.dup, 1)) (d4 : decode cc (pc + 4) = .ok (.ldc_w is, 3)) (d7 : decode cc (pc + 7) = .ok (.invokespecial ic, 3)) (d10 : decode cc (pc + 10) = .ok (.athrow, 1))
    (hout : ∀ x ∈ c.exceptionTable.toList, covers x (pc + 10) = false)
    (hRframes : names.length + 3 < R.frames) (hRlocals : (rest.map fun v => v.category).sum + (13 * (names.length + 1) + 43) ≤ R.locals) (hRcells : cells + 1 ≤ R.cells) (hRslots : slots + 6 ≤ R.slots) (hlocks : meth.locks = false)
    (hx : ∀ t : State, s.vm.Alike t.vm → t.heap.size = H.size + 1 → (∀ q : Nat, q < H.size → t.heap[q]? = H[q]?) → XC cls s t)
    (hf : ∀ z ∈ locs, free z.base) (hc : cells + 1 ≤ mc) (hs : slots + 6 ≤ ms) :
    W p l e R s m args below meth c H locs cells slots (vx_MQ below Qc XC args s mc ms free) (F0 m pc ls rest) := by
  intro T hT X
  have htr : e.platform.stackTraces = false := (show e.platform.stackTraces = l.stackTraces by rw [X.admits.platform]).trans hl
  have Y := vx_rebase X (R' := { frames := R.frames, locals := R.locals, cells := 1, slots := 6 }) (Nat.le_refl _) (Nat.le_refl _) hRcells hRslots
  obtain ⟨s', hA⟩ : ∃ z, z = (T.setVm s.vm).setFrames (.invoking m args :: below) := ⟨_, rfl⟩
  rw [← hA] at Y
  have hvm : s'.vm = s.vm := by rw [hA]; rfl
  have hhp : s'.heap = H := by rw [hA]; exact hT
  have hW0 : s.WarmedH s'.vm := by rw [hvm]; exact State.WarmedH.refl s
  have hat' : ∀ w ∈ vx_atS own ic cls names, w.before args s' = true := fun w hw => vx_ot_at hW0 hvm.symm (hgood w (List.mem_cons_of_mem _ (List.mem_cons_of_mem _ hw))) (hat w hw)
  have hk' : (Cond.classLink own ik cls).before args s' = true := vx_ot_at hW0 hvm.symm (hgood _ List.mem_cons_self) hk
  have hini' : (Cond.initialized cls).before args s' = true := vx_ot_at hW0 hvm.symm (hgood _ (List.mem_cons_of_mem _ List.mem_cons_self)) hini
  have hU' : vx_Zq Bundle.tN "UNASSIGNED_STACK" Bundle.steD A s' s'.heap := by rw [hhp]; exact vx_Zq.moved hW0.alike (hU.kept hS.2.1)
  have hN' : vx_Zq Bundle.tN "SUPPRESSED_SENTINEL" Bundle.listD A s' s'.heap := by rw [hhp]; exact vx_Zq.moved hW0.alike (hN.kept hS.2.1)
  have h : ∀ w ∈ Bundle.ownAtoms own ic cls names, w.before args s' = true := vx_own hat' (vx_isRefq hU'.1) (vx_isRefq hN'.1) hU'.2.word hN'.2.word
  have hown' : s'.vm.findClass own = some m.cls := by rw [hvm]; exact hown
  have hins : (Cond.instantiable cls 6).before args s' = true := h _ (by simp [Bundle.ownAtoms])
  obtain ⟨vm₁, cX, kX, hfX, hkX, -, -, X₁, st1⟩ := Y.newCold hexec (own := own) (C := cls) (index := ik) (n := 6) hown' hk' hins hini'
    (g := F0 m pc ls rest) rfl (by rw [hb]; exact d0) (Nat.le_refl _) (Nat.le_refl _)
  generalize hT1 : (T.setVm vm₁).pushCell { cls := cX, slots := kX.instanceTypes.map defaultValue, vm := .none } = T1 at X₁ st1
  have hcat : (Value.ref T.heap.size).category = 1 := rfl
  have hcellA : T1.heap[T.heap.size]? = some (freshCell cX kX) := by rw [← hT1]; exact State.heap_pushCell_size _ _
  have d3' : decode c.code (pc + 3) = .ok (.dup, 1) := by rw [hb]; exact d3
  have d4' : decode c.code (pc + 4) = .ok (.ldc_w is, 3) := by rw [hb]; exact d4
  have hstr' : vk_R own is text sa s' := vk_R.warm hW0 hstr
  obtain ⟨U, hsteps, hrun, hend, hW, hsame, ce, hce, hO⟩ := X₁.ctorThrowS hexec htr (own := own) (cls := cls) (names := names) (ic := ic) hown' hcls hnames h (fun x hx => nomatch hx) hfX hkX hcellA (by rw [hhp, hT]; exact Nat.le_refl _) (msg := .ref sa) rfl
    (g := { method := m, pc := pc + 7, locals := ls, stack := .ref sa :: .ref T.heap.size :: .ref T.heap.size :: rest, locked := none }) rfl hsize rfl rfl (rest := rest) rfl
    (by rw [hb]; exact d7) (by rw [hb]; exact d10) hout hRframes (by simp only [List.map_cons, List.sum_cons, hcat]; omega) hlocks
  obtain ⟨f1, f2⟩ := vx_frame hsame
  rw [hhp] at f1 f2
  have fz : U.heap.size = H.size + 1 := by
    have g1 : U.heap.size ≤ s'.heap.size + (0 + 1) := hsame.2.2.1
    have g2 := (Array.getElem?_eq_some_iff.mp hce).1
    rw [hhp] at g1
    rw [hT] at g2
    omega
  have hWs : s.WarmedH U.vm := State.WarmedH.trans hW0 hW
  have hcl : s.vm.findClass cls = some ce.cls := by
    have h9 := hO.cls
    rw [hvm] at h9
    exact h9
  have hall : s.sameButNew ({ U with vm := s.vm } : State) locs mc ms := by
    subst hA
    obtain ⟨e1, e2⟩ := hsame
    rw [State.setFrames_setFrames] at e1
    have h2 : (T.setVm s.vm).sameButNew ({ U with vm := s.vm } : State) [] (0 + 1) (0 + 6) := ⟨e1, e2⟩
    have h3 := X.same.trans h2
    rw [List.append_nil] at h3
    exact h3.mono hc hs
  refine ⟨U, ?_, .threw T.heap.size, hrun, hend, Or.inr ⟨T.heap.size, rfl, cls, ce, locs, hx U hWs.alike fz (fun q hq => f2 q hq (fun z hz => nomatch hz)), hce, hO.vm, hcl, hWs, hall, hf⟩⟩
  refine st1 _ ?_
  show Steps p.tables e below (T1.setTop { method := m, pc := pc + 3, locals := ls, stack := .ref T.heap.size :: rest, locked := none }) _
  jvm_step X₁.here [X₁.here.top, hexec, d3', Value.category]
  exact X₁.ldcStringW hexec (own := own) (text := text) (index := is) (a := sa) hown' hstr'.1 hstr'.2
    (g := { method := m, pc := pc + 4, locals := ls, stack := .ref T.heap.size :: .ref T.heap.size :: rest, locked := none }) rfl d4' _ hsteps
/-- vx_throwS of the part 02, with the heap's size told -/
theorem dm_throwSX {cc : ByteArray} {pc : Nat} (hexec : p.tables.exec = Jvm.exec) (hb : c.code = cc) (hl : l.stackTraces = false) {own cls text : String} {sup : String} {r : List String} {rx : ByteArray} {ix ik is ic mc ms sa : Nat} {A : Nat → Prop}
    (hown : s.vm.findClass own = some m.cls) (x0 : decode rx 0 = .ok (.aload_n 0, 1)) (x1 : decode rx 1 = .ok (.aload_n 1, 1)) (x2 : decode rx 2 = .ok (.invokespecial ix, 3)) (x5 : decode rx 5 = .ok (.return_, 1)) (hcls : Bundle.fit cls = true) (hY : Bundle.fit sup = true) (hnames : ∀ n ∈ r, Bundle.fit n = true)
    (hk : (Cond.classLink own ik cls).before args s = true) (hini : (Cond.initialized cls).before args s = true) (hstr : vk_R own is text sa s) (hat : ∀ w ∈ (atSX own ic cls sup ix rx r).filter vx_no, w.before args s = true)
    (hgood : ∀ w ∈ Cond.classLink own ik cls :: Cond.initialized cls :: (atSX own ic cls sup ix rx r).filter vx_no, vx_ot w = true)
    (hU : vx_Zq Bundle.tN "UNASSIGNED_STACK" Bundle.steD A s s.heap) (hN : vx_Zq Bundle.tN "SUPPRESSED_SENTINEL" Bundle.listD A s s.heap) (hS : va_S A s.heap H locs) (hsize : ls.size = c.maxLocals)
    (d0 : decode cc pc = .ok (.new ik, 3)) (d3 : decode cc (pc + 3) = .ok (.dup, 1)) (d4 : decode cc (pc + 4) = .ok (.ldc is, 2)) (d6 : decode cc (pc + 6) = .ok (.invokespecial ic, 3)) (d9 : decode cc (pc + 9) = .ok (.athrow, 1))
    (hout : ∀ x ∈ c.exceptionTable.toList, covers x (pc + 9) = false)
    (hRframes : (r.length + 1) + 3 < R.frames) (hRlocals : (rest.map fun v => v.category).sum + (13 * ((r.length + 1) + 1) + 43) ≤ R.locals) (hRcells : cells + 1 ≤ R.cells) (hRslots : slots + 6 ≤ R.slots) (hlocks : meth.locks = false)
    (hx : ∀ t : State, s.vm.Alike t.vm → t.heap.size = H.size + 1 → (∀ q : Nat, q < H.size → t.heap[q]? = H[q]?) → XC cls s t)
    (hf : ∀ z ∈ locs, free z.base) (hc : cells + 1 ≤ mc) (hs : slots + 6 ≤ ms) :
    W p l e R s m args below meth c H locs cells slots (vx_MQ below Qc XC args s mc ms free) (F0 m pc ls rest) := by
  intro T hT X
  have htr : e.platform.stackTraces = false := (show e.platform.stackTraces = l.stackTraces by rw [X.admits.platform]).trans hl
  have Y := vx_rebase X (R' := { frames := R.frames, locals := R.locals, cells := 1, slots := 6 }) (Nat.le_refl _) (Nat.le_refl _) hRcells hRslots
  obtain ⟨s', hA⟩ : ∃ z, z = (T.setVm s.vm).setFrames (.invoking m args :: below) := ⟨_, rfl⟩
  rw [← hA] at Y
  have hvm : s'.vm = s.vm := by rw [hA]; rfl
  have hhp : s'.heap = H := by rw [hA]; exact hT
  have hW0 : s.WarmedH s'.vm := by rw [hvm]; exact State.WarmedH.refl s
  have hat' : ∀ w ∈ (atSX own ic cls sup ix rx r).filter vx_no, w.before args s' = true := fun w hw => vx_ot_at hW0 hvm.symm (hgood w (List.mem_cons_of_mem _ (List.mem_cons_of_mem _ hw))) (hat w hw)
  have hk' : (Cond.classLink own ik cls).before args s' = true := vx_ot_at hW0 hvm.symm (hgood _ List.mem_cons_self) hk
  have hini' : (Cond.initialized cls).before args s' = true := vx_ot_at hW0 hvm.symm (hgood _ (List.mem_cons_of_mem _ List.mem_cons_self)) hini
  have hU' : vx_Zq Bundle.tN "UNASSIGNED_STACK" Bundle.steD A s' s'.heap := by rw [hhp]; exact vx_Zq.moved hW0.alike (hU.kept hS.2.1)
  have hN' : vx_Zq Bundle.tN "SUPPRESSED_SENTINEL" Bundle.listD A s' s'.heap := by rw [hhp]; exact vx_Zq.moved hW0.alike (hN.kept hS.2.1)
  have h : ∀ w ∈ atSX own ic cls sup ix rx r, w.before args s' = true := vx_own hat' (vx_isRefq hU'.1) (vx_isRefq hN'.1) hU'.2.word hN'.2.word
  have hown' : s'.vm.findClass own = some m.cls := by rw [hvm]; exact hown
  have hins : (Cond.instantiable cls 6).before args s' = true := h _ (by simp [atSX, atSXt])
  obtain ⟨vm₁, cX, kX, hfX, hkX, -, -, X₁, st1⟩ := Y.newCold hexec (own := own) (C := cls) (index := ik) (n := 6) hown' hk' hins hini'
    (g := F0 m pc ls rest) rfl (by rw [hb]; exact d0) (Nat.le_refl _) (Nat.le_refl _)
  generalize hT1 : (T.setVm vm₁).pushCell { cls := cX, slots := kX.instanceTypes.map defaultValue, vm := .none } = T1 at X₁ st1
  have hcat : (Value.ref T.heap.size).category = 1 := rfl
  have hcellA : T1.heap[T.heap.size]? = some (freshCell cX kX) := by rw [← hT1]; exact State.heap_pushCell_size _ _
  have d3' : decode c.code (pc + 3) = .ok (.dup, 1) := by rw [hb]; exact d3
  have d4' : decode c.code (pc + 4) = .ok (.ldc is, 2) := by rw [hb]; exact d4
  have hstr' : vk_R own is text sa s' := vk_R.warm hW0 hstr
  obtain ⟨U, hsteps, hrun, hend, hW, hsame, ce, hce, hO⟩ := dm_ctorSX X₁ hexec htr (own := own) (E := cls) (Y := sup) (r := r) (ic := ic) (ix := ix) (rx := rx) x0 x1 x2 x5 hown' hcls hY hnames h (fun x hx => nomatch hx) hfX hkX hcellA (by rw [hhp, hT]; exact Nat.le_refl _) (msg := .ref sa) rfl
    (g := { method := m, pc := pc + 6, locals := ls, stack := .ref sa :: .ref T.heap.size :: .ref T.heap.size :: rest, locked := none }) rfl hsize rfl rfl (rest := rest) rfl
    (by rw [hb]; exact d6) (by rw [hb]; exact d9) hout hRframes (by simp only [List.map_cons, List.sum_cons, hcat]; omega) hlocks
  obtain ⟨f1, f2⟩ := vx_frame hsame
  rw [hhp] at f1 f2
  have fz : U.heap.size = H.size + 1 := by
    have g1 : U.heap.size ≤ s'.heap.size + (0 + 1) := hsame.2.2.1
    have g2 := (Array.getElem?_eq_some_iff.mp hce).1
    rw [hhp] at g1
    rw [hT] at g2
    omega
  have hWs : s.WarmedH U.vm := State.WarmedH.trans hW0 hW
  have hcl : s.vm.findClass cls = some ce.cls := by
    have h9 := hO.1
    rw [hvm] at h9
    exact h9
  have hall : s.sameButNew ({ U with vm := s.vm } : State) locs mc ms := by
    subst hA
    obtain ⟨e1, e2⟩ := hsame
    rw [State.setFrames_setFrames] at e1
    have h2 : (T.setVm s.vm).sameButNew ({ U with vm := s.vm } : State) [] (0 + 1) (0 + 6) := ⟨e1, e2⟩
    have h3 := X.same.trans h2
    rw [List.append_nil] at h3
    exact h3.mono hc hs
  refine ⟨U, ?_, .threw T.heap.size, hrun, hend, Or.inr ⟨T.heap.size, rfl, cls, ce, locs, hx U hWs.alike fz (fun q hq => f2 q hq (fun z hz => nomatch hz)), hce, hO.2, hcl, hWs, hall, hf⟩⟩
  refine st1 _ ?_
  show Steps p.tables e below (T1.setTop { method := m, pc := pc + 3, locals := ls, stack := .ref T.heap.size :: rest, locked := none }) _
  jvm_step X₁.here [X₁.here.top, hexec, d3', Value.category]
  exact X₁.ldcString hexec (own := own) (text := text) (index := is) (a := sa) hown' hstr'.1 hstr'.2
    (g := { method := m, pc := pc + 4, locals := ls, stack := .ref T.heap.size :: .ref T.heap.size :: rest, locked := none }) rfl d4' _ hsteps
end DT
/-- the words of a call but the kind's own -/
def KB (own : String) (idx : Nat) (y : MethodName) (μ : MI) (n : Nat) : Prop :=
  Cond.methodLink own idx y ∈ gw ∧ Cond.initialized y.cls ∈ gw ∧ True ∧ (∀ w ∈ wsM y μ, w ∈ gw) ∧ y.cls ≠ "java/lang/invoke/MethodHandle" ∧ y.cls ≠ "java/lang/invoke/VarHandle" ∧ (parseMethodDescriptor y.desc).map (fun d => d.parameters.length) = some n ∧ μ.2.2.1 ≤ 45
section DK
variable {l : Launch} {X : Nat × (Nat → Int32)} {μ μ' : MI} {d d' pc pc' : Nat} {L L' : List (Nat × Value)} {S S' : List Value} {h h' h1 : Hp} {o o1 : Oc} {y : MethodName} {As : List Value}
variable {D : va_G} {ar : Nat → ClassId} {ea av : Nat → Nat} {b : Nat} {p : Program} {e : Env} {R : Room} {s : State} {m : MethodId} {args : Array Value} {below : List Frame} {meth : Method} {c : Code} {H : Heap} {locs : List Loc} {cells slots : Nat} {Q : State → Prop} {ls : Array Slot} {st : List Value}
theorem Cx.fix (C : Cx l X μ D ar ea av b p s m args meth c) : CallFix p m c μ.2.1 μ.2.2.1 s args gw μ.1 := ⟨C.1, C.2.1, C.2.2.2.1, C.own, C.ts⟩
/-- an object of the class ci is a receiver of that class -/
theorem dm_recv (C : Cx l X μ D ar ea av b p s m args meth c) (hW : HW D ar ea b h H) {a ci : Nat} {nm : String} (ha : hS h a = ci + 1) (hc : (vwCl[ci]?).map (fun q => q.1) = some nm) : ∃ cellB : Cell, H[ea a]? = some cellB ∧ cellB.vm.isStatics = false ∧ s.vm.findClass nm = some cellB.cls := by
  cases hq : vwCl[ci]? with
  | none => rw [hq] at hc; cases hc
  | some q =>
    rw [hq] at hc
    have hnm : q.1 = nm := Option.some.inj hc
    have hci := vw_lt hq
    obtain ⟨q2, hq2, cellB, f1, f2, f3, -⟩ := (hW.2 a (by omega)).2.2.1 (by omega)
    rw [ha, Nat.add_sub_cancel] at f2
    refine ⟨cellB, f1, by rw [f3]; rfl, ?_⟩
    rw [f2, ← hnm]
    exact (C.k.1 ci q hq).2.1
theorem gi_app {a b : List Cond} (ha : ∀ w ∈ a, w ∈ gw) (hb : ∀ w ∈ b, w ∈ gw) : GoodIn gw (a ++ b) := fun w h => by
  have hg : w ∈ gw := (List.mem_append.mp h).elim (ha w) (hb w)
  exact ⟨hg, gw_ok w hg⟩
theorem gi_of {a : List Cond} (ha : ∀ w ∈ a, w ∈ gw) : GoodIn gw a := fun w h => ⟨ha w h, gw_ok w (ha w h)⟩
theorem cat_rest (ea : Nat → Nat) {rest : List Value} (h : (rest.map fun v => v.category).sum ≤ 8) : 2 * (F0 m pc ls S').monitorRoom + ((rest.map (tv ea)).map fun v => v.category).sum ≤ 8 := by
  rw [cat_map]
  show 2 * 0 + _ ≤ 8
  omega
/-- the room of a callee -/
theorem rm_ok {h h1 : Hp} (hd : d' + 1 ≤ d) (hf : d + 12 ≤ R.frames) (hl : 64 * d + 200 ≤ R.locals) {nL : Nat} (hn : nL ≤ 45) : (rmM d' h h1).frames + 1 ≤ R.frames ∧ 8 + (nL + 11) + (rmM d' h h1).locals ≤ R.locals := by
  refine ⟨?_, ?_⟩
  · show d' + 12 + 1 ≤ R.frames; omega
  · show 8 + (nL + 11) + (64 * d' + 200) ≤ R.locals; omega
theorem Rn.callV {idx n a ci : Nat} {rest : List Value} (hM : MC l X y μ' d' (.ref a :: As) h o1 h1) (hd : d' + 1 ≤ d) (hh : μ'.2.2.2.2.1 = []) (kb : KB μ.1 idx y μ' n) (ki : Cond.instanceMethod y ∈ gw ∧ Cond.selects y.cls y y ∈ gw) (hn : As.length = n) (ha : hS h a = ci + 1) (hc : (vwCl[ci]?).map (fun q => q.1) = some y.cls)
    (hS : S = As.reverse ++ .ref a :: rest) (hw : (rest.map fun v => v.category).sum ≤ 8) (dg : decode μ.2.1 pc = .ok (.invokevirtual idx, 3)) (hb : hN h1 ≤ hN h' ∧ hZ h1 ≤ hZ h')
    (kr : ∀ v : Option Value, o1 = .inl v → Rn l X μ d (pc + 3) L (v.toList ++ rest) h1 o h') (kx : ∀ x : Nat, o1 = .inr x → RnX l X μ d pc L x h1 o h') : Rn l X μ d pc L S h o h' := by
  subst hS
  obtain ⟨k1, k2, -, k3, k4, k5, k6, k7⟩ := kb
  refine Rn.byRun hM.1 hM.2.1 (rest := rest) (o1 := o1) (fun {D ar ea av b p e R s m args below meth c H locs ls cells slots} C hsz hS1 hW hB hf hl hcc hss => ?_) hb kr kx
  have hr := dm_recv C hW ha hc
  have h0 := (hw_lt hW C.hea (Nat.lt_of_le_of_lt hM.1 hB) (r := a) (by omega)).2.2
  have e1 : (As.reverse ++ .ref a :: rest).map (tv ea) = (As.map (tv ea)).reverse ++ .ref (ea a) :: rest.map (tv ea) := by rw [mapr, List.map_cons, tv_rf h0]
  have e2 : (Value.ref a :: As).map (tv ea) = .ref (ea a) :: As.map (tv ea) := by rw [List.map_cons, tv_rf h0]
  have hMt := hM.2.2 D ar ea av b hB C.hea
  have hpre := dm_pre (As := .ref a :: As) C hS1 hW
  rw [e2] at hMt hpre
  rw [e1]
  refine ⟨_, vx_runV (As := As.map (tv ea)) (n := n) (b := ea a) C.fix hMt (cwV n C.ts (own := μ.1) (index := idx) (C := y.cls) (y := y) ?_ (wsM_nil hh) rfl rfl ⟨rfl, k4, k5, k6⟩ (rm_ok hd hf hl k7)) ⟨PW.blind, hr, hpre⟩ rfl (by rw [List.length_map]; exact hn) hsz rfl (cat_rest ea hw) dg ⟨hcc, hss⟩⟩
  refine gi_app (fun w hw => ?_) k3
  simp only [List.mem_cons, List.not_mem_nil, or_false] at hw
  rcases hw with rfl | rfl | rfl | rfl
  · exact k1
  · exact ki.1
  · exact ki.2
  · exact k2
theorem Rn.callS {idx n : Nat} {rest : List Value} (hM : MC l X y μ' d' As h o1 h1) (hd : d' + 1 ≤ d) (hh : μ'.2.2.2.2.1 = []) (kb : KB μ.1 idx y μ' n) (ks : Cond.static y ∈ gw) (hn : As.length = n)
    (hS : S = As.reverse ++ rest) (hw : (rest.map fun v => v.category).sum ≤ 8) (dg : decode μ.2.1 pc = .ok (.invokestatic idx, 3)) (hb : hN h1 ≤ hN h' ∧ hZ h1 ≤ hZ h')
    (kr : ∀ v : Option Value, o1 = .inl v → Rn l X μ d (pc + 3) L (v.toList ++ rest) h1 o h') (kx : ∀ x : Nat, o1 = .inr x → RnX l X μ d pc L x h1 o h') : Rn l X μ d pc L S h o h' := by
  subst hS
  obtain ⟨k1, k2, -, k3, k4, k5, k6, k7⟩ := kb
  refine Rn.byRun hM.1 hM.2.1 (rest := rest) (o1 := o1) (fun {D ar ea av b p e R s m args below meth c H locs ls cells slots} C hsz hS1 hW hB hf hl hcc hss => ?_) hb kr kx
  have hMt := hM.2.2 D ar ea av b hB C.hea
  have hpre := dm_pre (As := As) C hS1 hW
  rw [mapr]
  refine ⟨_, vx_runS (As := As.map (tv ea)) (n := n) C.fix hMt (va_cwS n C.ts (own := μ.1) (index := idx) (y := y) ?_ (wsM_nil hh) rfl rfl ⟨k4, k5, k6⟩ (rm_ok hd hf hl k7)) ⟨PW.blind, hpre⟩ rfl (by rw [List.length_map]; exact hn) hsz rfl (cat_rest ea hw) dg ⟨hcc, hss⟩⟩
  refine gi_app (fun w hw => ?_) k3
  simp only [List.mem_cons, List.not_mem_nil, or_false] at hw
  rcases hw with rfl | rfl | rfl
  · exact k1
  · exact ks
  · exact k2
/-- a static method with handlers -/
theorem Rn.callSX {idx n : Nat} {rest : List Value} {z : Nat × Nat × Nat × Nat} {zs : List (Nat × Nat × Nat × Nat)} (hM : MC l X y μ' d' As h o1 h1) (hd : d' + 1 ≤ d) (hh : μ'.2.2.2.2.1 = z :: zs) (kb : KB μ.1 idx y μ' n) (ks : Cond.static y ∈ gw) (hn : As.length = n)
    (hS : S = As.reverse ++ rest) (hw : (rest.map fun v => v.category).sum ≤ 8) (dg : decode μ.2.1 pc = .ok (.invokestatic idx, 3)) (hb : hN h1 ≤ hN h' ∧ hZ h1 ≤ hZ h')
    (kr : ∀ v : Option Value, o1 = .inl v → Rn l X μ d (pc + 3) L (v.toList ++ rest) h1 o h') (kx : ∀ x : Nat, o1 = .inr x → RnX l X μ d pc L x h1 o h') : Rn l X μ d pc L S h o h' := by
  subst hS
  obtain ⟨k1, k2, -, k3, k4, k5, k6, k7⟩ := kb
  have hws : wsM y μ' = Cond.codeWith y μ'.2.1 μ'.2.2.1 μ'.2.2.2.1 (z :: zs) :: gw := by unfold wsM; rw [hh]
  refine Rn.byRun hM.1 hM.2.1 (rest := rest) (o1 := o1) (fun {D ar ea av b p e R s m args below meth c H locs ls cells slots} C hsz hS1 hW hB hf hl hcc hss => ?_) hb kr kx
  have hMt := hM.2.2 D ar ea av b hB C.hea
  have hpre := dm_pre (As := As) C hS1 hW
  rw [mapr]
  refine ⟨_, vx_runSX (As := As.map (tv ea)) (n := n) C.fix hMt (vx_cwSW n C.ts (own := μ.1) (index := idx) (y := y) ?_ hws rfl rfl ⟨k4, k5, k6⟩ (rm_ok hd hf hl k7)) ⟨PW.blind, hpre⟩ rfl (by rw [List.length_map]; exact hn) hsz rfl (cat_rest ea hw) dg ⟨hcc, hss⟩⟩
  refine gi_app (fun w hw => ?_) k3
  simp only [List.mem_cons, List.not_mem_nil, or_false] at hw
  rcases hw with rfl | rfl | rfl
  · exact k1
  · exact ks
  · exact k2
/-- a constructor -/
theorem Rn.callI {idx n a : Nat} {rest : List Value} (hM : MC l X y μ' d' (.ref a :: As) h (.inl none) h1) (hd : d' + 1 ≤ d) (hh : μ'.2.2.2.2.1 = []) (hr0 : μ'.2.2.2.1 = none) (kb : KB μ.1 idx y μ' n) (ki : Cond.instanceMethod y ∈ gw) (hy : y.name = "<init>") (hn : As.length = n) (ha : hS h a ≠ 0)
    (hS : S = As.reverse ++ .ref a :: rest) (hw : (rest.map fun v => v.category).sum ≤ 8) (dg : decode μ.2.1 pc = .ok (.invokespecial idx, 3)) (hb : hN h1 ≤ hN h' ∧ hZ h1 ≤ hZ h')
    (kr : Rn l X μ d (pc + 3) L rest h1 o h') : Rn l X μ d pc L S h o h' := by
  subst hS
  obtain ⟨k1, k2, -, k3, k4, k5, k6, k7⟩ := kb
  refine Rn.byRun hM.1 hM.2.1 (rest := rest) (o1 := .inl none) (fun {D ar ea av b p e R s m args below meth c H locs ls cells slots} C hsz hS1 hW hB hf hl hcc hss => ?_) hb (fun v ho => by cases ho; exact kr) (fun x hx => by cases hx)
  have h0 := (hw_lt hW C.hea (Nat.lt_of_le_of_lt hM.1 hB) (r := a) ha).2.2
  have e1 : (As.reverse ++ .ref a :: rest).map (tv ea) = (As.map (tv ea)).reverse ++ .ref (ea a) :: rest.map (tv ea) := by rw [mapr, List.map_cons, tv_rf h0]
  have e2 : (Value.ref a :: As).map (tv ea) = .ref (ea a) :: As.map (tv ea) := by rw [List.map_cons, tv_rf h0]
  have hMt := hM.met hB C.hea (D := D) (ar := ar) (av := av)
  have hpre := dm_pre (As := .ref a :: As) C hS1 hW
  rw [e2] at hMt hpre
  rw [e1]
  refine ⟨_, run_of (va_runI (As := As.map (tv ea)) (n := n) (b := ea a) C.fix hMt (cwI n C.ts (own := μ.1) (index := idx) (y := y) (gi_of k3) (by rw [wsM_nil hh, hr0]) rfl rfl (C.ts _ k2) (C.ts _ k1) (C.ts _ ki) hy ⟨k4, k5, k6⟩ (rm_ok hd hf hl k7)) ⟨PW.blind, hpre⟩ rfl (by rw [List.length_map]; exact hn) hsz rfl (cat_rest ea hw) dg ⟨hcc, hss⟩)⟩
/-- a nest mate's private constructor -/
theorem Rn.callIN {idx n a : Nat} {host : String} {rest : List Value} (hM : MC l X y μ' d' (.ref a :: As) h (.inl none) h1) (hd : d' + 1 ≤ d) (hh : μ'.2.2.2.2.1 = []) (hr0 : μ'.2.2.2.1 = none) (kn : (μ.1, idx, y, host) ∈ nstL) (k2 : Cond.initialized y.cls ∈ gw) (k3 : ∀ w ∈ wsM y μ', w ∈ gw) (k6 : y.cls ≠ "java/lang/invoke/MethodHandle" ∧ y.cls ≠ "java/lang/invoke/VarHandle" ∧ (parseMethodDescriptor y.desc).map (fun d => d.parameters.length) = some n) (k7 : μ'.2.2.1 ≤ 45) (ki : Cond.instanceMethod y ∈ gw) (hy : y.name = "<init>") (hn : As.length = n) (ha : hS h a ≠ 0)
    (hS : S = As.reverse ++ .ref a :: rest) (hw : (rest.map fun v => v.category).sum ≤ 8) (dg : decode μ.2.1 pc = .ok (.invokespecial idx, 3)) (hb : hN h1 ≤ hN h' ∧ hZ h1 ≤ hZ h')
    (kr : Rn l X μ d (pc + 3) L rest h1 o h') : Rn l X μ d pc L S h o h' := by
  subst hS
  refine Rn.byRun hM.1 hM.2.1 (rest := rest) (o1 := .inl none) (fun {D ar ea av b p e R s m args below meth c H locs ls cells slots} C hsz hS1 hW hB hf hl hcc hss => ?_) hb (fun v ho => by cases ho; exact kr) (fun x hx => by cases hx)
  have h0 := (hw_lt hW C.hea (Nat.lt_of_le_of_lt hM.1 hB) (r := a) ha).2.2
  have e1 : (As.reverse ++ .ref a :: rest).map (tv ea) = (As.map (tv ea)).reverse ++ .ref (ea a) :: rest.map (tv ea) := by rw [mapr, List.map_cons, tv_rf h0]
  have e2 : (Value.ref a :: As).map (tv ea) = .ref (ea a) :: As.map (tv ea) := by rw [List.map_cons, tv_rf h0]
  have hMt := hM.met hB C.hea (D := D) (ar := ar) (av := av)
  have hpre := dm_pre (As := .ref a :: As) C hS1 hW
  rw [e2] at hMt hpre
  rw [e1]
  refine ⟨_, run_of (va_runIN (As := As.map (tv ea)) (n := n) (b := ea a) (host := host) C.fix hMt ⟨va_cnB n C.ts (own := μ.1) (index := idx) (y := y) (host := host) (gi_of k3) (by rw [wsM_nil hh, hr0]) rfl rfl (C.ot.2.1 _ kn) (C.ts _ k2) k6 (rm_ok hd hf hl k7), hy, C.ts _ ki⟩ ⟨PW.blind, hpre⟩ rfl (by rw [List.length_map]; exact hn) hsz rfl (cat_rest ea hw) dg ⟨hcc, hss⟩)⟩
/-- a method that is inherited, or abstract where it is named: x is named, y is run -/
theorem Rn.callU {x : MethodName} {idx n a ci : Nat} {owner C0 : String} {rest : List Value} {v : Option Value} (hM : MC l X y μ' d' (.ref a :: As) h (.inl v) h1) (hd : d' + 1 ≤ d) (hh : μ'.2.2.2.2.1 = [])
    (k1 : Cond.methodLink μ.1 idx x ∈ gw ∧ Cond.sameMethod x.cls owner x.name x.desc ∈ gw ∧ Cond.selects C0 x y ∈ gw ∧ Cond.instanceMethod y ∈ gw ∧ Cond.initialized y.cls ∈ gw) (hdc : (⟨owner, x.name, x.desc⟩ : MethodName) ∈ decL) (k3 : ∀ w ∈ wsM y μ', w ∈ gw) (k6 : owner ≠ "java/lang/invoke/MethodHandle" ∧ owner ≠ "java/lang/invoke/VarHandle" ∧ (parseMethodDescriptor x.desc).map (fun d => d.parameters.length) = some n) (k7 : μ'.2.2.1 ≤ 45)
    (hn : As.length = n) (ha : hS h a = ci + 1) (hc : (vwCl[ci]?).map (fun q => q.1) = some C0)
    (hS : S = As.reverse ++ .ref a :: rest) (hw : (rest.map fun v => v.category).sum ≤ 8) (dg : decode μ.2.1 pc = .ok (.invokevirtual idx, 3)) (hb : hN h1 ≤ hN h' ∧ hZ h1 ≤ hZ h')
    (kr : Rn l X μ d (pc + 3) L (v.toList ++ rest) h1 o h') : Rn l X μ d pc L S h o h' := by
  subst hS
  refine Rn.byRun hM.1 hM.2.1 (rest := rest) (o1 := .inl v) (fun {D ar ea av b p e R s m args below meth c H locs ls cells slots} C hsz hS1 hW hB hf hl hcc hss => ?_) hb (fun v2 ho => by cases ho; exact kr) (fun x hx => by cases hx)
  have hr := dm_recv C hW ha hc
  have h0 := (hw_lt hW C.hea (Nat.lt_of_le_of_lt hM.1 hB) (r := a) (by omega)).2.2
  have e1 : (As.reverse ++ .ref a :: rest).map (tv ea) = (As.map (tv ea)).reverse ++ .ref (ea a) :: rest.map (tv ea) := by rw [mapr, List.map_cons, tv_rf h0]
  have e2 : (Value.ref a :: As).map (tv ea) = .ref (ea a) :: As.map (tv ea) := by rw [List.map_cons, tv_rf h0]
  have hMt := hM.met hB C.hea (D := D) (ar := ar) (av := av)
  have hpre := dm_pre (As := .ref a :: As) C hS1 hW
  rw [e2] at hMt hpre
  rw [e1]
  obtain ⟨w1, w2, w3, w4, w5⟩ := k1
  refine ⟨_, run_of (va_runU (As := As.map (tv ea)) (n := n) (b := ea a) (x := x) (owner := owner) (C := C0) C.fix hMt (va_cwA n C.ts (own := μ.1) (index := idx) (C := C0) (owner := owner) (x := x) (y := y) ?_ (wsM_nil hh) rfl rfl (C.ot.2.2.2.1 _ hdc) k6 (rm_ok hd hf hl k7)) ⟨PW.blind, hr, hpre⟩ rfl (by rw [List.length_map]; exact hn) hsz rfl (cat_rest ea hw) dg ⟨hcc, hss⟩)⟩
  refine gi_app (fun w hw => ?_) k3
  simp only [List.mem_cons, List.not_mem_nil, or_false] at hw
  rcases hw with rfl | rfl | rfl | rfl | rfl
  · exact w1
  · exact w2
  · exact w3
  · exact w4
  · exact w5
theorem Rn.objI {idx a : Nat} {rest : List Value} (hlk : Cond.methodLink μ.1 idx objectInit ∈ gw) (ha : hS h a ≠ 0) (hw : (rest.map fun v => v.category).sum ≤ 8) (dg : decode μ.2.1 pc = .ok (.invokespecial idx, 3)) (kr : Rn l X μ d (pc + 3) L rest h o h') : Rn l X μ d pc L (.ref a :: rest) h o h' := by
  refine ⟨kr.1, kr.2.1, fun D ar ea av b p e R s m args below meth c H locs ls n0 z0 C hn hz hc hs1 hf hl hB hS1 hW hLv => ?_⟩
  have K := kr.2.2 D ar ea av b p e R s m args below meth c H locs ls n0 z0 C hn hz hc hs1 hf hl hB hS1 hW hLv
  have h0 := (hw_lt hW C.hea (Nat.lt_of_le_of_lt kr.1 hB) (r := a) ha).2.2
  show W p l e R s m args below meth c H locs _ _ _ (F0 m pc ls (tv ea (.ref a) :: rest.map (tv ea)))
  rw [tv_rf h0]
  refine W.objInit C.1 C.2.1 C.own (C.ts _ hlk) (C.ts _ (mem_gw (by decide +kernel) (by decide +kernel))) (C.ts _ (mem_gw (by decide +kernel) (by decide +kernel))) rfl (hLv.1.trans C.2.2.2.1.symm) rfl dg (by omega) ?_ K
  show 2 * 0 + ((rest.map (tv ea)).map fun v => v.category).sum + 12 ≤ R.locals
  rw [cat_map]
  omega
def exN : List String := ["java/lang/RuntimeException", "java/lang/Exception"]
/-- the words of throwing the class cls, by the pool entry ic -/
def TH (own : String) (ik ic : Nat) (cls : String) : Prop :=
  (Cond.classLink own ik cls ∈ gw ∧ Cond.initialized cls ∈ gw) ∧ Bundle.fit cls = true ∧ ((vx_atS own ic cls exN).all fun w => ((decide (w ∈ lw_tbl) && goodWord w) || casL.any fun q => decide (w = .castable q.1 q.2)) || decL.any fun q => decide (w = .declares q)) = true ∧ ((Cond.classLink own ik cls :: Cond.initialized cls :: vx_atS own ic cls exN).all vx_ot) = true
theorem TH.at {own cls : String} {ik ic : Nat} (th : TH own ik ic cls) (C : Cx l X μ D ar ea av b p s m args meth c) : ∀ w ∈ vx_atS own ic cls exN, w.before args s = true := by
  intro w hw
  have h1 := List.all_eq_true.mp th.2.2.1 w hw
  simp only [Bool.or_eq_true, Bool.and_eq_true, decide_eq_true_eq, List.any_eq_true] at h1
  rcases h1 with (⟨g1, g2⟩ | ⟨q, g1, rfl⟩) | ⟨q, g1, rfl⟩
  · exact C.ts _ (mem_gw g1 g2)
  · exact va_Nw.use rfl (C.ot.2.2.1 _ g1)
  · exact va_Nw.use rfl (C.ot.2.2.2.1 _ g1)
theorem ex_fit : ∀ n ∈ exN, Bundle.fit n = true := by decide +kernel
theorem hw_ex {H' : Heap} (hW : HW D ar ea b h H) (he : EA ea b) (hB : hN h + 1 < BIG) (e2 : H'.size = H.size + 1) (e3 : ∀ q, q < H.size → H'[q]? = H[q]?) : HW D ar ea b (hA h 0 0 6) H' := hw_new hW he hB e2 e3 fun z => absurd rfl z
theorem va_S.Fx {A : Nat → Prop} {t : State} (hS1 : va_S A s.heap H locs) (e2 : t.heap.size = H.size + 1) (e3 : ∀ q, q < H.size → t.heap[q]? = H[q]?) : va_F A s t :=
  ⟨by rw [e2]; exact Nat.le_trans hS1.1 (Nat.le_succ _), fun q h1 h2 => (e3 q (Nat.lt_of_lt_of_le h1 hS1.1)).trans (hS1.2.1 q h1 h2)⟩
theorem Rn.throwS {x ik is ic i : Nat} {t : String} (th : TH μ.1 ik ic (xn x)) (hs : strL[i]? = some (μ.1, is, t)) (hT : μ.2.2.2.2.1 = [])
    (d0 : decode μ.2.1 pc = .ok (.new ik, 3)) (d3 : decode μ.2.1 (pc + 3) = .ok (.dup, 1)) (d4 : decode μ.2.1 (pc + 4) = .ok (.ldc is, 2)) (d6 : decode μ.2.1 (pc + 6) = .ok (.invokespecial ic, 3)) (d9 : decode μ.2.1 (pc + 9) = .ok (.athrow, 1))
    (hw : (S.map fun v => v.category).sum ≤ 8) : Rn l X μ d pc L S h (.inr x) (hA h 0 0 6) := by
  refine ⟨Nat.le_succ _, Nat.le_add_right _ _, fun D ar ea av b p e R s m args below meth c H locs ls n0 z0 C hn hz hc hs1 hf hl hB hS1 hW hLv => ?_⟩
  have hc' : hN h + 1 ≤ n0 + R.cells := hc
  have hs1' : hZ h + 6 ≤ z0 + R.slots := hs1
  have hst := C.ot.1 i _ hs
  refine dm_throwS (names := exN) (A := AA b) C.1 C.2.1 C.2.2.2.2.2.2.2.1 C.own th.2.1 ex_fit (C.ts _ th.1.1) (C.ts _ th.1.2) hst (th.at C) (fun w hw => List.all_eq_true.mp th.2.2.2 w hw) C.oh.2.2.1 C.oh.2.2.2.1 hS1 (hLv.1.trans C.2.2.2.1.symm) d0 d3 d4 d6 d9 (fun z hz2 => ?_)
    (by show 2 + 3 < R.frames; omega) (by rw [cat_map]; show _ + (13 * (2 + 1) + 43) ≤ R.locals; omega) (by omega) (by omega) C.2.2.2.2.2.2.1 (fun t hal e2 e3 => ⟨⟨x, rfl, rfl, hw_ex hW C.hea hB e2 e3⟩, hS1.Fx e2 e3⟩) hS1.2.2 (by show _ ≤ hN h + 1 - n0; omega) (by show _ ≤ hZ h + 6 - z0; omega)
  rw [C.2.2.2.2.2.2.2.2.1, hT] at hz2
  cases hz2
theorem Rn.throwSW {x ik is ic i : Nat} {t : String} (th : TH μ.1 ik ic (xn x)) (hs : strL[i]? = some (μ.1, is, t)) (hT : μ.2.2.2.2.1 = [])
    (d0 : decode μ.2.1 pc = .ok (.new ik, 3)) (d3 : decode μ.2.1 (pc + 3) = .ok (.dup, 1)) (d4 : decode μ.2.1 (pc + 4) = .ok (.ldc_w is, 3)) (d7 : decode μ.2.1 (pc + 7) = .ok (.invokespecial ic, 3)) (d10 : decode μ.2.1 (pc + 10) = .ok (.athrow, 1))
    (hw : (S.map fun v => v.category).sum ≤ 8) : Rn l X μ d pc L S h (.inr x) (hA h 0 0 6) := by
  refine ⟨Nat.le_succ _, Nat.le_add_right _ _, fun D ar ea av b p e R s m args below meth c H locs ls n0 z0 C hn hz hc hs1 hf hl hB hS1 hW hLv => ?_⟩
  have hc' : hN h + 1 ≤ n0 + R.cells := hc
  have hs1' : hZ h + 6 ≤ z0 + R.slots := hs1
  have hst := C.ot.1 i _ hs
  refine dm_throwSW (names := exN) (A := AA b) C.1 C.2.1 C.2.2.2.2.2.2.2.1 C.own th.2.1 ex_fit (C.ts _ th.1.1) (C.ts _ th.1.2) hst (th.at C) (fun w hw => List.all_eq_true.mp th.2.2.2 w hw) C.oh.2.2.1 C.oh.2.2.2.1 hS1 (hLv.1.trans C.2.2.2.1.symm) d0 d3 d4 d7 d10 (fun z hz2 => ?_)
    (by show 2 + 3 < R.frames; omega) (by rw [cat_map]; show _ + (13 * (2 + 1) + 43) ≤ R.locals; omega) (by omega) (by omega) C.2.2.2.2.2.2.1 (fun t hal e2 e3 => ⟨⟨x, rfl, rfl, hw_ex hW C.hea hB e2 e3⟩, hS1.Fx e2 e3⟩) hS1.2.2 (by show _ ≤ hN h + 1 - n0; omega) (by show _ ≤ hZ h + 6 - z0; omega)
  rw [C.2.2.2.2.2.2.2.2.1, hT] at hz2
  cases hz2
/-- NoSuchElementException's words: its constructor's pool has another place -/
def atN (own : String) (ic : Nat) : List Cond := (atSX own ic (xn 4) "java/lang/RuntimeException" 13 prog_33_method_4_code ["java/lang/Exception"]).filter vx_no
theorem thx_0 : decode prog_33_method_4_code 0 = .ok (.aload_n 0, 1) := by decide +kernel
theorem thx_1 : decode prog_33_method_4_code 1 = .ok (.aload_n 1, 1) := by decide +kernel
theorem thx_2 : decode prog_33_method_4_code 2 = .ok (.invokespecial 13, 3) := by decide +kernel
theorem thx_5 : decode prog_33_method_4_code 5 = .ok (.return_, 1) := by decide +kernel
def THX (own : String) (ik ic : Nat) : Prop :=
  (Cond.classLink own ik (xn 4) ∈ gw ∧ Cond.initialized (xn 4) ∈ gw) ∧ Bundle.fit (xn 4) = true ∧ ((atN own ic).all fun w => ((decide (w ∈ lw_tbl) && goodWord w) || casL.any fun q => decide (w = .castable q.1 q.2)) || decL.any fun q => decide (w = .declares q)) = true ∧ ((Cond.classLink own ik (xn 4) :: Cond.initialized (xn 4) :: atN own ic).all vx_ot) = true
theorem THX.at {own : String} {ik ic : Nat} (th : THX own ik ic) (C : Cx l X μ D ar ea av b p s m args meth c) : ∀ w ∈ atN own ic, w.before args s = true := by
  intro w hw
  have h1 := List.all_eq_true.mp th.2.2.1 w hw
  simp only [Bool.or_eq_true, Bool.and_eq_true, decide_eq_true_eq, List.any_eq_true] at h1
  rcases h1 with (⟨g1, g2⟩ | ⟨q, g1, rfl⟩) | ⟨q, g1, rfl⟩
  · exact C.ts _ (mem_gw g1 g2)
  · exact va_Nw.use rfl (C.ot.2.2.1 _ g1)
  · exact va_Nw.use rfl (C.ot.2.2.2.1 _ g1)
theorem Rn.throwSX {ik is ic i : Nat} {t : String} (th : THX μ.1 ik ic) (hs : strL[i]? = some (μ.1, is, t)) (hT : μ.2.2.2.2.1 = [])
    (d0 : decode μ.2.1 pc = .ok (.new ik, 3)) (d3 : decode μ.2.1 (pc + 3) = .ok (.dup, 1)) (d4 : decode μ.2.1 (pc + 4) = .ok (.ldc is, 2)) (d6 : decode μ.2.1 (pc + 6) = .ok (.invokespecial ic, 3)) (d9 : decode μ.2.1 (pc + 9) = .ok (.athrow, 1))
    (hw : (S.map fun v => v.category).sum ≤ 8) : Rn l X μ d pc L S h (.inr 4) (hA h 0 0 6) := by
  refine ⟨Nat.le_succ _, Nat.le_add_right _ _, fun D ar ea av b p e R s m args below meth c H locs ls n0 z0 C hn hz hc hs1 hf hl hB hS1 hW hLv => ?_⟩
  have hc' : hN h + 1 ≤ n0 + R.cells := hc
  have hs1' : hZ h + 6 ≤ z0 + R.slots := hs1
  have hst := C.ot.1 i _ hs
  refine dm_throwSX (cls := xn 4) (sup := "java/lang/RuntimeException") (r := ["java/lang/Exception"]) (A := AA b) C.1 C.2.1 C.2.2.2.2.2.2.2.1 C.own thx_0 thx_1 thx_2 thx_5 th.2.1 (by decide +kernel) (by decide +kernel) (C.ts _ th.1.1) (C.ts _ th.1.2) hst (th.at C) (fun w hw => List.all_eq_true.mp th.2.2.2 w hw) C.oh.2.2.1 C.oh.2.2.2.1 hS1 (hLv.1.trans C.2.2.2.1.symm) d0 d3 d4 d6 d9 (fun z hz2 => ?_)
    (by show 2 + 3 < R.frames; omega) (by rw [cat_map]; show _ + (13 * (2 + 1) + 43) ≤ R.locals; omega) (by omega) (by omega) C.2.2.2.2.2.2.1 (fun t hal e2 e3 => ⟨⟨4, rfl, rfl, hw_ex hW C.hea hB e2 e3⟩, hS1.Fx e2 e3⟩) hS1.2.2 (by show _ ≤ hN h + 1 - n0; omega) (by show _ ≤ hZ h + 6 - z0; omega)
  rw [C.2.2.2.2.2.2.2.2.1, hT] at hz2
  cases hz2
end DK

