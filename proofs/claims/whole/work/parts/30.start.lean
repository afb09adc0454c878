/-! ===== the law's start: the world that is there, and the law's end out of a run of its function (wip/whole/gen/start.body.txt) ===== -/
section START
def nwS (q : String × Nat × String) : List Cond :=
  .exactly (.string q.1 q.2.1) nLS :: .eq (.field (.string q.1 q.2.1) nLS "coder" "B") (.int 0) :: .arrayOf (.field (.string q.1 q.2.1) nLS "value" "[B") .byte :: .eq (.length (.field (.string q.1 q.2.1) nLS "value" "[B")) (.int (Int32.ofNat (sby q.2.2).length)) ::
    (List.range (sby q.2.2).length).map fun j => .eq (.elem (.field (.string q.1 q.2.1) nLS "value" "[B") (.int (Int32.ofNat j))) (.int ((sby q.2.2).getD j 0))
set_option maxRecDepth 100000 in
theorem nw_all : (flatC (Jvm.Cond.and given_1 narrow_1)).drop 131 = strL.flatMap nwS := by decide +kernel
theorem nw_str {args : Array Value} {s : State} (hgv : (Jvm.Cond.and given_1 narrow_1).before args s = true) {q : String × Nat × String} (hq : q ∈ strL) : ∀ w ∈ nwS q, w.before args s = true :=
  fun w hw => flat_of_before _ hgv w (List.mem_of_mem_drop (i := 131) (by rw [nw_all]; exact List.mem_flatMap.mpr ⟨q, hq, hw⟩))
theorem nw_len : ∀ q ∈ strL, (sby q.2.2).length < 2 ^ 31 := by decide +kernel
set_option maxRecDepth 100000 in
theorem nw_ref : ∀ q ∈ strL, Cond.stringRef q.1 q.2.1 q.2.2 ∈ lw_tbl := by decide +kernel
set_option maxRecDepth 100000 in
theorem nw_nst : ∀ q ∈ nstL, Cond.methodLinkNest q.1 q.2.1 q.2.2.1 q.2.2.2 ∈ lw_tbl := by decide +kernel
set_option maxRecDepth 100000 in
theorem nw_cas : ∀ q ∈ casL, Cond.castable q.1 q.2 ∈ lw_tbl := by decide +kernel
set_option maxRecDepth 100000 in
theorem nw_dec : ∀ x ∈ decL, Cond.declares x ∈ lw_tbl := by decide +kernel
set_option maxRecDepth 100000 in
theorem nw_ao : ∀ C ∈ aoL, Cond.arrayOver (.object C) ∈ lw_tbl := by decide +kernel
set_option maxRecDepth 100000 in
theorem nw_nc : ∀ q ∈ ncL, Cond.not (.castable q.1 q.2) ∈ flatC (Jvm.Cond.and given_1 narrow_1) := by decide +kernel
theorem start_strs {args : Array Value} {s : State} {b : Nat} (hts : ∀ w ∈ lw_tbl, w.before args s = true) (hgv : (Jvm.Cond.and given_1 narrow_1).before args s = true) (hA : ∀ a : Nat, a < s.heap.size → ¬ AA b a) (i : Nat) :
    ∃ z : Nat × Nat, ∀ q : String × Nat × String, strL[i]? = some q → vk_R q.1 q.2.1 q.2.2 z.1 s ∧ va_O nLS z.1 (AA b) s s.heap ∧ va_OF nLS "coder" "B" (.int 0) z.1 (AA b) s s.heap ∧ va_OF nLS "value" "[B" (.ref z.2) z.1 (AA b) s s.heap ∧ va_T .byte z.2 (sby q.2.2).length (fun j => .int ((sby q.2.2).getD j 0)) (AA b) s s.heap := by
  cases hq : strL[i]? with
  | none => exact ⟨(0, 0), fun q h => nomatch h⟩
  | some q =>
    have hm : q ∈ strL := List.mem_of_getElem? hq
    have hw := nw_str hgv hm
    obtain ⟨a, c, cA, kA, q1, q2, q3, q4, q5, q6, -⟩ := Cond.exactly_spec (args := args) (first := s) (o := none) (s := s) (idx := []) (t := .string q.1 q.2.1) (cls := "java/lang/String") (hw _ (List.Mem.head _))
    obtain ⟨t, ht, hT⟩ := va_Tof (f := fun j => .int ((sby q.2.2).getD j 0)) (A := AA b) (nw_len q hm) (hw _ (.tail _ (.tail _ (.head _)))) (va_eqt (hw _ (.tail _ (.tail _ (.tail _ (.head _)))))) (fun j hj => va_eqt (hw _ (.tail _ (.tail _ (.tail _ (.tail _ (List.mem_map.mpr ⟨j, List.mem_range.mpr hj, rfl⟩))))))) hA
    refine ⟨(a, t), fun q' h => ?_⟩
    cases h
    exact ⟨vk_R.of (hts _ (nw_ref q hm)) q1, ⟨cA, q3, q5, by rw [q6]; exact q2, hA a (Array.getElem?_eq_some_iff.mp q3).1⟩, vk_OFof q1 (va_eqt (hw _ (.tail _ (.head _)))) hA, vk_OFof q1 ht hA, hT⟩
def ea0 (sa sv : Nat → Nat) (b b0 f : Nat) : Nat → Nat := fun r => if r < BIG then b + r else if r < BIG + 100 then sa (r - BIG) else if r < BIG + 1000 then sv (r - (BIG + 100)) else if r < BIG + 2000 then b0 else f
theorem ea0_s (sa sv : Nat → Nat) (b b0 f : Nat) {i : Nat} (hi : i < 100) : ea0 sa sv b b0 f (STR + i) = sa i := by
  show (if BIG + i < BIG then b + (BIG + i) else if BIG + i < BIG + 100 then sa (BIG + i - BIG) else _) = _
  rw [if_neg (by omega), if_pos (by omega), Nat.add_sub_cancel_left]
theorem ea0_v (sa sv : Nat → Nat) (b b0 f : Nat) {i : Nat} (hi : i < 100) : ea0 sa sv b b0 f (VAL + i) = sv i := by
  show (if BIG + 100 + i < BIG then b + (BIG + 100 + i) else if BIG + 100 + i < BIG + 100 then sa (BIG + 100 + i - BIG) else if BIG + 100 + i < BIG + 1000 then sv (BIG + 100 + i - (BIG + 100)) else _) = _
  rw [if_neg (by omega), if_neg (by omega), if_pos (by omega), Nat.add_sub_cancel_left]
theorem ea0_x (sa sv : Nat → Nat) (b b0 f : Nat) : ea0 sa sv b b0 f SCR = b0 := by
  show (if BIG + 1000 < BIG then b + (BIG + 1000) else if BIG + 1000 < BIG + 100 then sa (BIG + 1000 - BIG) else if BIG + 1000 < BIG + 1000 then sv (BIG + 1000 - (BIG + 100)) else if BIG + 1000 < BIG + 2000 then b0 else f) = _
  rw [if_neg (by omega), if_neg (by omega), if_neg (by omega), if_pos (by omega)]
theorem ea0_f (sa sv : Nat → Nat) (b b0 f : Nat) : ea0 sa sv b b0 f FMT = f := by
  show (if BIG + 2000 < BIG then b + (BIG + 2000) else if BIG + 2000 < BIG + 100 then sa (BIG + 2000 - BIG) else if BIG + 2000 < BIG + 1000 then sv (BIG + 2000 - (BIG + 100)) else if BIG + 2000 < BIG + 2000 then b0 else f) = _
  rw [if_neg (by omega), if_neg (by omega), if_neg (by omega), if_neg (by omega)]
theorem strL_lt {i : Nat} {q : String × Nat × String} (h : strL[i]? = some q) : i < 100 :=
  Nat.lt_of_lt_of_le (List.getElem?_eq_some_iff.mp h).1 (by decide +kernel)
theorem start_cls {args : Array Value} {s : State} (hts : ∀ w ∈ lw_tbl, w.before args s = true) : ∀ q ∈ vwCl, ∃ z : ClassId × (Nat → Nat), u_Kn s q.1 q.2.1 q.2.2 z.1 z.2 := by
  have one : ∀ (C : String) (Tc : u_T) (n : Nat), (∀ w ∈ u_ws C Tc n, w ∈ lw_tbl) → Cond.instantiable C n ∈ lw_tbl → ∃ z : ClassId × (Nat → Nat), u_Kn s C Tc n z.1 z.2 := by
    intro C Tc n h1 h2
    obtain ⟨cC, iS, h⟩ := u_known (C := C) (T := Tc) (N := n) (n := n) hts h1 (hts _ h2)
    exact ⟨(cC, iS), h⟩
  refine List.forall_mem_cons.mpr ⟨one _ _ _ ?_ ?_, List.forall_mem_cons.mpr ⟨one _ _ _ ?_ ?_, List.forall_mem_cons.mpr ⟨one _ _ _ ?_ ?_, List.forall_mem_cons.mpr ⟨one _ _ _ ?_ ?_, List.forall_mem_cons.mpr ⟨one _ _ _ ?_ ?_, List.forall_mem_cons.mpr ⟨one _ _ _ ?_ ?_, List.forall_mem_cons.mpr ⟨one _ _ _ ?_ ?_, List.forall_mem_cons.mpr ⟨one _ _ _ ?_ ?_, List.forall_mem_cons.mpr ⟨one _ _ _ ?_ ?_, List.forall_mem_cons.mpr ⟨one _ _ _ ?_ ?_, List.forall_mem_cons.mpr ⟨one _ _ _ ?_ ?_, fun _ h => nomatch h⟩⟩⟩⟩⟩⟩⟩⟩⟩⟩⟩ <;> decide +kernel
theorem start_arrP {args : Array Value} {s : State} {ty : FieldType} (h : (Cond.arrayClass ty).before args s = true) : ∃ cA : ClassId, ArrOfT s cA ty ∧ s.vm.findClass ("[" ++ ty.toString) = some cA := by
  obtain ⟨cA, kA, comp, h1, h2, h3⟩ := Cond.arrayClass_spec (show (Cond.arrayClass ty).holds args s none s [] = true from h)
  exact ⟨cA, fun n z => ⟨fun k h => (by cases h), kA, h2, comp, h3⟩, h1⟩
theorem start_arrO {args : Array Value} {s : State} {C : String} (h : (Cond.arrayOver (.object C)).before args s = true) : ∃ cA : ClassId, ArrOfT s cA (.object C) ∧ va_RA s cA (.object C) := by
  obtain ⟨comp, cA, kA, h1, -, h3, h4, h5⟩ := Cond.arrayOver_spec (show (Cond.arrayOver (.object C)).holds args s none s [] = true from h)
  exact ⟨cA, fun n z => ⟨fun k h => (by cases h), kA, h3, comp, h4⟩, kA, comp, h3, h4, h1, h5⟩
set_option maxRecDepth 100000 in
theorem start_arrs {args : Array Value} {s : State} (hts : ∀ w ∈ lw_tbl, w.before args s = true) : ∃ ar : Nat → ClassId, ∀ (k : Nat) (q : ClassId × FieldType), (tysA ar)[k]? = some q → ArrOfT s q.1 q.2 ∧ va_RA s q.1 q.2 := by
  obtain ⟨c0, a0, r0⟩ := start_arrP (ty := .int) (hts _ (by decide +kernel))
  obtain ⟨c1, a1, r1⟩ := start_arrP (ty := .byte) (hts _ (by decide +kernel))
  obtain ⟨c2, a2, r2⟩ := start_arrP (ty := .long) (hts _ (by decide +kernel))
  obtain ⟨c3, a3, r3⟩ := start_arrO (C := RX0) (hts _ (by decide +kernel))
  obtain ⟨c4, a4, r4⟩ := start_arrO (C := RX2) (hts _ (by decide +kernel))
  obtain ⟨c5, a5, r5⟩ := start_arrO (C := RX1) (hts _ (by decide +kernel))
  obtain ⟨c6, a6, r6⟩ := start_arrO (C := RX3) (hts _ (by decide +kernel))
  refine ⟨fun k => if k = 20 then c0 else if k = 21 then c1 else if k = 22 then c2 else if k = 23 then c3 else if k = 24 then c4 else if k = 25 then c5 else c6, ?_⟩
  intro k q hq
  match k, hq with
  | 0, hq => cases hq; exact ⟨a0, r0⟩
  | 1, hq => cases hq; exact ⟨a1, r1⟩
  | 2, hq => cases hq; exact ⟨a2, r2⟩
  | 3, hq => cases hq; exact ⟨a3, r3⟩
  | 4, hq => cases hq; exact ⟨a4, r4⟩
  | 5, hq => cases hq; exact ⟨a5, r5⟩
  | 6, hq => cases hq; exact ⟨a6, r6⟩
  | k + 7, hq => simp [tysA] at hq
set_option maxRecDepth 100000 in
theorem start_world {s : State} {b0 L : Nat} {xs : Nat → Int32} (hts : ∀ w ∈ lw_tbl, w.before #[Value.ref b0] s = true) (hgv : (Jvm.Cond.and given_1 narrow_1).before #[Value.ref b0] s = true) (hX : va_X b0 L xs s s.heap) (hbl : b0 < s.heap.size) :
    ∃ (D : va_G) (ar : Nat → ClassId) (ea : Nat → Nat) (b : Nat), va_K D vwCl (tysA ar) s ∧ OT ea s ∧ OH (L, xs) ea (fun _ => 0) b s s.heap ∧ EA ea b ∧ s.heap.size = b + 1 ∧ ea SCR = b0 := by
  obtain ⟨b, hb⟩ : ∃ b, s.heap.size = b + 1 := ⟨s.heap.size - 1, by omega⟩
  have hA : ∀ a : Nat, a < s.heap.size → ¬ AA b a := fun a h (z : b < a) => by omega
  obtain ⟨st, hst⟩ := Classical.axiomOfChoice (start_strs (b := b) hts hgv hA)
  obtain ⟨ar, har⟩ := start_arrs hts
  have hcl : ∀ c : Nat, ∃ z : ClassId × (Nat → Nat), ∀ q : vw_C, vwCl[c]? = some q → u_Kn s q.1 q.2.1 q.2.2 z.1 z.2 := by
    intro c
    cases hq : vwCl[c]? with
    | none => exact ⟨(ar 20, fun _ => 0), fun q h => nomatch h⟩
    | some q =>
      obtain ⟨z, hz⟩ := start_cls hts q (List.mem_of_getElem? hq)
      exact ⟨z, fun q' h => by cases h; exact hz⟩
  obtain ⟨D, hD⟩ := Classical.axiomOfChoice hcl
  have fm : ∃ f r : Nat, (r = 0 ∨ r = FMT) ∧ va_Z nLP "SIOOBE_FORMATTER" nLF (if r = 0 then .null else .ref f) (AA b) s s.heap := by
    rcases va_Zqof (C := nLP) (n := "SIOOBE_FORMATTER") (d := nLF) (A := AA b) (hts _ (by decide +kernel)) (hts _ (by decide +kernel)) (flat_of_before _ hgv _ (by decide +kernel)) hA with h | ⟨t, h⟩
    · exact ⟨0, 0, Or.inl rfl, h⟩
    · exact ⟨t, FMT, Or.inr rfl, h⟩
  obtain ⟨f, r, hr, hf⟩ := fm
  refine ⟨(fun c => (D c).1, fun c => (D c).2), ar, ea0 (fun i => (st i).1) (fun i => (st i).2) b b0 f, b, ⟨hD, har⟩, ?_, ?_, ?_, hb, ea0_x _ _ _ _ _⟩
  · refine ⟨fun i q h => ?_, fun q h => va_Nw.of rfl (hts _ (nw_nst q h)), fun q h => va_Nw.of rfl (hts _ (nw_cas q h)), fun x h => va_Nw.of rfl (hts _ (nw_dec x h)), fun C h => va_AO.of (hts _ (nw_ao C h)), fun q h => va_Nc.of (flat_of_before _ hgv _ (nw_nc q h))⟩
    rw [ea0_s _ _ _ _ _ (strL_lt h)]
    exact (hst i q h).1
  · refine ⟨fun i q h => ?_, va_Zof (hts _ (by decide +kernel)) (hts _ (by decide +kernel)) (va_eqi (flat_of_before _ hgv _ (by decide +kernel))) hA, vx_Zqof (hts _ (by decide +kernel)) (hts _ (by decide +kernel)) (flat_of_before _ hgv _ (by decide +kernel)) hA, vx_Zqof (hts _ (by decide +kernel)) (hts _ (by decide +kernel)) (flat_of_before _ hgv _ (by decide +kernel)) hA, ?_, ?_, r, hr, ?_⟩
    · have g := (hst i q h).2
      unfold OS
      rw [ea0_s _ _ _ _ _ (strL_lt h), ea0_v _ _ _ _ _ (strL_lt h)]
      exact g
    · rw [ea0_x]; exact hX
    · rw [ea0_x]; omega
    · have e : rv (ea0 (fun i => (st i).1) (fun i => (st i).2) b b0 f) r = if r = 0 then Value.null else .ref f := by
        rcases hr with rfl | rfl
        · rfl
        · show (if FMT = 0 then Value.null else .ref (ea0 _ _ _ _ _ FMT)) = _
          rw [ea0_f]
      rw [e]; exact hf
  · intro q _ h2
    show (if q < BIG then b + q else _) = _
    rw [if_pos h2]
def hp0 : Hp := (fun _ _ => 0, fun _ _ => 0, fun _ _ => 0, fun _ => 0, fun _ => 0, 0, 0)
theorem same_forget {s t : State} {Ls : List Loc} {k n b : Nat} (hb : s.heap.size = b + 1) (h : s.sameButNew t Ls k n) (hL : ∀ q ∈ Ls, AA b q.base) : s.sameButNew t [] k n := by
  obtain ⟨h1, h2, h3, h4, h5, h6⟩ := h
  refine ⟨h1, h2, h3, h4, h5, fun a c hc => ?_⟩
  obtain ⟨c', g1, g2, g3, g4⟩ := h6 a c hc
  refine ⟨c', g1, g2, g3, fun i _ => g4 i fun hm => ?_⟩
  have z : b < a := hL _ hm
  have := (Array.getElem?_eq_some_iff.mp hc).1
  omega
def R_law : String := "VintageWaterLaw"
def lw_Q (_ : Array Value) (s : State) (o : Outcome) (t : State) : Prop := o = .returned (some (.int 1)) ∧ Framed s o t [] 601024 7293034
def lw_Z (below : List Frame) (a : Array Value) (s : State) : State → Prop := fun t => ∃ o, t.status = .running ∧ Ended t below o ∧ lw_Q a s o t
/-- what holds at the law's entry -/
def lw_At (p : Program) (s : State) (m : MethodId) (meth : Method) (c : Code) (b L : Nat) (xs : Nat → Int32) : Prop :=
  p.tables.exec = Jvm.exec ∧ c.code = code ∧ meth.sig.returnType = ret ∧ c.maxLocals = 7 ∧ s.vm.findClass R_law = some m.cls ∧ (∀ w ∈ lw_tbl, w.before #[Value.ref b] s = true) ∧ va_X b L xs s s.heap ∧ b < s.heap.size ∧ meth.locks = false ∧ (Jvm.Cond.and given_1 narrow_1).before #[Value.ref b] s = true ∧ c.exceptionTable.toList = []
end START
