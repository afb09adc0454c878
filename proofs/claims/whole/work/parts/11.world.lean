/-! ===== what lies outside the arena: by program out of tables_1 and narrow_1 (wip/whole/gen/world.py) ===== -/
def strL : List (String × Nat × String) := [("VintageWater$Tape", 59, "year age salt month measures holy common cracked sealed not and or bar if first cistern pour of in house at bears leak to away seal open "), ("VintageWater", 90, "the text is wrong"), ("VintageWater", 100, "there are 10 texts"), ("VintageWater", 386, "no such cistern"), ("VintageWater", 157, "no such thing of a cistern"), ("VintageWater", 391, "no such year"), ("VintageWater", 389, "no such house"), ("VintageWater", 194, "no such thing of a house"), ("VintageWater", 206, "months are 1 to 60"), ("VintageWater", 228, "measures below 0"), ("VintageWater", 233, "a winter is of 1 to 999"), ("VintageWater", 245, "one cistern, or no salt"), ("VintageWater", 263, "no row of drinks"), ("VintageWater", 265, "one cistern, one year, or measures below 0"), ("VintageWater", 292, "not a level of each cistern"), ("VintageWater", 294, "room is 1 to 999"), ("VintageWater", 299, "measures are 0 to 999"), ("VintageWater", 309, "measures are 1 to 999"), ("VintageWater", 314, "there are 8 debts"), ("VintageWater", 393, "no such debt"), ("VintageWater", 336, "one cistern, or measures below 0"), ("VintageWater", 360, "winters are 1 to 60, months 1 to 24"), ("VintageWaterModel", 162, "cistern"), ("VintageWaterModel", 127, "holy"), ("VintageWaterModel", 132, "common"), ("VintageWaterModel", 134, "cracked"), ("VintageWaterModel", 168, "pour"), ("VintageWaterModel", 136, "of"), ("VintageWaterModel", 141, "in"), ("VintageWaterModel", 173, "salt"), ("VintageWaterModel", 178, "house"), ("VintageWaterModel", 154, "at"), ("VintageWaterModel", 156, "bears"), ("VintageWaterModel", 183, "leak"), ("VintageWaterModel", 158, "away"), ("VintageWaterModel", 160, "to"), ("VintageWaterModel", 188, "seal"), ("VintageWaterModel", 190, "open"), ("VintageWaterModel", 242, "first"), ("VintageWaterModel", 244, "bar"), ("VintageWaterModel", 246, "if"), ("VintageWaterModel", 224, "not"), ("VintageWaterModel", 216, "sealed"), ("VintageWaterModel", 203, "year"), ("VintageWaterModel", 205, "age"), ("VintageWaterModel", 207, "month"), ("VintageWaterModel", 209, "measures"), ("VintageWaterModel", 235, "and"), ("VintageWaterModel", 240, "or")]
def nstL : List (String × Nat × MethodName × String) := [("VintageWater", 11, ⟨"VintageWater$Tape", "<init>", "()V"⟩, "VintageWater"), ("VintageWater$Land", 40, ⟨"VintageWater$Cistern", "<init>", "()V"⟩, "VintageWater"), ("VintageWater$Land", 41, ⟨"VintageWater$House", "<init>", "()V"⟩, "VintageWater"), ("VintageWater$Land", 42, ⟨"VintageWater$Debt", "<init>", "()V"⟩, "VintageWater")]
def casL : List (String × String) := [("java/lang/IllegalArgumentException", "java/lang/IllegalArgumentException"), ("java/lang/UnsupportedOperationException", "java/lang/UnsupportedOperationException"), ("[I", "java/lang/Cloneable"), ("java/lang/IndexOutOfBoundsException", "java/lang/IndexOutOfBoundsException"), ("java/util/NoSuchElementException", "java/util/NoSuchElementException"), ("VintageWater", "java/lang/Object"), ("VintageWater$Tape", "java/lang/Object"), ("VintageWater$LandText", "java/lang/Object"), ("VintageWater$LawText", "java/lang/Object"), ("VintageWater$Memory", "java/lang/Object"), ("VintageWater$Land", "java/lang/Object"), ("VintageWater$Cistern", "java/lang/Object"), ("VintageWater$House", "java/lang/Object"), ("VintageWater$Debt", "java/lang/Object"), ("VintageWaterModel", "java/lang/Object"), ("java/lang/IllegalArgumentException", "java/lang/Object"), ("java/lang/UnsupportedOperationException", "java/lang/Object"), ("VintageWater$Law", "java/lang/Object"), ("java/lang/IndexOutOfBoundsException", "java/lang/Object"), ("java/util/NoSuchElementException", "java/lang/Object"), ("java/lang/Throwable", "java/lang/Object"), ("java/lang/String", "java/lang/Object")]
def decL : List MethodName := [⟨"VintageWater$Lines", "isRead", "()Z"⟩, ⟨"VintageWater$Lines", "isLine", "()Z"⟩, ⟨"java/lang/RuntimeException", "<init>", "()V"⟩, ⟨"java/lang/RuntimeException", "<init>", "(Ljava/lang/String;)V"⟩, ⟨"java/lang/Exception", "<init>", "()V"⟩, ⟨"java/lang/Exception", "<init>", "(Ljava/lang/String;)V"⟩, ⟨"java/lang/Throwable", "<init>", "()V"⟩, ⟨"java/lang/Throwable", "<init>", "(Ljava/lang/String;)V"⟩]
def aoL : List String := ["VintageWater$Land", "VintageWater$Cistern", "VintageWater$House", "VintageWater$Debt"]
def ncL : List (String × String) := [("java/lang/UnsupportedOperationException", "java/lang/IllegalArgumentException"), ("java/lang/IndexOutOfBoundsException", "java/lang/IllegalArgumentException"), ("java/util/NoSuchElementException", "java/lang/IllegalArgumentException"), ("java/lang/IllegalArgumentException", "java/lang/UnsupportedOperationException"), ("java/lang/IndexOutOfBoundsException", "java/lang/UnsupportedOperationException"), ("java/util/NoSuchElementException", "java/lang/UnsupportedOperationException"), ("java/lang/IllegalArgumentException", "java/lang/IndexOutOfBoundsException"), ("java/lang/UnsupportedOperationException", "java/lang/IndexOutOfBoundsException"), ("java/util/NoSuchElementException", "java/lang/IndexOutOfBoundsException"), ("java/lang/IllegalArgumentException", "java/util/NoSuchElementException"), ("java/lang/UnsupportedOperationException", "java/util/NoSuchElementException"), ("java/lang/IndexOutOfBoundsException", "java/util/NoSuchElementException")]
def STR : Nat := BIG
def SCR : Nat := BIG + 1000
def VAL : Nat := BIG + 100
def FMT : Nat := BIG + 2000
abbrev nLP : String := "jdk/internal/util/Preconditions"
abbrev nLF : String := "Ljava/util/function/BiFunction;"
def AA (b : Nat) : Nat → Prop := fun q => b < q
/-- a text's bytes -/
def sby (t : String) : List Int32 := t.toList.map (fun c => Int32.ofNat c.toNat)
abbrev nLS : String := "java/lang/String"
/-- the tables' part of it -/
def OT (ea : Nat → Nat) (U : State) : Prop :=
  (∀ (i : Nat) (q : String × Nat × String), strL[i]? = some q → vk_R q.1 q.2.1 q.2.2 (ea (STR + i)) U) ∧ (∀ q ∈ nstL, va_Nw (.methodLinkNest q.1 q.2.1 q.2.2.1 q.2.2.2) U) ∧
  (∀ q ∈ casL, va_Nw (.castable q.1 q.2) U) ∧ (∀ x ∈ decL, va_Nw (.declares x) U) ∧ (∀ C ∈ aoL, va_AO C U) ∧ (∀ q ∈ ncL, va_Nc q.1 q.2 U)
/-- a String constant's cells -/
def OS (ea av : Nat → Nat) (b : Nat) (U : State) (H : Heap) (i : Nat) (t : String) : Prop :=
  va_O nLS (ea (STR + i)) (AA b) U H ∧ va_OF nLS "coder" "B" (.int 0) (ea (STR + i)) (AA b) U H ∧ va_OF nLS "value" "[B" (.ref (ea (VAL + i))) (ea (STR + i)) (AA b) U H ∧ va_T .byte (ea (VAL + i)) (sby t).length (fun j => .int ((sby t).getD j 0)) (AA b) U H
/-- the heap's part of it; X: the script -/
def OH (X : Nat × (Nat → Int32)) (ea av : Nat → Nat) (b : Nat) (U : State) (H : Heap) : Prop :=
  (∀ (i : Nat) (q : String × Nat × String), strL[i]? = some q → OS ea av b U H i q.2.2) ∧ va_Z nLS "COMPACT_STRINGS" "Z" (.int 1) (AA b) U H ∧
  vx_Zq Bundle.tN "UNASSIGNED_STACK" Bundle.steD (AA b) U H ∧ vx_Zq Bundle.tN "SUPPRESSED_SENTINEL" Bundle.listD (AA b) U H ∧ va_X (ea SCR) X.1 X.2 U H ∧ ea SCR ≤ b ∧ ∃ r : Nat, (r = 0 ∨ r = FMT) ∧ va_Z nLP "SIOOBE_FORMATTER" nLF (rv ea r) (AA b) U H
theorem OT.warm {ea : Nat → Nat} {s U : State} (hW : s.WarmedH U.vm) (h : OT ea s) : OT ea U :=
  ⟨fun i q e => vk_R.warm hW (h.1 i q e), fun q e => va_Nw.warmM hW (h.2.1 q e), fun q e => va_Nw.warmC hW (h.2.2.1 q e), fun x e => va_Nw.warmD hW (h.2.2.2.1 x e), fun C e => va_AO.moved hW.alike (h.2.2.2.2.1 C e), fun q e => va_Nc.moved hW.alike (h.2.2.2.2.2 q e)⟩
theorem OS.moved {ea av : Nat → Nat} {b i : Nat} {t : String} {u U : State} {H : Heap} (hvm : u.vm.Alike U.vm) (h : OS ea av b u H i t) : OS ea av b U H i t :=
  ⟨va_O.moved hvm h.1, va_OF.moved hvm h.2.1, va_OF.moved hvm h.2.2.1, va_T.moved hvm h.2.2.2⟩
theorem OS.kept {ea av : Nat → Nat} {b i : Nat} {t : String} {U : State} {H H1 : Heap} (h : OS ea av b U H i t) (hq : ∀ a : Nat, a < H.size → ¬ AA b a → H1[a]? = H[a]?) : OS ea av b U H1 i t :=
  ⟨h.1.kept hq, h.2.1.kept hq, h.2.2.1.kept hq, h.2.2.2.kept hq⟩
theorem OH.moved {X : Nat × (Nat → Int32)} {ea av : Nat → Nat} {b : Nat} {u U : State} {H : Heap} (hvm : u.vm.Alike U.vm) (h : OH X ea av b u H) : OH X ea av b U H := by
  obtain ⟨h1, h2, h3, h4, h5, h6, r, h7, h8⟩ := h
  exact ⟨fun i q e => (h1 i q e).moved hvm, va_Z.moved hvm h2, vx_Zq.moved hvm h3, vx_Zq.moved hvm h4, va_X.moved hvm h5, h6, r, h7, va_Z.moved hvm h8⟩
theorem OH.kept {X : Nat × (Nat → Int32)} {ea av : Nat → Nat} {b : Nat} {U : State} {H H1 : Heap} (h : OH X ea av b U H) (hq : ∀ a : Nat, a < H.size → ¬ AA b a → H1[a]? = H[a]?) : OH X ea av b U H1 := by
  obtain ⟨h1, h2, h3, h4, h5, h6, r, h7, h8⟩ := h
  obtain ⟨scr, g1, g2⟩ := id h5
  exact ⟨fun i q e => (h1 i q e).kept hq, va_Z.kept h2 hq, vx_Zq.kept h3 hq, vx_Zq.kept h4 hq, h5.kept (hq _ (Array.getElem?_eq_some_iff.mp g1).1 (Nat.not_lt.mpr h6)), h6, r, h7, va_Z.kept h8 hq⟩
/-- the good words -/
def gw : List Cond := lw_tbl.filter goodWord
theorem gw_at {w : Cond} (i : Nat) (h : lw_tbl[i]? = some w) (g : goodWord w = true) : w ∈ gw := List.mem_filter.mpr ⟨List.mem_of_getElem? h, g⟩
theorem gw_ok : ∀ w ∈ gw, ((w.onTables && w.keeps) = true ∨ ∃ ty, w = .arrayClass ty) := fun w h => good_of_word (List.mem_filter.mp h).2
theorem gw_good {Ts : List Cond} (h : ∀ w ∈ gw, w ∈ Ts) : GoodIn Ts gw := fun w hw => ⟨h w hw, gw_ok w hw⟩
/-- a method: its class, bytes, variables, answer's type, handlers, whether it is a constructor -/
abbrev MI : Type := String × ByteArray × Nat × Option FieldType × List (Nat × Nat × Nat × Nat) × Bool
/-- what holds all through a method's body -/
def Cx (l : Launch) (X : Nat × (Nat → Int32)) (μ : MI) (D : va_G) (ar : Nat → ClassId) (ea av : Nat → Nat) (b : Nat) (p : Program) (s : State) (m : MethodId) (args : Array Value) (meth : Method) (c : Code) : Prop :=
  p.tables.exec = Jvm.exec ∧ c.code = μ.2.1 ∧ meth.sig.returnType = μ.2.2.2.1 ∧ c.maxLocals = μ.2.2.1 ∧ s.vm.findClass μ.1 = some m.cls ∧ (∀ w ∈ gw, w.before args s = true) ∧ meth.locks = false ∧ l.stackTraces = false ∧
  c.exceptionTable.toList = tableOf μ.2.2.2.2.1 ∧ (μ.2.2.2.2.2 = true → meth.name = "<init>") ∧ va_K D vwCl (tysA ar) s ∧ OT ea s ∧ OH X ea av b s s.heap ∧ EA ea b ∧ b < s.heap.size
def xn : Nat → String := fun e => match e with
  | 1 => "java/lang/IndexOutOfBoundsException" | 2 => "java/lang/IllegalArgumentException" | 3 => "java/lang/UnsupportedOperationException" | _ => "java/util/NoSuchElementException"
abbrev Oc : Type := (Option Value) ⊕ Nat
def RQ (D : va_G) (ar : Nat → ClassId) (ea : Nat → Nat) (b : Nat) (o : Oc) (h' : Hp) : Array Value → State → Outcome → State → Prop := fun _ st oc t =>
  (∃ v : Option Value, o = .inl v ∧ oc = .returned (v.map (tv ea)) ∧ HW D ar ea b h' t.heap) ∧ va_F (AA b) st t
def RX (D : va_G) (ar : Nat → ClassId) (ea : Nat → Nat) (b : Nat) (o : Oc) (h' : Hp) : String → State → State → Prop := fun E st t =>
  (∃ e : Nat, o = .inr e ∧ E = xn e ∧ HW D ar ea b h' t.heap) ∧ va_F (AA b) st t
/-- from pc, with the variables L, the stack S, the arena h, the method comes to the outcome o with the arena h' -/
def Rn (l : Launch) (X : Nat × (Nat → Int32)) (μ : MI) (d : Nat) (pc : Nat) (L : List (Nat × Value)) (S : List Value) (h : Hp) (o : Oc) (h' : Hp) : Prop :=
  hN h ≤ hN h' ∧ hZ h ≤ hZ h' ∧ ∀ (D : va_G) (ar : Nat → ClassId) (ea av : Nat → Nat) (b : Nat) (p : Program) (e : Env) (R : Room) (s : State) (m : MethodId) (args : Array Value) (below : List Frame) (meth : Method) (c : Code) (H : Heap) (locs : List Loc) (ls : Array Slot) (n0 z0 : Nat),
    Cx l X μ D ar ea av b p s m args meth c → n0 ≤ hN h → z0 ≤ hZ h → hN h' ≤ n0 + R.cells → hZ h' ≤ z0 + R.slots → d + 12 ≤ R.frames → 64 * d + 200 ≤ R.locals → hN h' < BIG →
    va_S (AA b) s.heap H locs → HW D ar ea b h H → lv_has ls μ.2.2.1 (L.map (tq ea)) →
    W p l e R s m args below meth c H locs (hN h - n0) (hZ h - z0) (vx_MQ below (RQ D ar ea b o h') (RX D ar ea b o h') args s (hN h' - n0) (hZ h' - z0) (AA b)) (F0 m pc ls (S.map (tv ea)))
