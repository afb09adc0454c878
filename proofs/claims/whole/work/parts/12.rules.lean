/-! ===== the rules of Rn: by program (wip/whole/gen/rules1.py) ===== -/
def jshl (x y : Int32) : Int32 := x <<< (y &&& 31)
def jshr (x y : Int32) : Int32 := x >>> (y &&& 31)
def jus (x y : Int32) : Int32 := (x.toUInt32 >>> (y.toUInt32 &&& Int32.toUInt32 31)).toInt32
def jrem (x y : Int32) : Int32 := x - x / y * y
def stI (i : Nat) (v : Value) (L : List (Nat × Value)) : List (Nat × Value) := (i, v) :: L.filter (fun q => !(q.1 == i) && !(q.1 + 1 == i && q.2.category == 2))
def stJ (i : Nat) (v : Value) (L : List (Nat × Value)) : List (Nat × Value) := (i, v) :: L.filter (fun q => !(q.1 == i) && (!(q.1 == i + 1) && !(q.1 + 1 == i && q.2.category == 2)))
theorem stI_tq (ea : Nat → Nat) (i : Nat) (v : Value) (L : List (Nat × Value)) : (i, tv ea v) :: (L.map (tq ea)).filter (fun q => !(q.1 == i) && !(q.1 + 1 == i && q.2.category == 2)) = (stI i v L).map (tq ea) := by
  unfold stI
  rw [List.map_cons, List.filter_map]
  congr 1
  congr 2
  funext q
  simp only [Function.comp, tq, tv_cat]
theorem stJ_tq (ea : Nat → Nat) (i : Nat) (v : Value) (L : List (Nat × Value)) : (i, tv ea v) :: (L.map (tq ea)).filter (fun q => !(q.1 == i) && (!(q.1 == i + 1) && !(q.1 + 1 == i && q.2.category == 2))) = (stJ i v L).map (tq ea) := by
  unfold stJ
  rw [List.map_cons, List.filter_map]
  congr 1
  congr 2
  funext q
  simp only [Function.comp, tq, tv_cat]
theorem at_tq {ea : Nat → Nat} {ls : Array Slot} {nL : Nat} {L : List (Nat × Value)} (h : lv_has ls nL (L.map (tq ea))) (k : Nat) {i : Nat} {v : Value} (hk : L[k]? = some (i, v)) : ls[i]? = some (.val (tv ea v)) :=
  lv_at h k (i := i) (by rw [List.getElem?_map, hk]; rfl)
section DR
variable {l : Launch} {X : Nat × (Nat → Int32)} {μ : MI} {d pc pc' : Nat} {L L' : List (Nat × Value)} {S S' : List Value} {h h' : Hp} {o : Oc}
theorem Rn.lift (k : Rn l X μ d pc' L' S' h o h') (f : ∀ {D : va_G} {ar : Nat → ClassId} {ea av : Nat → Nat} {b : Nat} {p : Program} {e : Env} {R : Room} {s : State} {m : MethodId} {args : Array Value} {below : List Frame} {meth : Method} {c : Code} {H : Heap} {locs : List Loc} {cells slots : Nat} {Q : State → Prop} {ls : Array Slot},
    Cx l X μ D ar ea av b p s m args meth c → lv_has ls μ.2.2.1 (L.map (tq ea)) → (∀ ls' : Array Slot, lv_has ls' μ.2.2.1 (L'.map (tq ea)) → W p l e R s m args below meth c H locs cells slots Q (F0 m pc' ls' (S'.map (tv ea)))) → W p l e R s m args below meth c H locs cells slots Q (F0 m pc ls (S.map (tv ea)))) : Rn l X μ d pc L S h o h' := by
  refine ⟨k.1, k.2.1, fun D ar ea av b p e R s m args below meth c H locs ls n0 z0 C hn hz hc hs hf hl hB hS hW hL => ?_⟩
  exact f C hL (fun ls' hL' => k.2.2 D ar ea av b p e R s m args below meth c H locs ls' n0 z0 C hn hz hc hs hf hl hB hS hW hL')
theorem Rn.sub (ks : List Nat) (hl : lv_pick L ks = L') (k : Rn l X μ d pc L' S h o h') : Rn l X μ d pc L S h o h' :=
  Rn.lift k fun C hl0 kk => kk _ (lv_sub hl0 ks (by rw [← hl]; unfold lv_pick; rw [List.map_filterMap]; congr 1; funext i; rw [List.getElem?_map]))
theorem Rn.goto {off : Int} (dg : decode μ.2.1 pc = .ok (.goto off, 3)) (ht : (pc : Int) + off = (pc' : Int)) (k : Rn l X μ d pc' L S h o h') : Rn l X μ d pc L S h o h' :=
  Rn.lift k fun C hl kk => lv_goto C.1 C.2.1 dg ht (kk _ hl)
theorem Rn.iadd {x y : Int32} (dg : decode μ.2.1 pc = .ok (.iadd, 1)) (hp : pc + 1 = pc') (k : Rn l X μ d pc' L (.int (x + y) :: S) h o h') : Rn l X μ d pc L (.int y :: .int x :: S) h o h' := by
  subst hp
  exact Rn.lift k fun C hl kk => lv_iadd C.1 C.2.1 dg (kk _ hl)
theorem Rn.isub {x y : Int32} (dg : decode μ.2.1 pc = .ok (.isub, 1)) (hp : pc + 1 = pc') (k : Rn l X μ d pc' L (.int (x - y) :: S) h o h') : Rn l X μ d pc L (.int y :: .int x :: S) h o h' := by
  subst hp
  exact Rn.lift k fun C hl kk => lv_isub C.1 C.2.1 dg (kk _ hl)
theorem Rn.imul {x y : Int32} (dg : decode μ.2.1 pc = .ok (.imul, 1)) (hp : pc + 1 = pc') (k : Rn l X μ d pc' L (.int (x * y) :: S) h o h') : Rn l X μ d pc L (.int y :: .int x :: S) h o h' := by
  subst hp
  exact Rn.lift k fun C hl kk => lv_imul C.1 C.2.1 dg (kk _ hl)
theorem Rn.iand {x y : Int32} (dg : decode μ.2.1 pc = .ok (.iand, 1)) (hp : pc + 1 = pc') (k : Rn l X μ d pc' L (.int (x &&& y) :: S) h o h') : Rn l X μ d pc L (.int y :: .int x :: S) h o h' := by
  subst hp
  exact Rn.lift k fun C hl kk => lv_iand C.1 C.2.1 dg (kk _ hl)
theorem Rn.ior {x y : Int32} (dg : decode μ.2.1 pc = .ok (.ior, 1)) (hp : pc + 1 = pc') (k : Rn l X μ d pc' L (.int (x ||| y) :: S) h o h') : Rn l X μ d pc L (.int y :: .int x :: S) h o h' := by
  subst hp
  exact Rn.lift k fun C hl kk => lv_ior C.1 C.2.1 dg (kk _ hl)
theorem Rn.ixor {x y : Int32} (dg : decode μ.2.1 pc = .ok (.ixor, 1)) (hp : pc + 1 = pc') (k : Rn l X μ d pc' L (.int (x ^^^ y) :: S) h o h') : Rn l X μ d pc L (.int y :: .int x :: S) h o h' := by
  subst hp
  exact Rn.lift k fun C hl kk => lv_ixor C.1 C.2.1 dg (kk _ hl)
theorem Rn.ishl {x y : Int32} (dg : decode μ.2.1 pc = .ok (.ishl, 1)) (hp : pc + 1 = pc') (k : Rn l X μ d pc' L (.int (jshl x y) :: S) h o h') : Rn l X μ d pc L (.int y :: .int x :: S) h o h' := by
  subst hp
  exact Rn.lift k fun C hl kk => lv_ishl C.1 C.2.1 dg (kk _ hl)
theorem Rn.ishr {x y : Int32} (dg : decode μ.2.1 pc = .ok (.ishr, 1)) (hp : pc + 1 = pc') (k : Rn l X μ d pc' L (.int (jshr x y) :: S) h o h') : Rn l X μ d pc L (.int y :: .int x :: S) h o h' := by
  subst hp
  exact Rn.lift k fun C hl kk => lv_ishr C.1 C.2.1 dg (kk _ hl)
theorem Rn.iushr {x y : Int32} (dg : decode μ.2.1 pc = .ok (.iushr, 1)) (hp : pc + 1 = pc') (k : Rn l X μ d pc' L (.int (jus x y) :: S) h o h') : Rn l X μ d pc L (.int y :: .int x :: S) h o h' := by
  subst hp
  exact Rn.lift k fun C hl kk => lv_iushr C.1 C.2.1 dg rfl (kk _ hl)
theorem Rn.idiv {x y : Int32} (hne : ¬ y = 0) (dg : decode μ.2.1 pc = .ok (.idiv, 1)) (hp : pc + 1 = pc') (k : Rn l X μ d pc' L (.int (x / y) :: S) h o h') : Rn l X μ d pc L (.int y :: .int x :: S) h o h' := by
  subst hp
  exact Rn.lift k fun C hl kk => lv_idiv C.1 C.2.1 dg hne (kk _ hl)
theorem Rn.irem {x y : Int32} (hne : ¬ y = 0) (dg : decode μ.2.1 pc = .ok (.irem, 1)) (hp : pc + 1 = pc') (k : Rn l X μ d pc' L (.int (jrem x y) :: S) h o h') : Rn l X μ d pc L (.int y :: .int x :: S) h o h' := by
  subst hp
  exact Rn.lift k fun C hl kk => lv_irem C.1 C.2.1 dg hne (kk _ hl)
theorem Rn.ineg {x : Int32} (dg : decode μ.2.1 pc = .ok (.ineg, 1)) (hp : pc + 1 = pc') (k : Rn l X μ d pc' L (.int (-x) :: S) h o h') : Rn l X μ d pc L (.int x :: S) h o h' := by
  subst hp
  exact Rn.lift k fun C hl kk => lv_ineg C.1 C.2.1 dg (kk _ hl)
theorem Rn.ladd {x y : Int64} (dg : decode μ.2.1 pc = .ok (.ladd, 1)) (hp : pc + 1 = pc') (k : Rn l X μ d pc' L (.long (x + y) :: S) h o h') : Rn l X μ d pc L (.long y :: .long x :: S) h o h' := by
  subst hp
  exact Rn.lift k fun C hl kk => lv_ladd C.1 C.2.1 dg (kk _ hl)
theorem Rn.lsub {x y : Int64} (dg : decode μ.2.1 pc = .ok (.lsub, 1)) (hp : pc + 1 = pc') (k : Rn l X μ d pc' L (.long (x - y) :: S) h o h') : Rn l X μ d pc L (.long y :: .long x :: S) h o h' := by
  subst hp
  exact Rn.lift k fun C hl kk => lv_lsub C.1 C.2.1 dg (kk _ hl)
theorem Rn.lmul {x y : Int64} (dg : decode μ.2.1 pc = .ok (.lmul, 1)) (hp : pc + 1 = pc') (k : Rn l X μ d pc' L (.long (x * y) :: S) h o h') : Rn l X μ d pc L (.long y :: .long x :: S) h o h' := by
  subst hp
  exact Rn.lift k fun C hl kk => lv_lmul C.1 C.2.1 dg (kk _ hl)
theorem Rn.ldiv {x y : Int64} (hne : ¬ y = 0) (dg : decode μ.2.1 pc = .ok (.ldiv, 1)) (hp : pc + 1 = pc') (k : Rn l X μ d pc' L (.long (x / y) :: S) h o h') : Rn l X μ d pc L (.long y :: .long x :: S) h o h' := by
  subst hp
  exact Rn.lift k fun C hl kk => lv_ldiv C.1 C.2.1 dg hne (kk _ hl)
theorem Rn.lcmp {x y : Int64} (dg : decode μ.2.1 pc = .ok (.lcmp, 1)) (hp : pc + 1 = pc') (k : Rn l X μ d pc' L (.int (lg_cmp x y) :: S) h o h') : Rn l X μ d pc L (.long y :: .long x :: S) h o h' := by
  subst hp
  exact Rn.lift k fun C hl kk => W.lcmp C.1 C.2.1 dg (kk _ hl)
theorem Rn.i2l {x : Int32} (dg : decode μ.2.1 pc = .ok (.i2l, 1)) (hp : pc + 1 = pc') (k : Rn l X μ d pc' L (.long x.toInt64 :: S) h o h') : Rn l X μ d pc L (.int x :: S) h o h' := by
  subst hp
  exact Rn.lift k fun C hl kk => lv_i2l C.1 C.2.1 dg rfl (kk _ hl)
theorem Rn.l2i {x : Int64} (dg : decode μ.2.1 pc = .ok (.l2i, 1)) (hp : pc + 1 = pc') (k : Rn l X μ d pc' L (.int x.toInt32 :: S) h o h') : Rn l X μ d pc L (.long x :: S) h o h' := by
  subst hp
  exact Rn.lift k fun C hl kk => lv_l2i C.1 C.2.1 dg rfl (kk _ hl)
theorem Rn.i2b {x : Int32} (dg : decode μ.2.1 pc = .ok (.i2b, 1)) (hp : pc + 1 = pc') (k : Rn l X μ d pc' L (.int x.toInt8.toInt32 :: S) h o h') : Rn l X μ d pc L (.int x :: S) h o h' := by
  subst hp
  exact Rn.lift k fun C hl kk => lv_i2b C.1 C.2.1 dg rfl (kk _ hl)
theorem Rn.iconst {n : Int} {v : Int32} (hv : Int32.ofInt n = v) (dg : decode μ.2.1 pc = .ok (.iconst n, 1)) (hp : pc + 1 = pc') (k : Rn l X μ d pc' L (.int v :: S) h o h') : Rn l X μ d pc L (S) h o h' := by
  subst hp
  exact Rn.lift k fun C hl kk => lv_iconst C.1 C.2.1 dg hv (kk _ hl)
theorem Rn.bipush {n : Int} {v : Int32} (hv : (Int8.ofInt n).toInt32 = v) (dg : decode μ.2.1 pc = .ok (.bipush n, 2)) (hp : pc + 2 = pc') (k : Rn l X μ d pc' L (.int v :: S) h o h') : Rn l X μ d pc L (S) h o h' := by
  subst hp
  exact Rn.lift k fun C hl kk => lv_bipush C.1 C.2.1 dg hv (kk _ hl)
theorem Rn.sipush {n : Int} {v : Int32} (hv : (Int16.ofInt n).toInt32 = v) (dg : decode μ.2.1 pc = .ok (.sipush n, 3)) (hp : pc + 3 = pc') (k : Rn l X μ d pc' L (.int v :: S) h o h') : Rn l X μ d pc L (S) h o h' := by
  subst hp
  exact Rn.lift k fun C hl kk => lv_sipush C.1 C.2.1 dg hv (kk _ hl)
theorem Rn.lconst {n : Fin 2} {v : Int64} (hv : Int64.ofNat (n : Nat) = v) (dg : decode μ.2.1 pc = .ok (.lconst n, 1)) (hp : pc + 1 = pc') (k : Rn l X μ d pc' L (.long v :: S) h o h') : Rn l X μ d pc L (S) h o h' := by
  subst hp
  exact Rn.lift k fun C hl kk => lv_lconst C.1 C.2.1 dg hv (kk _ hl)
theorem Rn.null (dg : decode μ.2.1 pc = .ok (.aconst_null, 1)) (hp : pc + 1 = pc') (k : Rn l X μ d pc' L (.ref 0 :: S) h o h') : Rn l X μ d pc L (S) h o h' := by
  subst hp
  exact Rn.lift k fun C hl kk => lv_null C.1 C.2.1 dg (kk _ hl)
theorem Rn.dup {va : Value} (hc : va.category = 1) (dg : decode μ.2.1 pc = .ok (.dup, 1)) (hp : pc + 1 = pc') (k : Rn l X μ d pc' L (va :: va :: S) h o h') : Rn l X μ d pc L (va :: S) h o h' := by
  subst hp
  exact Rn.lift k fun C hl kk => lv_dup C.1 C.2.1 dg (by rw [tv_cat]; exact hc) (kk _ hl)
theorem Rn.dup2 {va vb : Value} (hc : va.category = 1) (hd : vb.category = 1) (dg : decode μ.2.1 pc = .ok (.dup2, 1)) (hp : pc + 1 = pc') (k : Rn l X μ d pc' L (va :: vb :: va :: vb :: S) h o h') : Rn l X μ d pc L (va :: vb :: S) h o h' := by
  subst hp
  exact Rn.lift k fun C hl kk => lv_dup2_11 C.1 C.2.1 dg (by rw [tv_cat]; exact hc) (by rw [tv_cat]; exact hd) (kk _ hl)
theorem Rn.pop {va : Value} (hc : va.category = 1) (dg : decode μ.2.1 pc = .ok (.pop, 1)) (hp : pc + 1 = pc') (k : Rn l X μ d pc' L (S) h o h') : Rn l X μ d pc L (va :: S) h o h' := by
  subst hp
  exact Rn.lift k fun C hl kk => lv_pop C.1 C.2.1 dg (by rw [tv_cat]; exact hc) (kk _ hl)
theorem Rn.iload {i : Nat} {x : Int32} (dg : decode μ.2.1 pc = .ok (.iload i, 2)) (n : Nat) (hk : L[n]? = some (i, .int x)) (hp : pc + 2 = pc') (k : Rn l X μ d pc' L (.int x :: S) h o h') : Rn l X μ d pc L S h o h' := by
  subst hp
  exact Rn.lift k fun C hl kk => lv_iload C.1 C.2.1 dg (at_tq hl n hk) (kk _ hl)
theorem Rn.iload_n {k : Fin 4} {i : Nat} {x : Int32} (dg : decode μ.2.1 pc = .ok (.iload_n k, 1)) (hi : (k : Nat) = i) (n : Nat) (hk : L[n]? = some (i, .int x)) (hp : pc + 1 = pc') (k : Rn l X μ d pc' L (.int x :: S) h o h') : Rn l X μ d pc L S h o h' := by
  subst hp
  exact Rn.lift k fun C hl kk => lv_iload_n C.1 C.2.1 dg hi (at_tq hl n hk) (kk _ hl)
theorem Rn.lload {i : Nat} {x : Int64} (dg : decode μ.2.1 pc = .ok (.lload i, 2)) (n : Nat) (hk : L[n]? = some (i, .long x)) (hp : pc + 2 = pc') (k : Rn l X μ d pc' L (.long x :: S) h o h') : Rn l X μ d pc L S h o h' := by
  subst hp
  exact Rn.lift k fun C hl kk => lv_lload C.1 C.2.1 dg (at_tq hl n hk) (kk _ hl)
theorem Rn.lload_n {k : Fin 4} {i : Nat} {x : Int64} (dg : decode μ.2.1 pc = .ok (.lload_n k, 1)) (hi : (k : Nat) = i) (n : Nat) (hk : L[n]? = some (i, .long x)) (hp : pc + 1 = pc') (k : Rn l X μ d pc' L (.long x :: S) h o h') : Rn l X μ d pc L S h o h' := by
  subst hp
  exact Rn.lift k fun C hl kk => lv_lload_n C.1 C.2.1 dg hi (at_tq hl n hk) (kk _ hl)
theorem Rn.aload {i r : Nat} (dg : decode μ.2.1 pc = .ok (.aload i, 2)) (n : Nat) (hk : L[n]? = some (i, .ref r)) (hp : pc + 2 = pc') (k : Rn l X μ d pc' L (.ref r :: S) h o h') : Rn l X μ d pc L S h o h' := by
  subst hp
  refine Rn.lift k fun {D ar ea av b p e R s m args below meth c H locs cells slots Q ls} C hl kk => ?_
  have ha := at_tq hl n hk
  have hz := kk _ hl
  change W p l e R s m args below meth c H locs cells slots Q (F0 m (pc + 2) ls (tv ea (.ref r) :: S.map (tv ea))) at hz
  by_cases e0 : r = 0
  · have e1 : tv ea (.ref r) = .null := by rw [e0]; rfl
    rw [e1] at ha hz
    exact lv_aloadN C.1 C.2.1 dg ha hz
  · rw [tv_rf e0] at ha hz
    exact lv_aload C.1 C.2.1 dg ha hz
theorem Rn.aload_n {k : Fin 4} {i r : Nat} (dg : decode μ.2.1 pc = .ok (.aload_n k, 1)) (hi : (k : Nat) = i) (n : Nat) (hk : L[n]? = some (i, .ref r)) (hp : pc + 1 = pc') (k : Rn l X μ d pc' L (.ref r :: S) h o h') : Rn l X μ d pc L S h o h' := by
  subst hp
  refine Rn.lift k fun {D ar ea av b p e R s m args below meth c H locs cells slots Q ls} C hl kk => ?_
  have ha := at_tq hl n hk
  have hz := kk _ hl
  change W p l e R s m args below meth c H locs cells slots Q (F0 m (pc + 1) ls (tv ea (.ref r) :: S.map (tv ea))) at hz
  by_cases e0 : r = 0
  · have e1 : tv ea (.ref r) = .null := by rw [e0]; rfl
    rw [e1] at ha hz
    exact lv_aload_nN C.1 C.2.1 dg hi ha hz
  · rw [tv_rf e0] at ha hz
    exact lv_aload_n C.1 C.2.1 dg hi ha hz
theorem Rn.istore {i : Nat} {x : Int32} (dg : decode μ.2.1 pc = .ok (.istore i, 2)) (hn : i < μ.2.2.1) (hl' : stI i (.int x) L = L') (hp : pc + 2 = pc') (k : Rn l X μ d pc' L' S h o h') : Rn l X μ d pc L (.int x :: S) h o h' := by
  subst hp
  subst hl'
  exact Rn.lift k fun C hl kk => lv_istore C.1 C.2.1 dg hl hn (stI_tq _ i (.int x) L) (fun ls' hL' => kk ls' hL')
theorem Rn.istore_n {k : Fin 4} {i : Nat} {x : Int32} (dg : decode μ.2.1 pc = .ok (.istore_n k, 1)) (hi : (k : Nat) = i) (hn : i < μ.2.2.1) (hl' : stI i (.int x) L = L') (hp : pc + 1 = pc') (k : Rn l X μ d pc' L' S h o h') : Rn l X μ d pc L (.int x :: S) h o h' := by
  subst hp
  subst hl'
  exact Rn.lift k fun C hl kk => lv_istore_n C.1 C.2.1 dg hi hl hn (stI_tq _ i (.int x) L) (fun ls' hL' => kk ls' hL')
theorem Rn.lstore {i : Nat} {x : Int64} (dg : decode μ.2.1 pc = .ok (.lstore i, 2)) (hn : i + 1 < μ.2.2.1) (hl' : stJ i (.long x) L = L') (hp : pc + 2 = pc') (k : Rn l X μ d pc' L' S h o h') : Rn l X μ d pc L (.long x :: S) h o h' := by
  subst hp
  subst hl'
  exact Rn.lift k fun C hl kk => lv_lstore C.1 C.2.1 dg hl hn (stJ_tq _ i (.long x) L) (fun ls' hL' => kk ls' hL')
theorem Rn.lstore_n {k : Fin 4} {i : Nat} {x : Int64} (dg : decode μ.2.1 pc = .ok (.lstore_n k, 1)) (hi : (k : Nat) = i) (hn : i + 1 < μ.2.2.1) (hl' : stJ i (.long x) L = L') (hp : pc + 1 = pc') (k : Rn l X μ d pc' L' S h o h') : Rn l X μ d pc L (.long x :: S) h o h' := by
  subst hp
  subst hl'
  exact Rn.lift k fun C hl kk => lv_lstore_n C.1 C.2.1 dg hi hl hn (stJ_tq _ i (.long x) L) (fun ls' hL' => kk ls' hL')
theorem Rn.astore {i r : Nat} (dg : decode μ.2.1 pc = .ok (.astore i, 2)) (hn : i < μ.2.2.1) (hl' : stI i (.ref r) L = L') (hp : pc + 2 = pc') (k : Rn l X μ d pc' L' S h o h') : Rn l X μ d pc L (.ref r :: S) h o h' := by
  subst hp
  subst hl'
  refine Rn.lift k fun {D ar ea av b p e R s m args below meth c H locs cells slots Q ls} C hl kk => ?_
  have hst := stI_tq ea i (.ref r) L
  show W p l e R s m args below meth c H locs cells slots Q (F0 m pc ls (tv ea (.ref r) :: S.map (tv ea)))
  by_cases e0 : r = 0
  · have e1 : tv ea (.ref r) = .null := by rw [e0]; rfl
    rw [e1] at hst ⊢
    exact lv_astoreN C.1 C.2.1 dg hl hn hst (fun ls' hL' => kk ls' hL')
  · rw [tv_rf e0] at hst ⊢
    exact lv_astore C.1 C.2.1 dg hl hn hst (fun ls' hL' => kk ls' hL')
theorem Rn.astore_n {k : Fin 4} {i r : Nat} (dg : decode μ.2.1 pc = .ok (.astore_n k, 1)) (hi : (k : Nat) = i) (hn : i < μ.2.2.1) (hl' : stI i (.ref r) L = L') (hp : pc + 1 = pc') (k : Rn l X μ d pc' L' S h o h') : Rn l X μ d pc L (.ref r :: S) h o h' := by
  subst hp
  subst hl'
  refine Rn.lift k fun {D ar ea av b p e R s m args below meth c H locs cells slots Q ls} C hl kk => ?_
  have hst := stI_tq ea i (.ref r) L
  show W p l e R s m args below meth c H locs cells slots Q (F0 m pc ls (tv ea (.ref r) :: S.map (tv ea)))
  by_cases e0 : r = 0
  · have e1 : tv ea (.ref r) = .null := by rw [e0]; rfl
    rw [e1] at hst ⊢
    exact lv_astore_nN C.1 C.2.1 dg hi hl hn hst (fun ls' hL' => kk ls' hL')
  · rw [tv_rf e0] at hst ⊢
    exact lv_astore_n C.1 C.2.1 dg hi hl hn hst (fun ls' hL' => kk ls' hL')
theorem Rn.iinc {i : Nat} {n : Int} {x v : Int32} (dg : decode μ.2.1 pc = .ok (.iinc i n, 3)) (j : Nat) (hk : L[j]? = some (i, .int x)) (hv : x + Int32.ofInt n = v) (hn : i < μ.2.2.1) (hl' : stI i (.int v) L = L') (hp : pc + 3 = pc') (k : Rn l X μ d pc' L' S h o h') : Rn l X μ d pc L S h o h' := by
  subst hp
  subst hl'
  exact Rn.lift k fun {D ar ea av b p e R s m args below meth c H locs cells slots Q ls} C hl kk => lv_iinc C.1 C.2.1 dg hl (k := j) (by rw [List.getElem?_map, hk]; rfl) hv hn (stI_tq ea i (.int v) L) (fun ls' hL' => kk ls' hL')
theorem Rn.if_eq {x : Int32} {off : Int} {tgt : Nat} (dg : decode μ.2.1 pc = .ok (.ifCond .eq off, 3)) (ht : (pc : Int) + off = (tgt : Int)) (hp : pc + 3 = pc') (kt : x = 0 → Rn l X μ d tgt L S h o h') (kf : ¬ x = 0 → Rn l X μ d pc' L S h o h') : Rn l X μ d pc L (.int x :: S) h o h' := by
  subst hp
  by_cases c : x = 0
  · exact Rn.lift (kt c) fun C hl kk => lv_if_eq C.1 C.2.1 dg ht (fun _ => kk _ hl) (fun n => absurd c n)
  · exact Rn.lift (kf c) fun C hl kk => lv_if_eq C.1 C.2.1 dg ht (fun n => absurd n c) (fun _ => kk _ hl)
theorem Rn.icmp_eq {x y : Int32} {off : Int} {tgt : Nat} (dg : decode μ.2.1 pc = .ok (.if_icmp .eq off, 3)) (ht : (pc : Int) + off = (tgt : Int)) (hp : pc + 3 = pc') (kt : x = y → Rn l X μ d tgt L S h o h') (kf : ¬ x = y → Rn l X μ d pc' L S h o h') : Rn l X μ d pc L (.int y :: .int x :: S) h o h' := by
  subst hp
  by_cases c : x = y
  · exact Rn.lift (kt c) fun C hl kk => lv_icmp_eq C.1 C.2.1 dg ht (fun _ => kk _ hl) (fun n => absurd c n)
  · exact Rn.lift (kf c) fun C hl kk => lv_icmp_eq C.1 C.2.1 dg ht (fun n => absurd n c) (fun _ => kk _ hl)
theorem Rn.if_ne {x : Int32} {off : Int} {tgt : Nat} (dg : decode μ.2.1 pc = .ok (.ifCond .ne off, 3)) (ht : (pc : Int) + off = (tgt : Int)) (hp : pc + 3 = pc') (kt : ¬ x = 0 → Rn l X μ d tgt L S h o h') (kf : x = 0 → Rn l X μ d pc' L S h o h') : Rn l X μ d pc L (.int x :: S) h o h' := by
  subst hp
  by_cases c : x = 0
  · exact Rn.lift (kf c) fun C hl kk => lv_if_ne C.1 C.2.1 dg ht (fun n => absurd c n) (fun _ => kk _ hl)
  · exact Rn.lift (kt c) fun C hl kk => lv_if_ne C.1 C.2.1 dg ht (fun _ => kk _ hl) (fun n => absurd n c)
theorem Rn.icmp_ne {x y : Int32} {off : Int} {tgt : Nat} (dg : decode μ.2.1 pc = .ok (.if_icmp .ne off, 3)) (ht : (pc : Int) + off = (tgt : Int)) (hp : pc + 3 = pc') (kt : ¬ x = y → Rn l X μ d tgt L S h o h') (kf : x = y → Rn l X μ d pc' L S h o h') : Rn l X μ d pc L (.int y :: .int x :: S) h o h' := by
  subst hp
  by_cases c : x = y
  · exact Rn.lift (kf c) fun C hl kk => lv_icmp_ne C.1 C.2.1 dg ht (fun n => absurd c n) (fun _ => kk _ hl)
  · exact Rn.lift (kt c) fun C hl kk => lv_icmp_ne C.1 C.2.1 dg ht (fun _ => kk _ hl) (fun n => absurd n c)
theorem Rn.if_lt {x : Int32} {off : Int} {tgt : Nat} (dg : decode μ.2.1 pc = .ok (.ifCond .lt off, 3)) (ht : (pc : Int) + off = (tgt : Int)) (hp : pc + 3 = pc') (kt : x < 0 → Rn l X μ d tgt L S h o h') (kf : ¬ x < 0 → Rn l X μ d pc' L S h o h') : Rn l X μ d pc L (.int x :: S) h o h' := by
  subst hp
  by_cases c : x < 0
  · exact Rn.lift (kt c) fun C hl kk => lv_if_lt C.1 C.2.1 dg ht (fun _ => kk _ hl) (fun n => absurd c n)
  · exact Rn.lift (kf c) fun C hl kk => lv_if_lt C.1 C.2.1 dg ht (fun n => absurd n c) (fun _ => kk _ hl)
theorem Rn.icmp_lt {x y : Int32} {off : Int} {tgt : Nat} (dg : decode μ.2.1 pc = .ok (.if_icmp .lt off, 3)) (ht : (pc : Int) + off = (tgt : Int)) (hp : pc + 3 = pc') (kt : x < y → Rn l X μ d tgt L S h o h') (kf : ¬ x < y → Rn l X μ d pc' L S h o h') : Rn l X μ d pc L (.int y :: .int x :: S) h o h' := by
  subst hp
  by_cases c : x < y
  · exact Rn.lift (kt c) fun C hl kk => lv_icmp_lt C.1 C.2.1 dg ht (fun _ => kk _ hl) (fun n => absurd c n)
  · exact Rn.lift (kf c) fun C hl kk => lv_icmp_lt C.1 C.2.1 dg ht (fun n => absurd n c) (fun _ => kk _ hl)
theorem Rn.if_ge {x : Int32} {off : Int} {tgt : Nat} (dg : decode μ.2.1 pc = .ok (.ifCond .ge off, 3)) (ht : (pc : Int) + off = (tgt : Int)) (hp : pc + 3 = pc') (kt : 0 ≤ x → Rn l X μ d tgt L S h o h') (kf : ¬ 0 ≤ x → Rn l X μ d pc' L S h o h') : Rn l X μ d pc L (.int x :: S) h o h' := by
  subst hp
  by_cases c : 0 ≤ x
  · exact Rn.lift (kt c) fun C hl kk => lv_if_ge C.1 C.2.1 dg ht (fun _ => kk _ hl) (fun n => absurd c n)
  · exact Rn.lift (kf c) fun C hl kk => lv_if_ge C.1 C.2.1 dg ht (fun n => absurd n c) (fun _ => kk _ hl)
theorem Rn.icmp_ge {x y : Int32} {off : Int} {tgt : Nat} (dg : decode μ.2.1 pc = .ok (.if_icmp .ge off, 3)) (ht : (pc : Int) + off = (tgt : Int)) (hp : pc + 3 = pc') (kt : y ≤ x → Rn l X μ d tgt L S h o h') (kf : ¬ y ≤ x → Rn l X μ d pc' L S h o h') : Rn l X μ d pc L (.int y :: .int x :: S) h o h' := by
  subst hp
  by_cases c : y ≤ x
  · exact Rn.lift (kt c) fun C hl kk => lv_icmp_ge C.1 C.2.1 dg ht (fun _ => kk _ hl) (fun n => absurd c n)
  · exact Rn.lift (kf c) fun C hl kk => lv_icmp_ge C.1 C.2.1 dg ht (fun n => absurd n c) (fun _ => kk _ hl)
theorem Rn.if_gt {x : Int32} {off : Int} {tgt : Nat} (dg : decode μ.2.1 pc = .ok (.ifCond .gt off, 3)) (ht : (pc : Int) + off = (tgt : Int)) (hp : pc + 3 = pc') (kt : 0 < x → Rn l X μ d tgt L S h o h') (kf : ¬ 0 < x → Rn l X μ d pc' L S h o h') : Rn l X μ d pc L (.int x :: S) h o h' := by
  subst hp
  by_cases c : 0 < x
  · exact Rn.lift (kt c) fun C hl kk => lv_if_gt C.1 C.2.1 dg ht (fun _ => kk _ hl) (fun n => absurd c n)
  · exact Rn.lift (kf c) fun C hl kk => lv_if_gt C.1 C.2.1 dg ht (fun n => absurd n c) (fun _ => kk _ hl)
theorem Rn.icmp_gt {x y : Int32} {off : Int} {tgt : Nat} (dg : decode μ.2.1 pc = .ok (.if_icmp .gt off, 3)) (ht : (pc : Int) + off = (tgt : Int)) (hp : pc + 3 = pc') (kt : y < x → Rn l X μ d tgt L S h o h') (kf : ¬ y < x → Rn l X μ d pc' L S h o h') : Rn l X μ d pc L (.int y :: .int x :: S) h o h' := by
  subst hp
  by_cases c : y < x
  · exact Rn.lift (kt c) fun C hl kk => lv_icmp_gt C.1 C.2.1 dg ht (fun _ => kk _ hl) (fun n => absurd c n)
  · exact Rn.lift (kf c) fun C hl kk => lv_icmp_gt C.1 C.2.1 dg ht (fun n => absurd n c) (fun _ => kk _ hl)
theorem Rn.if_le {x : Int32} {off : Int} {tgt : Nat} (dg : decode μ.2.1 pc = .ok (.ifCond .le off, 3)) (ht : (pc : Int) + off = (tgt : Int)) (hp : pc + 3 = pc') (kt : x ≤ 0 → Rn l X μ d tgt L S h o h') (kf : ¬ x ≤ 0 → Rn l X μ d pc' L S h o h') : Rn l X μ d pc L (.int x :: S) h o h' := by
  subst hp
  by_cases c : x ≤ 0
  · exact Rn.lift (kt c) fun C hl kk => lv_if_le C.1 C.2.1 dg ht (fun _ => kk _ hl) (fun n => absurd c n)
  · exact Rn.lift (kf c) fun C hl kk => lv_if_le C.1 C.2.1 dg ht (fun n => absurd n c) (fun _ => kk _ hl)
theorem Rn.icmp_le {x y : Int32} {off : Int} {tgt : Nat} (dg : decode μ.2.1 pc = .ok (.if_icmp .le off, 3)) (ht : (pc : Int) + off = (tgt : Int)) (hp : pc + 3 = pc') (kt : x ≤ y → Rn l X μ d tgt L S h o h') (kf : ¬ x ≤ y → Rn l X μ d pc' L S h o h') : Rn l X μ d pc L (.int y :: .int x :: S) h o h' := by
  subst hp
  by_cases c : x ≤ y
  · exact Rn.lift (kt c) fun C hl kk => lv_icmp_le C.1 C.2.1 dg ht (fun _ => kk _ hl) (fun n => absurd c n)
  · exact Rn.lift (kf c) fun C hl kk => lv_icmp_le C.1 C.2.1 dg ht (fun n => absurd n c) (fun _ => kk _ hl)
theorem Rn.ifnull {r : Nat} {off : Int} {tgt : Nat} (dg : decode μ.2.1 pc = .ok (.ifnull off, 3)) (ht : (pc : Int) + off = (tgt : Int)) (hp : pc + 3 = pc') (kz : r = 0 → Rn l X μ d tgt L S h o h') (kn : ¬ r = 0 → Rn l X μ d (pc + 3) L S h o h') : Rn l X μ d pc L (.ref r :: S) h o h' := by
  subst hp
  by_cases e0 : r = 0
  · refine Rn.lift (kz e0) fun {D ar ea av b p e R s m args below meth c H locs cells slots Q ls} C hl kk => ?_
    have e1 : tv ea (.ref r) = .null := by rw [e0]; rfl
    show W p l e R s m args below meth c H locs cells slots Q (F0 m pc ls (tv ea (.ref r) :: S.map (tv ea)))
    rw [e1]
    exact lv_ifnullN C.1 C.2.1 dg ht (kk _ hl)
  · refine Rn.lift (kn e0) fun {D ar ea av b p e R s m args below meth c H locs cells slots Q ls} C hl kk => ?_
    show W p l e R s m args below meth c H locs cells slots Q (F0 m pc ls (tv ea (.ref r) :: S.map (tv ea)))
    rw [tv_rf e0]
    exact lv_ifnull C.1 C.2.1 dg (kk _ hl)
theorem Rn.ifnonnull {r : Nat} {off : Int} {tgt : Nat} (dg : decode μ.2.1 pc = .ok (.ifnonnull off, 3)) (ht : (pc : Int) + off = (tgt : Int)) (hp : pc + 3 = pc') (kz : r = 0 → Rn l X μ d (pc + 3) L S h o h') (kn : ¬ r = 0 → Rn l X μ d tgt L S h o h') : Rn l X μ d pc L (.ref r :: S) h o h' := by
  subst hp
  by_cases e0 : r = 0
  · refine Rn.lift (kz e0) fun {D ar ea av b p e R s m args below meth c H locs cells slots Q ls} C hl kk => ?_
    have e1 : tv ea (.ref r) = .null := by rw [e0]; rfl
    show W p l e R s m args below meth c H locs cells slots Q (F0 m pc ls (tv ea (.ref r) :: S.map (tv ea)))
    rw [e1]
    exact lv_ifnonnullN C.1 C.2.1 dg (kk _ hl)
  · refine Rn.lift (kn e0) fun {D ar ea av b p e R s m args below meth c H locs cells slots Q ls} C hl kk => ?_
    show W p l e R s m args below meth c H locs cells slots Q (F0 m pc ls (tv ea (.ref r) :: S.map (tv ea)))
    rw [tv_rf e0]
    exact lv_ifnonnull C.1 C.2.1 dg ht (kk _ hl)
theorem Rn.tabIn {dflt lo hi : Int} {offs : Array Int} {len : Nat} {x : Int32} {off : Int} {tgt : Nat} (dg : decode μ.2.1 pc = .ok (.tableswitch dflt lo hi offs, len)) (h1 : ¬ x.toInt < lo) (h2 : ¬ hi < x.toInt) (ho : offs[(x.toInt - lo).toNat]? = some off) (ht : (pc : Int) + off = (tgt : Int)) (k : Rn l X μ d tgt L S h o h') : Rn l X μ d pc L (.int x :: S) h o h' :=
  Rn.lift k fun C hl kk => lv_tableIn C.1 C.2.1 dg h1 h2 ho ht (kk _ hl)
theorem Rn.tabOut {dflt lo hi : Int} {offs : Array Int} {len : Nat} {x : Int32} {tgt : Nat} (dg : decode μ.2.1 pc = .ok (.tableswitch dflt lo hi offs, len)) (h1 : x.toInt < lo ∨ hi < x.toInt) (ht : (pc : Int) + dflt = (tgt : Int)) (k : Rn l X μ d tgt L S h o h') : Rn l X μ d pc L (.int x :: S) h o h' :=
  Rn.lift k fun C hl kk => lv_tableOut C.1 C.2.1 dg h1 ht (kk _ hl)
theorem Rn.look {dflt : Int} {ps : Array (Int × Int)} {len : Nat} {x : Int32} {off : Int} {tgt : Nat} (dg : decode μ.2.1 pc = .ok (.lookupswitch dflt ps, len)) (hq : (ps.toList.zip (ps.toList.drop 1)).all (fun (a, next) => a.1 < next.1) = true) (ho : Op.lookupswitch.offset ps.toList dflt x.toInt = off) (ht : (pc : Int) + off = (tgt : Int)) (k : Rn l X μ d tgt L S h o h') : Rn l X μ d pc L (.int x :: S) h o h' :=
  Rn.lift k fun C hl kk => lv_lookup C.1 C.2.1 dg hq ho ht (kk _ hl)
theorem Rn.ldcI {index : Nat} {v : Int32} (hc : Jvm.Cond.constant μ.1 index v ∈ gw) (dg : decode μ.2.1 pc = .ok (.ldc index, 2)) (hp : pc + 2 = pc') (k : Rn l X μ d pc' L (.int v :: S) h o h') : Rn l X μ d pc L S h o h' := by
  subst hp
  exact Rn.lift k fun C hl kk => lv_ldc C.1 C.2.1 C.2.2.2.2.1 (C.2.2.2.2.2.1 _ hc) dg (kk _ hl)
theorem Rn.ldcwI {index : Nat} {v : Int32} (hc : Jvm.Cond.constant μ.1 index v ∈ gw) (dg : decode μ.2.1 pc = .ok (.ldc_w index, 3)) (hp : pc + 3 = pc') (k : Rn l X μ d pc' L (.int v :: S) h o h') : Rn l X μ d pc L S h o h' := by
  subst hp
  exact Rn.lift k fun C hl kk => lv_ldcw C.1 C.2.1 C.2.2.2.2.1 (C.2.2.2.2.2.1 _ hc) dg (kk _ hl)
theorem Rn.ldc2 {index : Nat} {v : Int64} (hc : Jvm.Cond.constantLong μ.1 index v ∈ gw) (dg : decode μ.2.1 pc = .ok (.ldc2_w index, 3)) (hp : pc + 3 = pc') (k : Rn l X μ d pc' L (.long v :: S) h o h') : Rn l X μ d pc L S h o h' := by
  subst hp
  exact Rn.lift k fun C hl kk => lv_ldc2 C.1 C.2.1 C.2.2.2.2.1 (C.2.2.2.2.2.1 _ hc) dg (kk _ hl)
theorem Rn.ldcS {index i : Nat} {t : String} (hc : strL[i]? = some (μ.1, index, t)) (dg : decode μ.2.1 pc = .ok (.ldc index, 2)) (hp : pc + 2 = pc') (k : Rn l X μ d pc' L (.ref (STR + i) :: S) h o h') : Rn l X μ d pc L S h o h' := by
  subst hp
  refine Rn.lift k fun {D ar ea av b p e R s m args below meth c H locs cells slots Q ls} C hl kk => ?_
  have hz := kk _ hl
  change W p l e R s m args below meth c H locs cells slots Q (F0 m (pc + 2) ls (tv ea (.ref (STR + i)) :: S.map (tv ea))) at hz
  rw [tv_rf (by unfold STR BIG; omega)] at hz
  exact va_ldcS C.1 C.2.1 C.2.2.2.2.1 (C.2.2.2.2.2.2.2.2.2.2.2.1.1 i _ hc) dg hz
end DR
