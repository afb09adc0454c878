/-! ===== String constants: length() and charAt(k) ===== -/
def sbs (i : Nat) : List Int32 := match strL[i]? with
  | some q => sby q.2.2
  | none => []
/-- e is the word of a String constant -/
abbrev jst (e : Nat) : Prop := STR ≤ e ∧ e < STR + 49
def stx (e : Nat) : List Int32 := sbs (e - STR)
def jlen (e : Nat) : Int32 := Int32.ofNat (stx e).length
def jch (e : Nat) (k : Int32) : Int32 := (stx e).getD (ix k) 0
theorem strL_len : strL.length = 49 := by decide +kernel
theorem sbs_ok : ∀ i, i < 49 → ((sbs i).all fun b => decide (0 ≤ b) && decide (b ≤ 127)) = true ∧ (sbs i).length < 1000 := by decide +kernel
section DS
variable {l : Launch} {X : Nat × (Nat → Int32)} {μ μ' : MI} {d d' pc pc' : Nat} {L L' : List (Nat × Value)} {S S' : List Value} {h h' h1 : Hp} {o o1 : Oc} {y : MethodName} {As : List Value}
variable {D : va_G} {ar : Nat → ClassId} {ea av : Nat → Nat} {b : Nat} {p : Program} {e : Env} {R : Room} {s : State} {m : MethodId} {args : Array Value} {below : List Frame} {meth : Method} {c : Code} {H : Heap} {locs : List Loc} {cells slots : Nat} {Q : State → Prop} {ls : Array Slot} {st : List Value}
theorem dm_os (C : Cx l X μ D ar ea av b p s m args meth c) {i : Nat} (hi : i < 49) : va_O nLS (ea (STR + i)) (AA b) s s.heap ∧ va_OF nLS "coder" "B" (.int 0) (ea (STR + i)) (AA b) s s.heap ∧ va_OF nLS "value" "[B" (.ref (ea (VAL + i))) (ea (STR + i)) (AA b) s s.heap ∧ va_T .byte (ea (VAL + i)) (sbs i).length (fun j => .int ((sbs i).getD j 0)) (AA b) s s.heap := by
  have hl : i < strL.length := by rw [strL_len]; exact hi
  have hq : strL[i]? = some strL[i] := List.getElem?_eq_getElem hl
  have e1 : sbs i = sby (strL[i]).2.2 := by unfold sbs; rw [hq]
  rw [e1]
  exact C.oh.1 i _ hq
theorem tv_str (ea : Nat → Nat) (i : Nat) : tv ea (.ref (STR + i)) = .ref (ea (STR + i)) := tv_rf (by unfold STR BIG; omega)
theorem tv_val (ea : Nat → Nat) (i : Nat) : tv ea (.ref (VAL + i)) = .ref (ea (VAL + i)) := tv_rf (by unfold VAL BIG; omega)
theorem Rn.getsC {idx : Nat} (hlk : Cond.fieldLink μ.1 idx nLS "COMPACT_STRINGS" "Z" ∈ gw) (dg : decode μ.2.1 pc = .ok (.getstatic idx, 3)) (hp : pc + 3 = pc') (kk : Rn l X μ d pc' L (.int 1 :: S) h o h') : Rn l X μ d pc L S h o h' := by
  subst hp
  refine ⟨kk.1, kk.2.1, fun D ar ea av b p e R s m args below meth c H locs ls n0 z0 C hn hz hc hs1 hf hl hB hS1 hW hLv => ?_⟩
  have K := kk.2.2 D ar ea av b p e R s m args below meth c H locs ls n0 z0 C hn hz hc hs1 hf hl hB hS1 hW hLv
  exact va_gets C.1 C.2.1 C.oh.2.1 hS1 C.own (C.ts _ hlk) (fun _ hx => hx) dg K
theorem Rn.getsF {idx : Nat} (hlk : Cond.fieldLink μ.1 idx nLP "SIOOBE_FORMATTER" nLF ∈ gw) (dg : decode μ.2.1 pc = .ok (.getstatic idx, 3)) (hp : pc + 3 = pc') (kk : ∀ r, (r = 0 ∨ r = FMT) → Rn l X μ d pc' L (.ref r :: S) h o h') : Rn l X μ d pc L S h o h' := by
  subst hp
  have k0 := kk 0 (Or.inl rfl)
  refine ⟨k0.1, k0.2.1, fun D ar ea av b p e R s m args below meth c H locs ls n0 z0 C hn hz hc hs1 hf hl hB hS1 hW hLv => ?_⟩
  obtain ⟨-, -, -, -, -, -, r, hr, hZ⟩ := C.oh
  have K := (kk r hr).2.2 D ar ea av b p e R s m args below meth c H locs ls n0 z0 C hn hz hc hs1 hf hl hB hS1 hW hLv
  exact va_gets C.1 C.2.1 hZ hS1 C.own (C.ts _ hlk) (fun _ hx => hx) dg K
theorem Rn.sfld {idx i : Nat} (hi : i < 49) (hlk : Cond.fieldLink μ.1 idx nLS "value" "[B" ∈ gw) (dg : decode μ.2.1 pc = .ok (.getfield idx, 3)) (hp : pc + 3 = pc') (kk : Rn l X μ d pc' L (.ref (VAL + i) :: S) h o h') : Rn l X μ d pc L (.ref (STR + i) :: S) h o h' := by
  subst hp
  refine ⟨kk.1, kk.2.1, fun D ar ea av b p e R s m args below meth c H locs ls n0 z0 C hn hz hc hs1 hf hl hB hS1 hW hLv => ?_⟩
  have K := kk.2.2 D ar ea av b p e R s m args below meth c H locs ls n0 z0 C hn hz hc hs1 hf hl hB hS1 hW hLv
  have K1 : W p l e R s m args below meth c H locs (hN h - n0) (hZ h - z0) (vx_MQ below (RQ D ar ea b o h') (RX D ar ea b o h') args s (hN h' - n0) (hZ h' - z0) (AA b)) (F0 m (pc + 3) ls (tv ea (.ref (VAL + i)) :: S.map (tv ea))) := K
  show W p l e R s m args below meth c H locs _ _ _ (F0 m pc ls (tv ea (.ref (STR + i)) :: S.map (tv ea)))
  rw [tv_val] at K1
  rw [tv_str]
  exact vk_getf C.1 C.2.1 (dm_os C hi).2.2.1 hS1 C.own (C.ts _ hlk) (fun _ hx => hx) dg K1
theorem Rn.scod {idx i : Nat} (hi : i < 49) (hlk : Cond.fieldLink μ.1 idx nLS "coder" "B" ∈ gw) (dg : decode μ.2.1 pc = .ok (.getfield idx, 3)) (hp : pc + 3 = pc') (kk : Rn l X μ d pc' L (.int 0 :: S) h o h') : Rn l X μ d pc L (.ref (STR + i) :: S) h o h' := by
  subst hp
  refine ⟨kk.1, kk.2.1, fun D ar ea av b p e R s m args below meth c H locs ls n0 z0 C hn hz hc hs1 hf hl hB hS1 hW hLv => ?_⟩
  have K := kk.2.2 D ar ea av b p e R s m args below meth c H locs ls n0 z0 C hn hz hc hs1 hf hl hB hS1 hW hLv
  show W p l e R s m args below meth c H locs _ _ _ (F0 m pc ls (tv ea (.ref (STR + i)) :: S.map (tv ea)))
  rw [tv_str]
  exact vk_getf C.1 C.2.1 (dm_os C hi).2.1 hS1 C.own (C.ts _ hlk) (fun _ hx => hx) dg K
theorem Rn.salen {i : Nat} (hi : i < 49) (dg : decode μ.2.1 pc = .ok (.arraylength, 1)) (hp : pc + 1 = pc') (kk : Rn l X μ d pc' L (.int (Int32.ofNat (sbs i).length) :: S) h o h') : Rn l X μ d pc L (.ref (VAL + i) :: S) h o h' := by
  subst hp
  refine ⟨kk.1, kk.2.1, fun D ar ea av b p e R s m args below meth c H locs ls n0 z0 C hn hz hc hs1 hf hl hB hS1 hW hLv => ?_⟩
  have K := kk.2.2 D ar ea av b p e R s m args below meth c H locs ls n0 z0 C hn hz hc hs1 hf hl hB hS1 hW hLv
  show W p l e R s m args below meth c H locs _ _ _ (F0 m pc ls (tv ea (.ref (VAL + i)) :: S.map (tv ea)))
  rw [tv_val]
  obtain ⟨cell, q1, q2, q3, q4, q5, q6, q7⟩ := va_T.kept (dm_os C hi).2.2.2 hS1.2.1
  exact W.alen C.1 C.2.1 q1 q2 q5 rfl rfl dg K
theorem Rn.sbal {i : Nat} {j : Int32} (hi : i < 49) (hj : ib j (sbs i).length = true) (dg : decode μ.2.1 pc = .ok (.baload, 1)) (hp : pc + 1 = pc') (kk : Rn l X μ d pc' L (.int ((sbs i).getD (ix j) 0) :: S) h o h') : Rn l X μ d pc L (.int j :: .ref (VAL + i) :: S) h o h' := by
  subst hp
  refine ⟨kk.1, kk.2.1, fun D ar ea av b p e R s m args below meth c H locs ls n0 z0 C hn hz hc hs1 hf hl hB hS1 hW hLv => ?_⟩
  have K := kk.2.2 D ar ea av b p e R s m args below meth c H locs ls n0 z0 C hn hz hc hs1 hf hl hB hS1 hW hLv
  show W p l e R s m args below meth c H locs _ _ _ (F0 m pc ls (.int j :: tv ea (.ref (VAL + i)) :: S.map (tv ea)))
  rw [tv_val]
  obtain ⟨cell, q1, q2, q3, q4, q5, q6, q7⟩ := va_T.kept (dm_os C hi).2.2.2 hS1.2.1
  have hin := ib_in hj
  have hlt : j.toNatClampNeg < (sbs i).length := Nat.not_le.mp fun q => hin (Or.inr q)
  exact W.bald C.1 C.2.1 q1 q2 q3 (fun z => z.elim (fun w => hin (Or.inl w)) (fun w => by omega)) (q6 _ hlt) rfl rfl dg K
/-- a call on a String constant -/
theorem Rn.callVS {idx n i : Nat} {rest : List Value} {v : Option Value} (hi : i < 49) (hM : MC l X y μ' d' (.ref (STR + i) :: As) h (.inl v) h1) (hd : d' + 1 ≤ d) (hh : μ'.2.2.2.2.1 = []) (kb : KB μ.1 idx y μ' n) (ki : Cond.instanceMethod y ∈ gw ∧ Cond.selects y.cls y y ∈ gw) (hyc : y.cls = nLS) (hn : As.length = n)
    (hS : S = As.reverse ++ .ref (STR + i) :: rest) (hw : (rest.map fun v => v.category).sum ≤ 8) (dg : decode μ.2.1 pc = .ok (.invokevirtual idx, 3)) (hp : pc + 3 = pc') (hv : v.toList ++ rest = S')
    (kr : Rn l X μ d pc' L S' h1 o h') : Rn l X μ d pc L S h o h' := by
  subst hS; subst hp; subst hv
  obtain ⟨k1, k2, -, k3, k4, k5, k6, k7⟩ := kb
  refine Rn.byRun hM.1 hM.2.1 (rest := rest) (o1 := .inl v) (fun {D ar ea av b p e R s m args below meth c H locs ls cells slots} C hsz hS1 hW hB hf hl hcc hss => ?_) ⟨kr.1, kr.2.1⟩ (fun v2 ho => by cases ho; exact kr) (fun x hx => by cases hx)
  obtain ⟨cell, f1, f2, f3, f4⟩ := va_O.kept (dm_os C hi).1 hS1.2.1
  have e1 : (As.reverse ++ .ref (STR + i) :: rest).map (tv ea) = (As.map (tv ea)).reverse ++ .ref (ea (STR + i)) :: rest.map (tv ea) := by rw [mapr, List.map_cons, tv_str]
  have e2 : (Value.ref (STR + i) :: As).map (tv ea) = .ref (ea (STR + i)) :: As.map (tv ea) := by rw [List.map_cons, tv_str]
  have hMt := hM.2.2 D ar ea av b hB C.hea
  have hpre := dm_pre (As := .ref (STR + i) :: As) C hS1 hW
  rw [e2] at hMt hpre
  rw [e1]
  refine ⟨_, vx_runV (As := As.map (tv ea)) (n := n) (b := ea (STR + i)) C.fix hMt (cwV n C.ts (own := μ.1) (index := idx) (C := y.cls) (y := y) ?_ (wsM_nil hh) rfl rfl ⟨rfl, k4, k5, k6⟩ (rm_ok hd hf hl k7)) ⟨PW.blind, ⟨cell, f1, f2, by rw [hyc]; exact f3⟩, hpre⟩ rfl (by rw [List.length_map]; exact hn) hsz rfl (cat_rest ea hw) dg ⟨hcc, hss⟩⟩
  refine gi_app (fun w hw => ?_) k3
  simp only [List.mem_cons, List.not_mem_nil, or_false] at hw
  rcases hw with rfl | rfl | rfl | rfl
  · exact k1
  · exact ki.1
  · exact ki.2
  · exact k2
end DS
