/-! ===== the words of the functions that a program writes out of the bytecode ===== -/
def bI {α β : Type} (o : Option (α × Hp)) (f : α → Hp → Option β) : Option β := match o with
  | none => none
  | some r => f r.1 r.2
def bV {β : Type} (o : Option Hp) (f : Hp → Option β) : Option β := match o with
  | none => none
  | some r => f r
/-- what may throw: on it goes, or out -/
def bX {α β : Type} (o : Option ((α ⊕ Nat) × Hp)) (f : α → Hp → Option ((β ⊕ Nat) × Hp)) : Option ((β ⊕ Nat) × Hp) := match o with
  | none => none
  | some (.inl v, h1) => f v h1
  | some (.inr e, h1) => some (.inr e, h1)
/-- .. or caught -/
def bC {α β : Type} (o : Option ((α ⊕ Nat) × Hp)) (f : α → Hp → Option β) (g : Nat → Hp → Option β) : Option β := match o with
  | none => none
  | some (.inl v, h1) => f v h1
  | some (.inr e, h1) => g e h1
def wr {β : Type} (x : Hp) (f : Hp → β) : β := f x
def FU : Nat := 1000000
theorem fb0_asI (x : Int32) : x = Int32.ofInt x.toInt := by simp
theorem gd_of {c : Prop} [inst : Decidable c] {α : Type} {x : Option α} {r : α} (h : (if c then x else none) = some r) : c ∧ x = some r := by
  by_cases hc : c
  · rw [if_pos hc] at h; exact ⟨hc, h⟩
  · rw [if_neg hc] at h; cases h
theorem bI_of {α β : Type} {o : Option (α × Hp)} {f : α → Hp → Option β} {r : β} (h : bI o f = some r) : ∃ v h1, o = some (v, h1) ∧ f v h1 = some r := by
  cases o with
  | none => cases h
  | some q => exact ⟨q.1, q.2, rfl, h⟩
theorem bV_of {β : Type} {o : Option Hp} {f : Hp → Option β} {r : β} (h : bV o f = some r) : ∃ h1, o = some h1 ∧ f h1 = some r := by
  cases o with
  | none => cases h
  | some q => exact ⟨q, rfl, h⟩
theorem bX_of {α β : Type} {o : Option ((α ⊕ Nat) × Hp)} {f : α → Hp → Option ((β ⊕ Nat) × Hp)} {r : (β ⊕ Nat) × Hp} (h : bX o f = some r) : (∃ v h1, o = some (.inl v, h1) ∧ f v h1 = some r) ∨ (∃ e h1, o = some (.inr e, h1) ∧ r = (.inr e, h1)) := by
  cases o with
  | none => cases h
  | some q =>
    obtain ⟨w, h1⟩ := q
    cases w with
    | inl v => exact Or.inl ⟨v, h1, rfl, h⟩
    | inr e => exact Or.inr ⟨e, h1, rfl, (Option.some.inj h).symm⟩
theorem bC_of {α β : Type} {o : Option ((α ⊕ Nat) × Hp)} {f : α → Hp → Option β} {g : Nat → Hp → Option β} {r : β} (h : bC o f g = some r) : (∃ v h1, o = some (.inl v, h1) ∧ f v h1 = some r) ∨ (∃ e h1, o = some (.inr e, h1) ∧ g e h1 = some r) := by
  cases o with
  | none => cases h
  | some q =>
    obtain ⟨w, h1⟩ := q
    cases w with
    | inl v => exact Or.inl ⟨v, h1, rfl, h⟩
    | inr e => exact Or.inr ⟨e, h1, rfl, h⟩
theorem wr_of {β : Type} {x : Hp} {f : Hp → Option β} {r : β} (h : wr x f = some r) : f x = some r := h
theorem if_of {c : Prop} [inst : Decidable c] {α : Type} {x y : Option α} {r : α} (h : (if c then x else y) = some r) : (c → x = some r) ∧ (¬ c → y = some r) :=
  ⟨fun hc => by rw [if_pos hc] at h; exact h, fun hc => by rw [if_neg hc] at h; exact h⟩
/-- outcomes, of what a function answers -/
def eI (r : Int32 × Hp) : Oc := .inl (some (.int r.1))
def eJ (r : Int64 × Hp) : Oc := .inl (some (.long r.1))
def eA (r : Nat × Hp) : Oc := .inl (some (.ref r.1))
def eV (_ : Hp) : Oc := .inl none
def xI (r : (Int32 ⊕ Nat) × Hp) : Oc := match r.1 with
  | .inl v => .inl (some (.int v))
  | .inr e => .inr e
def xV (r : (Unit ⊕ Nat) × Hp) : Oc := match r.1 with
  | .inl _ => .inl none
  | .inr e => .inr e
def isb (v : Int32) : Prop := v = 0 ∨ v = 1
theorem nar_b {v : Int32} (h : v = 0 ∨ v = 1) : narrow .boolean (.int v) = .int v := by rcases h with rfl | rfl <;> rfl
theorem fit_b {v : Int32} (h : v = 0 ∨ v = 1) : fits .boolean (.int v) = true := by rcases h with rfl | rfl <;> rfl
section DW
variable {l : Launch} {X : Nat × (Nat → Int32)} {μ μ' : MI} {d d' pc pc' : Nat} {L L' : List (Nat × Value)} {S S' : List Value} {h h' h1 : Hp} {o o1 : Oc} {y : MethodName} {As : List Value}
theorem Rn.callV1 {idx n a ci : Nat} {rest : List Value} {v : Option Value} (hM : MC l X y μ' d' (.ref a :: As) h (.inl v) h1) (hd : d' + 1 ≤ d) (hh : μ'.2.2.2.2.1 = []) (kb : KB μ.1 idx y μ' n) (ki : Cond.instanceMethod y ∈ gw ∧ Cond.selects y.cls y y ∈ gw) (hn : As.length = n) (ha : hS h a = ci + 1) (hc : (vwCl[ci]?).map (fun q => q.1) = some y.cls)
    (hS : S = As.reverse ++ .ref a :: rest) (hw : (rest.map fun v => v.category).sum ≤ 8) (dg : decode μ.2.1 pc = .ok (.invokevirtual idx, 3)) (hp : pc + 3 = pc') (hv : v.toList ++ rest = S')
    (kr : Rn l X μ d pc' L S' h1 o h') : Rn l X μ d pc L S h o h' := by
  subst hp; subst hv
  exact Rn.callV hM hd hh kb ki hn ha hc hS hw dg ⟨kr.1, kr.2.1⟩ (fun v2 ho => by cases ho; exact kr) (fun x hx => by cases hx)
theorem Rn.callVX {idx n a ci x : Nat} {rest : List Value} (hM : MC l X y μ' d' (.ref a :: As) h (.inr x) h1) (hd : d' + 1 ≤ d) (hh : μ'.2.2.2.2.1 = []) (kb : KB μ.1 idx y μ' n) (ki : Cond.instanceMethod y ∈ gw ∧ Cond.selects y.cls y y ∈ gw) (hn : As.length = n) (ha : hS h a = ci + 1) (hc : (vwCl[ci]?).map (fun q => q.1) = some y.cls)
    (hS : S = As.reverse ++ .ref a :: rest) (hw : (rest.map fun v => v.category).sum ≤ 8) (dg : decode μ.2.1 pc = .ok (.invokevirtual idx, 3))
    (kx : RnX l X μ d pc L x h1 o h') : Rn l X μ d pc L S h o h' :=
  Rn.callV hM hd hh kb ki hn ha hc hS hw dg ⟨kx.1, kx.2.1⟩ (fun v2 ho => by cases ho) (fun x hx => by cases hx; exact kx)
theorem Rn.callS1 {idx n : Nat} {rest : List Value} {v : Option Value} (hM : MC l X y μ' d' As h (.inl v) h1) (hd : d' + 1 ≤ d) (hh : μ'.2.2.2.2.1 = []) (kb : KB μ.1 idx y μ' n) (ks : Cond.static y ∈ gw) (hn : As.length = n)
    (hS : S = As.reverse ++ rest) (hw : (rest.map fun v => v.category).sum ≤ 8) (dg : decode μ.2.1 pc = .ok (.invokestatic idx, 3)) (hp : pc + 3 = pc') (hv : v.toList ++ rest = S')
    (kr : Rn l X μ d pc' L S' h1 o h') : Rn l X μ d pc L S h o h' := by
  subst hp; subst hv
  exact Rn.callS hM hd hh kb ks hn hS hw dg ⟨kr.1, kr.2.1⟩ (fun v2 ho => by cases ho; exact kr) (fun x hx => by cases hx)
theorem Rn.callSX1 {idx n : Nat} {rest : List Value} {v : Option Value} {z : Nat × Nat × Nat × Nat} {zs : List (Nat × Nat × Nat × Nat)} (hM : MC l X y μ' d' As h (.inl v) h1) (hd : d' + 1 ≤ d) (hh : μ'.2.2.2.2.1 = z :: zs) (kb : KB μ.1 idx y μ' n) (ks : Cond.static y ∈ gw) (hn : As.length = n)
    (hS : S = As.reverse ++ rest) (hw : (rest.map fun v => v.category).sum ≤ 8) (dg : decode μ.2.1 pc = .ok (.invokestatic idx, 3)) (hp : pc + 3 = pc') (hv : v.toList ++ rest = S')
    (kr : Rn l X μ d pc' L S' h1 o h') : Rn l X μ d pc L S h o h' := by
  subst hp; subst hv
  exact Rn.callSX hM hd hh kb ks hn hS hw dg ⟨kr.1, kr.2.1⟩ (fun v2 ho => by cases ho; exact kr) (fun x hx => by cases hx)
theorem Rn.callI1 {idx n a : Nat} {rest : List Value} (hM : MC l X y μ' d' (.ref a :: As) h (.inl none) h1) (hd : d' + 1 ≤ d) (hh : μ'.2.2.2.2.1 = []) (hr0 : μ'.2.2.2.1 = none) (kb : KB μ.1 idx y μ' n) (ki : Cond.instanceMethod y ∈ gw) (hy : y.name = "<init>") (hn : As.length = n) (ha : hS h a ≠ 0)
    (hS : S = As.reverse ++ .ref a :: rest) (hw : (rest.map fun v => v.category).sum ≤ 8) (dg : decode μ.2.1 pc = .ok (.invokespecial idx, 3)) (hp : pc + 3 = pc')
    (kr : Rn l X μ d pc' L rest h1 o h') : Rn l X μ d pc L S h o h' := by
  subst hp
  exact Rn.callI hM hd hh hr0 kb ki hy hn ha hS hw dg ⟨kr.1, kr.2.1⟩ kr
theorem Rn.callIN1 {idx n a : Nat} {host : String} {rest : List Value} (hM : MC l X y μ' d' (.ref a :: As) h (.inl none) h1) (hd : d' + 1 ≤ d) (hh : μ'.2.2.2.2.1 = []) (hr0 : μ'.2.2.2.1 = none) (kn : (μ.1, idx, y, host) ∈ nstL) (k2 : Cond.initialized y.cls ∈ gw) (k3 : ∀ w ∈ wsM y μ', w ∈ gw) (k6 : y.cls ≠ "java/lang/invoke/MethodHandle" ∧ y.cls ≠ "java/lang/invoke/VarHandle" ∧ (parseMethodDescriptor y.desc).map (fun d => d.parameters.length) = some n) (k7 : μ'.2.2.1 ≤ 45) (ki : Cond.instanceMethod y ∈ gw) (hy : y.name = "<init>") (hn : As.length = n) (ha : hS h a ≠ 0)
    (hS : S = As.reverse ++ .ref a :: rest) (hw : (rest.map fun v => v.category).sum ≤ 8) (dg : decode μ.2.1 pc = .ok (.invokespecial idx, 3)) (hp : pc + 3 = pc')
    (kr : Rn l X μ d pc' L rest h1 o h') : Rn l X μ d pc L S h o h' := by
  subst hp
  exact Rn.callIN hM hd hh hr0 kn k2 k3 k6 k7 ki hy hn ha hS hw dg ⟨kr.1, kr.2.1⟩ kr
theorem Rn.callU1 {x : MethodName} {idx n a ci : Nat} {owner C0 : String} {rest : List Value} {v : Option Value} (hM : MC l X y μ' d' (.ref a :: As) h (.inl v) h1) (hd : d' + 1 ≤ d) (hh : μ'.2.2.2.2.1 = [])
    (k1 : Cond.methodLink μ.1 idx x ∈ gw ∧ Cond.sameMethod x.cls owner x.name x.desc ∈ gw ∧ Cond.selects C0 x y ∈ gw ∧ Cond.instanceMethod y ∈ gw ∧ Cond.initialized y.cls ∈ gw) (hdc : (⟨owner, x.name, x.desc⟩ : MethodName) ∈ decL) (k3 : ∀ w ∈ wsM y μ', w ∈ gw) (k6 : owner ≠ "java/lang/invoke/MethodHandle" ∧ owner ≠ "java/lang/invoke/VarHandle" ∧ (parseMethodDescriptor x.desc).map (fun d => d.parameters.length) = some n) (k7 : μ'.2.2.1 ≤ 45)
    (hn : As.length = n) (ha : hS h a = ci + 1) (hc : (vwCl[ci]?).map (fun q => q.1) = some C0)
    (hS : S = As.reverse ++ .ref a :: rest) (hw : (rest.map fun v => v.category).sum ≤ 8) (dg : decode μ.2.1 pc = .ok (.invokevirtual idx, 3)) (hp : pc + 3 = pc') (hv : v.toList ++ rest = S')
    (kr : Rn l X μ d pc' L S' h1 o h') : Rn l X μ d pc L S h o h' := by
  subst hp; subst hv
  exact Rn.callU hM hd hh k1 hdc k3 k6 k7 hn ha hc hS hw dg ⟨kr.1, kr.2.1⟩ kr
theorem Rn.objI1 {idx a : Nat} {rest : List Value} (hlk : Cond.methodLink μ.1 idx objectInit ∈ gw) (ha : hS h a ≠ 0) (hw : (rest.map fun v => v.category).sum ≤ 8) (dg : decode μ.2.1 pc = .ok (.invokespecial idx, 3)) (hp : pc + 3 = pc') (kr : Rn l X μ d pc' L rest h o h') : Rn l X μ d pc L (.ref a :: rest) h o h' := by
  subst hp
  exact Rn.objI hlk ha hw dg kr
/-- a switch's way out -/
theorem tab_out {x : Int32} {lo hi : Int} (h : ∀ z : Int, x = Int32.ofInt z → ¬ (lo ≤ z ∧ z ≤ hi)) : x.toInt < lo ∨ hi < x.toInt := by
  have h1 := h x.toInt (fb0_asI x)
  omega
end DW
