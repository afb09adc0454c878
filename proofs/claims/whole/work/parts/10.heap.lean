/-! ===== the arena as functions: ints, refs (0 is null), longs, shapes (0: nothing known), lengths, how many cells, how many slots ===== -/
abbrev Hp : Type := (Nat → Nat → Int32) × (Nat → Nat → Nat) × (Nat → Nat → Int64) × (Nat → Nat) × (Nat → Nat) × Nat × Nat
def hI (h : Hp) : Nat → Nat → Int32 := h.1
def hR (h : Hp) : Nat → Nat → Nat := h.2.1
def hJ (h : Hp) : Nat → Nat → Int64 := h.2.2.1
def hS (h : Hp) : Nat → Nat := h.2.2.2.1
def hL (h : Hp) : Nat → Nat := h.2.2.2.2.1
def hN (h : Hp) : Nat := h.2.2.2.2.2.1
def hZ (h : Hp) : Nat := h.2.2.2.2.2.2
def up2 {α : Type} (f : Nat → Nat → α) (a k : Nat) (v : α) : Nat → Nat → α := fun b j => if b = a ∧ j = k then v else f b j
def rs2 {α : Type} (f : Nat → Nat → α) (a : Nat) (g : Nat → α) : Nat → Nat → α := fun b j => if b = a then g j else f b j
def rs1 {α : Type} (f : Nat → α) (a : Nat) (v : α) : Nat → α := fun b => if b = a then v else f b
def sI (h : Hp) (a k : Nat) (v : Int32) : Hp := (up2 (hI h) a k v, hR h, hJ h, hS h, hL h, hN h, hZ h)
def sR (h : Hp) (a k : Nat) (v : Nat) : Hp := (hI h, up2 (hR h) a k v, hJ h, hS h, hL h, hN h, hZ h)
def sJ (h : Hp) (a k : Nat) (v : Int64) : Hp := (hI h, hR h, up2 (hJ h) a k v, hS h, hL h, hN h, hZ h)
/-- the ints of a cell anew -/
def cI (h : Hp) (a : Nat) (g : Nat → Int32) : Hp := (rs2 (hI h) a g, hR h, hJ h, hS h, hL h, hN h, hZ h)
/-- a new cell of that shape and length, blank; z slots -/
def hA (h : Hp) (sh len z : Nat) : Hp := (rs2 (hI h) (hN h + 1) (fun _ => 0), rs2 (hR h) (hN h + 1) (fun _ => 0), rs2 (hJ h) (hN h + 1) (fun _ => 0), rs1 (hS h) (hN h + 1) sh, rs1 (hL h) (hN h + 1) len, hN h + 1, hZ h + z)
def ix (i : Int32) : Nat := i.toNatClampNeg
def inb (i : Int32) (n : Nat) : Prop := vp_in i n
theorem inb_iff (i : Int32) (n : Nat) : inb i n ↔ 0 ≤ i.toInt ∧ i.toInt < n := vp_in_iff
/-- in range, as a number that can be decided -/
def ib (i : Int32) (n : Nat) : Bool := decide (0 ≤ i.toInt) && decide (i.toInt < n)
theorem ib_in {i : Int32} {n : Nat} (h : ib i n = true) : vp_in i n := by
  unfold ib at h
  simp only [Bool.and_eq_true, decide_eq_true_eq] at h
  exact vp_in_iff.mpr h
/-- a ref as a value: ea tells addresses -/
def rv (ea : Nat → Nat) (r : Nat) : Value := if r = 0 then .null else .ref (ea r)
def tv (ea : Nat → Nat) : Value → Value
  | .ref r => rv ea r
  | v => v
def tq (ea : Nat → Nat) (q : Nat × Value) : Nat × Value := (q.1, tv ea q.2)
theorem tv_cat (ea : Nat → Nat) (v : Value) : (tv ea v).category = v.category := by
  cases v <;> first | rfl | (simp only [tv, rv]; split <;> rfl)
theorem tv_rf {ea : Nat → Nat} {r : Nat} (h : r ≠ 0) : tv ea (.ref r) = .ref (ea r) := by
  show rv ea r = _
  unfold rv
  rw [if_neg h]
/-- field types of the claim's classes, in the order of vwCl -/
def tyA : Nat → Nat → FieldType := fun c => match c with
  | 0 => tyX0 | 1 => tyX1 | 2 => tyX2 | 3 => tyX3 | 4 => tyX4 | 5 => tyX5 | 6 => tyX6 | 7 => tyX8 | 8 => tyX9 | 9 => tyX10 | _ => tyX11
def kdT : FieldType → Nat
  | .object _ => 1
  | .array _ => 1
  | .long => 2
  | _ => 0
/-- the kind of the place k in a cell of that shape: 0 int, 1 ref, 2 long -/
def kd (sh k : Nat) : Nat := if sh < 20 then kdT (tyA (sh - 1) k) else if sh = 22 then 2 else if sh < 22 then 0 else 1
def cv (ea : Nat → Nat) (h : Hp) (r k : Nat) : Value := if kd (hS h r) k = 0 then .int (hI h r k) else if kd (hS h r) k = 1 then rv ea (hR h r k) else .long (hJ h r k)
def tysA (ar : Nat → ClassId) : List (ClassId × FieldType) := [(ar 20, .int), (ar 21, .byte), (ar 22, .long), (ar 23, .object RX0), (ar 24, .object RX2), (ar 25, .object RX1), (ar 26, .object RX3)]
/-- the cell r is as h says -/
def CK (D : va_G) (ar : Nat → ClassId) (ea : Nat → Nat) (h : Hp) (H : Heap) (r : Nat) : Prop :=
  (hS h r < 20 → ∃ q : vw_C, vwCl[hS h r - 1]? = some q ∧ t_OB (ea r) (D.1 (hS h r - 1)) q.2.2 (D.2 (hS h r - 1)) H (cv ea h r)) ∧ (20 ≤ hS h r → H[ea r]? = some (arrV (ar (hS h r)) (hL h r) (cv ea h r)))
def HW (D : va_G) (ar : Nat → ClassId) (ea : Nat → Nat) (b : Nat) (h : Hp) (H : Heap) : Prop :=
  H.size = b + hN h + 1 ∧ ∀ r, hS h r ≠ 0 → 1 ≤ r ∧ r ≤ hN h ∧ CK D ar ea h H r
def BIG : Nat := 10000000
def EA (ea : Nat → Nat) (b : Nat) : Prop := ∀ r, 1 ≤ r → r < BIG → ea r = b + r
theorem CK.kept {D : va_G} {ar : Nat → ClassId} {ea : Nat → Nat} {h h' : Hp} {H H' : Heap} {r : Nat} (k : CK D ar ea h H r) (hs : hS h' r = hS h r) (hl : hL h' r = hL h r) (hc : cv ea h' r = cv ea h r) (hq : H'[ea r]? = H[ea r]?) : CK D ar ea h' H' r := by
  refine ⟨fun z => ?_, fun z => ?_⟩
  · rw [hs] at z ⊢
    obtain ⟨q, q1, q2⟩ := k.1 z
    rw [hc]
    exact ⟨q, q1, q2.kept hq⟩
  · rw [hs] at z ⊢
    rw [hq, k.2 z, hl, hc]
theorem hw_put {D : va_G} {ar : Nat → ClassId} {ea : Nat → Nat} {b : Nat} {h h' : Hp} {H H' : Heap} {a : Nat} (hw : HW D ar ea b h H) (he : EA ea b) (hB : hN h < BIG) (hn : hN h' = hN h) (hs : hS h' = hS h) (hl : hL h' = hL h)
    (hz : H'.size = H.size) (oq : ∀ q, q ≠ ea a → H'[q]? = H[q]?) (hc : ∀ r, r ≠ a → cv ea h' r = cv ea h r) (ha : hS h a ≠ 0) (hk : CK D ar ea h' H' a) : HW D ar ea b h' H' := by
  refine ⟨by rw [hz, hw.1, hn], fun r hr => ?_⟩
  rw [hs] at hr
  obtain ⟨g1, g2, g3⟩ := hw.2 r hr
  rw [hn]
  refine ⟨g1, g2, ?_⟩
  by_cases e : r = a
  · rw [e]; exact hk
  · obtain ⟨f1, f2, -⟩ := hw.2 a ha
    refine g3.kept (by rw [hs]) (by rw [hl]) (hc r e) (oq _ ?_)
    rw [he r g1 (by omega), he a f1 (by omega)]
    omega
theorem hw_lt {D : va_G} {ar : Nat → ClassId} {ea : Nat → Nat} {b : Nat} {h : Hp} {H : Heap} {r : Nat} (hw : HW D ar ea b h H) (he : EA ea b) (hB : hN h < BIG) (hr : hS h r ≠ 0) : b < ea r ∧ ea r < H.size ∧ r ≠ 0 := by
  obtain ⟨g1, g2, -⟩ := hw.2 r hr
  rw [he r g1 (by omega), hw.1]
  omega
theorem hw_new {D : va_G} {ar : Nat → ClassId} {ea : Nat → Nat} {b sh len z : Nat} {h : Hp} {H H' : Heap} (hw : HW D ar ea b h H) (he : EA ea b) (hB : hN h + 1 < BIG) (hz : H'.size = H.size + 1) (oq : ∀ q, q < H.size → H'[q]? = H[q]?)
    (hk : sh ≠ 0 → CK D ar ea (hA h sh len z) H' (hN h + 1)) : HW D ar ea b (hA h sh len z) H' := by
  refine ⟨by rw [hz, hw.1]; show _ = b + (hN h + 1) + 1; omega, fun r hr => ?_⟩
  have hr' : rs1 (hS h) (hN h + 1) sh r ≠ 0 := hr
  show 1 ≤ r ∧ r ≤ hN h + 1 ∧ _
  by_cases e : r = hN h + 1
  · subst e
    refine ⟨by omega, by omega, hk ?_⟩
    unfold rs1 at hr'
    rw [if_pos rfl] at hr'
    exact hr'
  · have e1 : hS (hA h sh len z) r = hS h r := by show rs1 (hS h) (hN h + 1) sh r = _; unfold rs1; rw [if_neg e]
    have e2 : hL (hA h sh len z) r = hL h r := by show rs1 (hL h) (hN h + 1) len r = _; unfold rs1; rw [if_neg e]
    have e3 : cv ea (hA h sh len z) r = cv ea h r := by
      funext k
      have f1 : hI (hA h sh len z) r k = hI h r k := by simp [hI, hA, rs2, e]
      have f2 : hR (hA h sh len z) r k = hR h r k := by simp [hR, hA, rs2, e]
      have f3 : hJ (hA h sh len z) r k = hJ h r k := by simp [hJ, hA, rs2, e]
      unfold cv
      rw [e1, f1, f2, f3]
    rw [e1] at hr
    obtain ⟨g1, g2, g3⟩ := hw.2 r hr
    have hlt := hw_lt hw he (by omega) hr
    exact ⟨g1, by omega, g3.kept e1 e2 e3 (oq _ hlt.2.1)⟩
theorem cv_sI_ne {ea : Nat → Nat} {h : Hp} {a k r : Nat} {v : Int32} (e : r ≠ a) : cv ea (sI h a k v) r = cv ea h r := by
  funext j
  have f1 : hI (sI h a k v) r j = hI h r j := by show up2 (hI h) a k v r j = _; unfold up2; rw [if_neg (fun z => e z.1)]
  unfold cv
  rw [f1]
  rfl
theorem cv_sR_ne {ea : Nat → Nat} {h : Hp} {a k r : Nat} {v : Nat} (e : r ≠ a) : cv ea (sR h a k v) r = cv ea h r := by
  funext j
  have f1 : hR (sR h a k v) r j = hR h r j := by show up2 (hR h) a k v r j = _; unfold up2; rw [if_neg (fun z => e z.1)]
  unfold cv
  rw [f1]
  rfl
theorem cv_sJ_ne {ea : Nat → Nat} {h : Hp} {a k r : Nat} {v : Int64} (e : r ≠ a) : cv ea (sJ h a k v) r = cv ea h r := by
  funext j
  have f1 : hJ (sJ h a k v) r j = hJ h r j := by show up2 (hJ h) a k v r j = _; unfold up2; rw [if_neg (fun z => e z.1)]
  unfold cv
  rw [f1]
  rfl
theorem cv_cI_ne {ea : Nat → Nat} {h : Hp} {a r : Nat} {g : Nat → Int32} (e : r ≠ a) : cv ea (cI h a g) r = cv ea h r := by
  funext j
  have f1 : hI (cI h a g) r j = hI h r j := by show rs2 (hI h) a g r j = _; unfold rs2; rw [if_neg e]
  unfold cv
  rw [f1]
  rfl
theorem cv_sI {ea : Nat → Nat} {h : Hp} {a k : Nat} {v : Int32} (hk : kd (hS h a) k = 0) : cv ea (sI h a k v) a = updV (cv ea h a) k (.int v) := by
  funext j
  show (if kd (hS h a) j = 0 then Value.int (up2 (hI h) a k v a j) else if kd (hS h a) j = 1 then rv ea (hR h a j) else .long (hJ h a j)) = _
  unfold up2 updV
  by_cases e : j = k
  · subst e; rw [if_pos hk, if_pos ⟨rfl, rfl⟩, if_pos rfl]
  · rw [if_neg (show ¬ (a = a ∧ j = k) from fun z => e z.2), if_neg e]; rfl
theorem cv_sR {ea : Nat → Nat} {h : Hp} {a k : Nat} {v : Nat} (hk : kd (hS h a) k = 1) : cv ea (sR h a k v) a = updV (cv ea h a) k (rv ea v) := by
  funext j
  show (if kd (hS h a) j = 0 then Value.int (hI h a j) else if kd (hS h a) j = 1 then rv ea (up2 (hR h) a k v a j) else .long (hJ h a j)) = _
  unfold up2 updV
  by_cases e : j = k
  · subst e; rw [if_neg (by omega), if_pos hk, if_pos ⟨rfl, rfl⟩, if_pos rfl]
  · rw [if_neg (show ¬ (a = a ∧ j = k) from fun z => e z.2), if_neg e]; rfl
theorem cv_sJ {ea : Nat → Nat} {h : Hp} {a k : Nat} {v : Int64} (hk : kd (hS h a) k = 2) : cv ea (sJ h a k v) a = updV (cv ea h a) k (.long v) := by
  funext j
  show (if kd (hS h a) j = 0 then Value.int (hI h a j) else if kd (hS h a) j = 1 then rv ea (hR h a j) else .long (up2 (hJ h) a k v a j)) = _
  unfold up2 updV
  by_cases e : j = k
  · subst e; rw [if_neg (by omega), if_neg (by omega), if_pos ⟨rfl, rfl⟩, if_pos rfl]
  · rw [if_neg (show ¬ (a = a ∧ j = k) from fun z => e z.2), if_neg e]; rfl
theorem cv_0 {ea : Nat → Nat} {h : Hp} {a k : Nat} (hk : kd (hS h a) k = 0) : cv ea h a k = .int (hI h a k) := by unfold cv; rw [if_pos hk]
theorem cv_1 {ea : Nat → Nat} {h : Hp} {a k : Nat} (hk : kd (hS h a) k = 1) : cv ea h a k = rv ea (hR h a k) := by unfold cv; rw [if_neg (by omega), if_pos hk]
theorem cv_2 {ea : Nat → Nat} {h : Hp} {a k : Nat} (hk : kd (hS h a) k = 2) : cv ea h a k = .long (hJ h a k) := by unfold cv; rw [if_neg (by omega), if_neg (by omega)]
theorem kd_20 (k : Nat) : kd 20 k = 0 := by unfold kd; simp
theorem kd_21 (k : Nat) : kd 21 k = 0 := by unfold kd; simp
theorem kd_22 (k : Nat) : kd 22 k = 2 := by unfold kd; simp
theorem kd_23 {sh : Nat} (h : 23 ≤ sh) (k : Nat) : kd sh k = 1 := by unfold kd; rw [if_neg (by omega), if_neg (by omega), if_neg (by omega)]
