/-! ===== by program out of the bytecode (wip/whole/gen/emit.py) ===== -/
abbrev mX3_houseBits : MI := (RX3, cX3_houseBits, 1, (some Jvm.ClassFile.FieldType.int), [], false)
theorem ws_X3_houseBits : ∀ w ∈ wsM yX3_houseBits mX3_houseBits, w ∈ gw := List.forall_mem_cons.mpr ⟨gw_at 646 (by decide +kernel) (by decide +kernel), fun _ h => h⟩
def f_Land_houseBits_b0   (h : Hp) (x0 : Nat)  : Option (Int32 × Hp) :=
if hS h x0 = 4 then (
some (((jshl (1 : Int32) (hI h x0 1)) - (1 : Int32)), h)
) else none
set_option maxRecDepth 20000 in
set_option maxHeartbeats 4000000 in
theorem f_Land_houseBits_b0_ok {l : Launch} {X : Nat × (Nat → Int32)} (hst : l.stackTraces = false) {d : Nat} (hd : 0 ≤ d)     {h : Hp} {x0 : Nat}  {r : Int32 × Hp} (E : f_Land_houseBits_b0   h x0 = some r) : Rn l X mX3_houseBits d 0 [(0, .ref x0)] [] h (eI r) r.2 := by
  unfold f_Land_houseBits_b0 at E
  refine Rn.iconst (pc' := 1) (v := (1 : Int32)) (hv := by decide) dX3_houseBits_0 rfl ?_
  refine Rn.aload_n (pc' := 2) dX3_houseBits_1 rfl 0 rfl rfl ?_
  obtain ⟨g1, E⟩ := gd_of E
  refine Rn.getI (pc' := 5) fl_X3_46_3 g1 rfl dX3_houseBits_2 rfl ?_
  refine Rn.ishl (pc' := 6) dX3_houseBits_5 rfl ?_
  refine Rn.iconst (pc' := 7) (v := (1 : Int32)) (hv := by decide) dX3_houseBits_6 rfl ?_
  refine Rn.isub (pc' := 8) dX3_houseBits_7 rfl ?_
  cases E
  exact Rn.zret rfl rfl dX3_houseBits_8
def f_Land_houseBits (h : Hp) (x0 : Nat) : Option (Int32 × Hp) := f_Land_houseBits_b0  h x0
theorem f_Land_houseBits_ok {l : Launch} {X : Nat × (Nat → Int32)} (hst : l.stackTraces = false) {h : Hp} {x0 : Nat} {r : Int32 × Hp} (E : f_Land_houseBits h x0 = some r) : MC l X yX3_houseBits mX3_houseBits 0 [.ref x0] h (eI r) r.2 :=
  MC.body (by decide +kernel) rfl (by decide) hst (Nat.le_of_ble_eq_true rfl) (f_Land_houseBits_b0_ok hst (Nat.le_refl _) E)
abbrev mX3_drinkersOf : MI := (RX3, cX3_drinkersOf, 4, (some Jvm.ClassFile.FieldType.int), [], false)
theorem ws_X3_drinkersOf : ∀ w ∈ wsM yX3_drinkersOf mX3_drinkersOf, w ∈ gw := List.forall_mem_cons.mpr ⟨gw_at 650 (by decide +kernel) (by decide +kernel), fun _ h => h⟩
def f_Land_drinkersOf_b42  (k4 : Hp → Nat → Int32 → Int32 → Int32 → Option (Int32 × Hp)) (h : Hp) (x0 : Nat) (x1 : Int32) (x2 : Int32) (x3 : Int32)  : Option (Int32 × Hp) :=
k4 h x0 x1 x2 (x3 + (1 : Int32))

set_option maxRecDepth 20000 in
set_option maxHeartbeats 4000000 in
theorem f_Land_drinkersOf_b42_ok {l : Launch} {X : Nat × (Nat → Int32)} (hst : l.stackTraces = false) {d : Nat} (hd : 0 ≤ d)   {k4 : Hp → Nat → Int32 → Int32 → Int32 → Option (Int32 × Hp)} (hk4 : ∀ (h : Hp) (x0 : Nat) (x1 : Int32) (x2 : Int32) (x3 : Int32)  (r : Int32 × Hp), k4 h x0 x1 x2 x3 = some r → Rn l X mX3_drinkersOf d 4 [(0, .ref x0), (1, .int x1), (2, .int x2), (3, .int x3)] [] h (eI r) r.2) {h : Hp} {x0 : Nat} {x1 : Int32} {x2 : Int32} {x3 : Int32}  {r : Int32 × Hp} (E : f_Land_drinkersOf_b42  k4 h x0 x1 x2 x3 = some r) : Rn l X mX3_drinkersOf d 42 [(0, .ref x0), (1, .int x1), (2, .int x2), (3, .int x3)] [] h (eI r) r.2 := by
  unfold f_Land_drinkersOf_b42 at E
  refine Rn.iinc (pc' := 45) (v := (x3 + (1 : Int32))) (L' := [(3, .int (x3 + (1 : Int32))), (0, .ref x0), (1, .int x1), (2, .int x2)]) dX3_drinkersOf_42 3 rfl rfl (by decide) rfl rfl ?_
  refine Rn.goto (pc' := 4) dX3_drinkersOf_45 (by decide) ?_
  refine Rn.sub [1, 2, 3, 0] rfl ?_
  exact hk4 _ _ _ _ _ _ E
theorem fl_X3_234_2 : FL RX3 234 2 5 := ⟨_, rfl, by decide, "VintageWater$House", gw_at 326 (by decide +kernel) (by decide +kernel), Or.inl rfl⟩
def f_Land_drinkersOf_b4  (k4 : Hp → Nat → Int32 → Int32 → Int32 → Option (Int32 × Hp)) (h : Hp) (x0 : Nat) (x1 : Int32) (x2 : Int32) (x3 : Int32)  : Option (Int32 × Hp) :=
if hS h x0 = 4 then (
if (hI h x0 1) ≤ x3 then (
some (x2, h)

) else (
if x1 < 0 then (
some (x2, h)

) else (
if (30 : Int32) ≤ x1 then (
some (x2, h)

) else (
if hS h (hR h x0 4) = 24 then (
if ib x3 (hL h (hR h x0 4)) = true then (
if hS h (hR h (hR h x0 4) (ix x3)) = 3 then (
if hS h (hR h (hR h (hR h x0 4) (ix x3)) 5) = 20 then (
if ib x1 (hL h (hR h (hR h (hR h x0 4) (ix x3)) 5)) = true then (
if (hI h (hR h (hR h (hR h x0 4) (ix x3)) 5) (ix x1)) ≤ 0 then (
f_Land_drinkersOf_b42  k4 h x0 x1 x2 x3

) else (
f_Land_drinkersOf_b42  k4 h x0 x1 (x2 ||| (jshl (1 : Int32) x3)) x3

)
) else none) else none) else none) else none) else none
)

)

)
) else none
set_option maxRecDepth 20000 in
set_option maxHeartbeats 4000000 in
theorem f_Land_drinkersOf_b4_ok {l : Launch} {X : Nat × (Nat → Int32)} (hst : l.stackTraces = false) {d : Nat} (hd : 0 ≤ d)   {k4 : Hp → Nat → Int32 → Int32 → Int32 → Option (Int32 × Hp)} (hk4 : ∀ (h : Hp) (x0 : Nat) (x1 : Int32) (x2 : Int32) (x3 : Int32)  (r : Int32 × Hp), k4 h x0 x1 x2 x3 = some r → Rn l X mX3_drinkersOf d 4 [(0, .ref x0), (1, .int x1), (2, .int x2), (3, .int x3)] [] h (eI r) r.2) {h : Hp} {x0 : Nat} {x1 : Int32} {x2 : Int32} {x3 : Int32}  {r : Int32 × Hp} (E : f_Land_drinkersOf_b4  k4 h x0 x1 x2 x3 = some r) : Rn l X mX3_drinkersOf d 4 [(0, .ref x0), (1, .int x1), (2, .int x2), (3, .int x3)] [] h (eI r) r.2 := by
  unfold f_Land_drinkersOf_b4 at E
  refine Rn.iload_n (pc' := 5) dX3_drinkersOf_4 rfl 3 rfl rfl ?_
  refine Rn.aload_n (pc' := 6) dX3_drinkersOf_5 rfl 0 rfl rfl ?_
  obtain ⟨g1, E⟩ := gd_of E
  refine Rn.getI (pc' := 9) fl_X3_46_3 g1 rfl dX3_drinkersOf_6 rfl ?_
  refine Rn.icmp_ge (pc' := 12) (tgt := 48) dX3_drinkersOf_9 (by decide) rfl (fun c2 => ?_) (fun c2 => ?_)
  · replace E := (if_of E).1 c2
    refine Rn.iload_n (pc' := 49) dX3_drinkersOf_48 rfl 2 rfl rfl ?_
    cases E
    exact Rn.zret rfl rfl dX3_drinkersOf_49
  · replace E := (if_of E).2 c2
    refine Rn.iload_n (pc' := 13) dX3_drinkersOf_12 rfl 1 rfl rfl ?_
    refine Rn.if_lt (pc' := 16) (tgt := 48) dX3_drinkersOf_13 (by decide) rfl (fun c3 => ?_) (fun c3 => ?_)
    · replace E := (if_of E).1 c3
      refine Rn.iload_n (pc' := 49) dX3_drinkersOf_48 rfl 2 rfl rfl ?_
      cases E
      exact Rn.zret rfl rfl dX3_drinkersOf_49
    · replace E := (if_of E).2 c3
      refine Rn.iload_n (pc' := 17) dX3_drinkersOf_16 rfl 1 rfl rfl ?_
      refine Rn.bipush (pc' := 19) (v := (30 : Int32)) (hv := by decide) dX3_drinkersOf_17 rfl ?_
      refine Rn.icmp_ge (pc' := 22) (tgt := 48) dX3_drinkersOf_19 (by decide) rfl (fun c4 => ?_) (fun c4 => ?_)
      · replace E := (if_of E).1 c4
        refine Rn.iload_n (pc' := 49) dX3_drinkersOf_48 rfl 2 rfl rfl ?_
        cases E
        exact Rn.zret rfl rfl dX3_drinkersOf_49
      · replace E := (if_of E).2 c4
        refine Rn.aload_n (pc' := 23) dX3_drinkersOf_22 rfl 0 rfl rfl ?_
        refine Rn.getR (pc' := 26) fl_X3_19_3 g1 rfl dX3_drinkersOf_23 rfl ?_
        refine Rn.iload_n (pc' := 27) dX3_drinkersOf_26 rfl 3 rfl rfl ?_
        obtain ⟨g5, E⟩ := gd_of E
        obtain ⟨g6, E⟩ := gd_of E
        refine Rn.aald (pc' := 28) g5 (by decide) (by decide) g6 dX3_drinkersOf_27 rfl ?_
        obtain ⟨g7, E⟩ := gd_of E
        refine Rn.getR (pc' := 31) fl_X3_234_2 g7 rfl dX3_drinkersOf_28 rfl ?_
        refine Rn.iload_n (pc' := 32) dX3_drinkersOf_31 rfl 1 rfl rfl ?_
        obtain ⟨g8, E⟩ := gd_of E
        obtain ⟨g9, E⟩ := gd_of E
        refine Rn.iald (pc' := 33) g8 g9 dX3_drinkersOf_32 rfl ?_
        refine Rn.if_le (pc' := 36) (tgt := 42) dX3_drinkersOf_33 (by decide) rfl (fun c10 => ?_) (fun c10 => ?_)
        · replace E := (if_of E).1 c10
          exact f_Land_drinkersOf_b42_ok hst hd  hk4 E
        · replace E := (if_of E).2 c10
          refine Rn.iload_n (pc' := 37) dX3_drinkersOf_36 rfl 2 rfl rfl ?_
          refine Rn.iconst (pc' := 38) (v := (1 : Int32)) (hv := by decide) dX3_drinkersOf_37 rfl ?_
          refine Rn.iload_n (pc' := 39) dX3_drinkersOf_38 rfl 3 rfl rfl ?_
          refine Rn.ishl (pc' := 40) dX3_drinkersOf_39 rfl ?_
          refine Rn.ior (pc' := 41) dX3_drinkersOf_40 rfl ?_
          refine Rn.istore_n (pc' := 42) (L' := [(2, .int (x2 ||| (jshl (1 : Int32) x3))), (0, .ref x0), (1, .int x1), (3, .int x3)]) dX3_drinkersOf_41 rfl (by decide) rfl rfl ?_
          refine Rn.sub [1, 2, 0, 3] rfl ?_
          exact f_Land_drinkersOf_b42_ok hst hd  hk4 E
def f_Land_drinkersOf_L4   (n : Nat) : Hp → Nat → Int32 → Int32 → Int32 → Option (Int32 × Hp) := Nat.rec (motive := fun _ => Hp → Nat → Int32 → Int32 → Int32 → Option (Int32 × Hp)) (fun _ _ _ _ _ => none) (fun _ rec => f_Land_drinkersOf_b4   rec) n
theorem f_Land_drinkersOf_L4_ok {l : Launch} {X : Nat × (Nat → Int32)} (hst : l.stackTraces = false) {d : Nat} (hd : 0 ≤ d)     : ∀ (n : Nat) (h : Hp) (x0 : Nat) (x1 : Int32) (x2 : Int32) (x3 : Int32)  (r : Int32 × Hp), f_Land_drinkersOf_L4   n h x0 x1 x2 x3 = some r → Rn l X mX3_drinkersOf d 4 [(0, .ref x0), (1, .int x1), (2, .int x2), (3, .int x3)] [] h (eI r) r.2 := by
  intro n
  induction n with
  | zero => intro h x0 x1 x2 x3 r E; cases E
  | succ n ih => intro h x0 x1 x2 x3 r E; exact f_Land_drinkersOf_b4_ok hst hd   ih E
def f_Land_drinkersOf_b0   (h : Hp) (x0 : Nat) (x1 : Int32)  : Option (Int32 × Hp) :=
f_Land_drinkersOf_L4   FU h x0 x1 (0 : Int32) (0 : Int32)

set_option maxRecDepth 20000 in
set_option maxHeartbeats 4000000 in
theorem f_Land_drinkersOf_b0_ok {l : Launch} {X : Nat × (Nat → Int32)} (hst : l.stackTraces = false) {d : Nat} (hd : 0 ≤ d)     {h : Hp} {x0 : Nat} {x1 : Int32}  {r : Int32 × Hp} (E : f_Land_drinkersOf_b0   h x0 x1 = some r) : Rn l X mX3_drinkersOf d 0 [(0, .ref x0), (1, .int x1)] [] h (eI r) r.2 := by
  unfold f_Land_drinkersOf_b0 at E
  refine Rn.iconst (pc' := 1) (v := (0 : Int32)) (hv := by decide) dX3_drinkersOf_0 rfl ?_
  refine Rn.istore_n (pc' := 2) (L' := [(2, .int (0 : Int32)), (0, .ref x0), (1, .int x1)]) dX3_drinkersOf_1 rfl (by decide) rfl rfl ?_
  refine Rn.iconst (pc' := 3) (v := (0 : Int32)) (hv := by decide) dX3_drinkersOf_2 rfl ?_
  refine Rn.istore_n (pc' := 4) (L' := [(3, .int (0 : Int32)), (2, .int (0 : Int32)), (0, .ref x0), (1, .int x1)]) dX3_drinkersOf_3 rfl (by decide) rfl rfl ?_
  refine Rn.sub [2, 3, 1, 0] rfl ?_
  exact f_Land_drinkersOf_L4_ok hst hd   FU _ _ _ _ _ _ E
def f_Land_drinkersOf (h : Hp) (x0 : Nat) (x1 : Int32) : Option (Int32 × Hp) := f_Land_drinkersOf_b0  h x0 x1
theorem f_Land_drinkersOf_ok {l : Launch} {X : Nat × (Nat → Int32)} (hst : l.stackTraces = false) {h : Hp} {x0 : Nat} {x1 : Int32} {r : Int32 × Hp} (E : f_Land_drinkersOf h x0 x1 = some r) : MC l X yX3_drinkersOf mX3_drinkersOf 0 [.ref x0, .int x1] h (eI r) r.2 :=
  MC.body (by decide +kernel) rfl (by decide) hst (Nat.le_of_ble_eq_true rfl) (f_Land_drinkersOf_b0_ok hst (Nat.le_refl _) E)
abbrev mX10_leastYears : MI := (RX10, cX10_leastYears, 7, (some Jvm.ClassFile.FieldType.int), [], false)
theorem ws_X10_leastYears : ∀ w ∈ wsM yX10_leastYears mX10_leastYears, w ∈ gw := List.forall_mem_cons.mpr ⟨gw_at 657 (by decide +kernel) (by decide +kernel), fun _ h => h⟩
def f_Water_leastYears_b67 (q_X10_leastYears : Hp → Nat → Int32 → Int32 → Int32 → Option (Int32 × Hp)) (k16 : Hp → Nat → Int32 → Int32 → Int32 → Int32 → Option (Int32 × Hp)) (h : Hp) (x0 : Nat) (x1 : Int32) (x2 : Int32) (x3 : Int32) (x4 : Int32) (s0 : Int32) : Option (Int32 × Hp) :=
if s0 = (-1 : Int32) then (
k16 h x0 x1 x2 x3 (x4 + (1 : Int32))

) else (
some ((s0 ||| (jshl (1 : Int32) x4)), h)

)

set_option maxRecDepth 20000 in
set_option maxHeartbeats 4000000 in
theorem f_Water_leastYears_b67_ok {l : Launch} {X : Nat × (Nat → Int32)} (hst : l.stackTraces = false) {d : Nat} (hd : 0 ≤ d) {q_X10_leastYears : Hp → Nat → Int32 → Int32 → Int32 → Option (Int32 × Hp)} {dq : Nat} (hdq : dq + 1 ≤ d) (hq_X10_leastYears : ∀ (h : Hp) (x0 : Nat) (x1 : Int32) (x2 : Int32) (x3 : Int32) (r : Int32 × Hp), q_X10_leastYears h x0 x1 x2 x3 = some r → MC l X yX10_leastYears mX10_leastYears dq [.ref x0, .int x1, .int x2, .int x3] h (eI r) r.2) {k16 : Hp → Nat → Int32 → Int32 → Int32 → Int32 → Option (Int32 × Hp)} (hk16 : ∀ (h : Hp) (x0 : Nat) (x1 : Int32) (x2 : Int32) (x3 : Int32) (x4 : Int32)  (r : Int32 × Hp), k16 h x0 x1 x2 x3 x4 = some r → Rn l X mX10_leastYears d 16 [(0, .ref x0), (1, .int x1), (2, .int x2), (3, .int x3), (4, .int x4)] [] h (eI r) r.2) {h : Hp} {x0 : Nat} {x1 : Int32} {x2 : Int32} {x3 : Int32} {x4 : Int32} {s0 : Int32} {r : Int32 × Hp} (E : f_Water_leastYears_b67 q_X10_leastYears k16 h x0 x1 x2 x3 x4 s0 = some r) : Rn l X mX10_leastYears d 67 [(0, .ref x0), (1, .int x1), (2, .int x2), (3, .int x3), (4, .int x4)] [.int s0] h (eI r) r.2 := by
  unfold f_Water_leastYears_b67 at E
  refine Rn.istore (pc' := 69) (L' := [(6, .int s0), (0, .ref x0), (1, .int x1), (2, .int x2), (3, .int x3), (4, .int x4)]) dX10_leastYears_67 (by decide) rfl rfl ?_
  refine Rn.iload (pc' := 71) dX10_leastYears_69 0 rfl rfl ?_
  refine Rn.iconst (pc' := 72) (v := (-1 : Int32)) (hv := by decide) dX10_leastYears_71 rfl ?_
  refine Rn.icmp_eq (pc' := 75) (tgt := 83) dX10_leastYears_72 (by decide) rfl (fun c1 => ?_) (fun c1 => ?_)
  · replace E := (if_of E).1 c1
    refine Rn.iinc (pc' := 86) (v := (x4 + (1 : Int32))) (L' := [(4, .int (x4 + (1 : Int32))), (6, .int s0), (0, .ref x0), (1, .int x1), (2, .int x2), (3, .int x3)]) dX10_leastYears_83 5 rfl rfl (by decide) rfl rfl ?_
    refine Rn.goto (pc' := 16) dX10_leastYears_86 (by decide) ?_
    refine Rn.sub [2, 3, 4, 5, 0] rfl ?_
    exact hk16 _ _ _ _ _ _ _ E
  · replace E := (if_of E).2 c1
    refine Rn.iload (pc' := 77) dX10_leastYears_75 0 rfl rfl ?_
    refine Rn.iconst (pc' := 78) (v := (1 : Int32)) (hv := by decide) dX10_leastYears_77 rfl ?_
    refine Rn.iload (pc' := 80) dX10_leastYears_78 5 rfl rfl ?_
    refine Rn.ishl (pc' := 81) dX10_leastYears_80 rfl ?_
    refine Rn.ior (pc' := 82) dX10_leastYears_81 rfl ?_
    cases E
    exact Rn.zret rfl rfl dX10_leastYears_82
theorem kb_X10_285 : KB RX10 285 yX10_leastYears mX10_leastYears 4 := ⟨gw_at 655 (by decide +kernel) (by decide +kernel), gw_at 107 (by decide +kernel) (by decide +kernel), trivial, ws_X10_leastYears, by decide +kernel, by decide +kernel, by decide +kernel, by decide⟩
theorem ks_X10_leastYears : Cond.static yX10_leastYears ∈ gw := gw_at 656 (by decide +kernel) (by decide +kernel)
def f_Water_leastYears_b47 (q_X10_leastYears : Hp → Nat → Int32 → Int32 → Int32 → Option (Int32 × Hp)) (k16 : Hp → Nat → Int32 → Int32 → Int32 → Int32 → Option (Int32 × Hp)) (h : Hp) (x0 : Nat) (x1 : Int32) (x2 : Int32) (x3 : Int32) (x4 : Int32) (x5 : Int32)  : Option (Int32 × Hp) :=
if x2 = (1 : Int32) then (
f_Water_leastYears_b67 q_X10_leastYears k16 h x0 x1 x2 x3 x4 (-1 : Int32)

) else (
bI (q_X10_leastYears h x0 x5 (x2 - (1 : Int32)) x4) fun v2 h3 =>
f_Water_leastYears_b67 q_X10_leastYears k16 h3 x0 x1 x2 x3 x4 v2

)

set_option maxRecDepth 20000 in
set_option maxHeartbeats 4000000 in
theorem f_Water_leastYears_b47_ok {l : Launch} {X : Nat × (Nat → Int32)} (hst : l.stackTraces = false) {d : Nat} (hd : 0 ≤ d) {q_X10_leastYears : Hp → Nat → Int32 → Int32 → Int32 → Option (Int32 × Hp)} {dq : Nat} (hdq : dq + 1 ≤ d) (hq_X10_leastYears : ∀ (h : Hp) (x0 : Nat) (x1 : Int32) (x2 : Int32) (x3 : Int32) (r : Int32 × Hp), q_X10_leastYears h x0 x1 x2 x3 = some r → MC l X yX10_leastYears mX10_leastYears dq [.ref x0, .int x1, .int x2, .int x3] h (eI r) r.2) {k16 : Hp → Nat → Int32 → Int32 → Int32 → Int32 → Option (Int32 × Hp)} (hk16 : ∀ (h : Hp) (x0 : Nat) (x1 : Int32) (x2 : Int32) (x3 : Int32) (x4 : Int32)  (r : Int32 × Hp), k16 h x0 x1 x2 x3 x4 = some r → Rn l X mX10_leastYears d 16 [(0, .ref x0), (1, .int x1), (2, .int x2), (3, .int x3), (4, .int x4)] [] h (eI r) r.2) {h : Hp} {x0 : Nat} {x1 : Int32} {x2 : Int32} {x3 : Int32} {x4 : Int32} {x5 : Int32}  {r : Int32 × Hp} (E : f_Water_leastYears_b47 q_X10_leastYears k16 h x0 x1 x2 x3 x4 x5 = some r) : Rn l X mX10_leastYears d 47 [(0, .ref x0), (1, .int x1), (2, .int x2), (3, .int x3), (4, .int x4), (5, .int x5)] [] h (eI r) r.2 := by
  unfold f_Water_leastYears_b47 at E
  refine Rn.iload_n (pc' := 48) dX10_leastYears_47 rfl 2 rfl rfl ?_
  refine Rn.iconst (pc' := 49) (v := (1 : Int32)) (hv := by decide) dX10_leastYears_48 rfl ?_
  refine Rn.icmp_ne (pc' := 52) (tgt := 56) dX10_leastYears_49 (by decide) rfl (fun c1 => ?_) (fun c1 => ?_)
  · replace E := (if_of E).2 c1
    refine Rn.aload_n (pc' := 57) dX10_leastYears_56 rfl 0 rfl rfl ?_
    refine Rn.iload (pc' := 59) dX10_leastYears_57 5 rfl rfl ?_
    refine Rn.iload_n (pc' := 60) dX10_leastYears_59 rfl 2 rfl rfl ?_
    refine Rn.iconst (pc' := 61) (v := (1 : Int32)) (hv := by decide) dX10_leastYears_60 rfl ?_
    refine Rn.isub (pc' := 62) dX10_leastYears_61 rfl ?_
    refine Rn.iload (pc' := 64) dX10_leastYears_62 4 rfl rfl ?_
    obtain ⟨v2, h3, e4, E⟩ := bI_of E
    refine Rn.callS1 (pc' := 67) (As := [.ref x0, .int x5, .int (x2 - (1 : Int32)), .int x4]) (rest := []) (hq_X10_leastYears _ _ _ _ _ _ e4) hdq rfl kb_X10_285 ks_X10_leastYears rfl rfl (Nat.le_of_ble_eq_true rfl) dX10_leastYears_64 rfl rfl ?_
    refine Rn.sub [0, 1, 2, 3, 4] rfl ?_
    exact f_Water_leastYears_b67_ok hst hd hdq hq_X10_leastYears hk16 E
  · replace E := (if_of E).1 c1
    refine Rn.iconst (pc' := 53) (v := (-1 : Int32)) (hv := by decide) dX10_leastYears_52 rfl ?_
    refine Rn.goto (pc' := 67) dX10_leastYears_53 (by decide) ?_
    refine Rn.sub [0, 1, 2, 3, 4] rfl ?_
    exact f_Water_leastYears_b67_ok hst hd hdq hq_X10_leastYears hk16 E
def f_Water_leastYears_b16 (q_X10_leastYears : Hp → Nat → Int32 → Int32 → Int32 → Option (Int32 × Hp)) (k16 : Hp → Nat → Int32 → Int32 → Int32 → Int32 → Option (Int32 × Hp)) (h : Hp) (x0 : Nat) (x1 : Int32) (x2 : Int32) (x3 : Int32) (x4 : Int32)  : Option (Int32 × Hp) :=
if x3 ≤ x4 then (
some ((-1 : Int32), h)

) else (
if hS h x0 = 20 then (
if ib x4 (hL h x0) = true then (
if x2 = (1 : Int32) then (
if (x1 &&& ((hI h x0 (ix x4)) ^^^ (-1 : Int32))) = 0 then (
some ((jshl (1 : Int32) x4), h)

) else (
f_Water_leastYears_b47 q_X10_leastYears k16 h x0 x1 x2 x3 x4 (x1 &&& ((hI h x0 (ix x4)) ^^^ (-1 : Int32)))

)

) else (
f_Water_leastYears_b47 q_X10_leastYears k16 h x0 x1 x2 x3 x4 (x1 &&& ((hI h x0 (ix x4)) ^^^ (-1 : Int32)))

)
) else none) else none
)

set_option maxRecDepth 20000 in
set_option maxHeartbeats 4000000 in
theorem f_Water_leastYears_b16_ok {l : Launch} {X : Nat × (Nat → Int32)} (hst : l.stackTraces = false) {d : Nat} (hd : 0 ≤ d) {q_X10_leastYears : Hp → Nat → Int32 → Int32 → Int32 → Option (Int32 × Hp)} {dq : Nat} (hdq : dq + 1 ≤ d) (hq_X10_leastYears : ∀ (h : Hp) (x0 : Nat) (x1 : Int32) (x2 : Int32) (x3 : Int32) (r : Int32 × Hp), q_X10_leastYears h x0 x1 x2 x3 = some r → MC l X yX10_leastYears mX10_leastYears dq [.ref x0, .int x1, .int x2, .int x3] h (eI r) r.2) {k16 : Hp → Nat → Int32 → Int32 → Int32 → Int32 → Option (Int32 × Hp)} (hk16 : ∀ (h : Hp) (x0 : Nat) (x1 : Int32) (x2 : Int32) (x3 : Int32) (x4 : Int32)  (r : Int32 × Hp), k16 h x0 x1 x2 x3 x4 = some r → Rn l X mX10_leastYears d 16 [(0, .ref x0), (1, .int x1), (2, .int x2), (3, .int x3), (4, .int x4)] [] h (eI r) r.2) {h : Hp} {x0 : Nat} {x1 : Int32} {x2 : Int32} {x3 : Int32} {x4 : Int32}  {r : Int32 × Hp} (E : f_Water_leastYears_b16 q_X10_leastYears k16 h x0 x1 x2 x3 x4 = some r) : Rn l X mX10_leastYears d 16 [(0, .ref x0), (1, .int x1), (2, .int x2), (3, .int x3), (4, .int x4)] [] h (eI r) r.2 := by
  unfold f_Water_leastYears_b16 at E
  refine Rn.iload (pc' := 18) dX10_leastYears_16 4 rfl rfl ?_
  refine Rn.iload_n (pc' := 19) dX10_leastYears_18 rfl 3 rfl rfl ?_
  refine Rn.icmp_ge (pc' := 22) (tgt := 89) dX10_leastYears_19 (by decide) rfl (fun c1 => ?_) (fun c1 => ?_)
  · replace E := (if_of E).1 c1
    refine Rn.iconst (pc' := 90) (v := (-1 : Int32)) (hv := by decide) dX10_leastYears_89 rfl ?_
    cases E
    exact Rn.zret rfl rfl dX10_leastYears_90
  · replace E := (if_of E).2 c1
    refine Rn.iload_n (pc' := 23) dX10_leastYears_22 rfl 1 rfl rfl ?_
    refine Rn.aload_n (pc' := 24) dX10_leastYears_23 rfl 0 rfl rfl ?_
    refine Rn.iload (pc' := 26) dX10_leastYears_24 4 rfl rfl ?_
    obtain ⟨g2, E⟩ := gd_of E
    obtain ⟨g3, E⟩ := gd_of E
    refine Rn.iald (pc' := 27) g2 g3 dX10_leastYears_26 rfl ?_
    refine Rn.iconst (pc' := 28) (v := (-1 : Int32)) (hv := by decide) dX10_leastYears_27 rfl ?_
    refine Rn.ixor (pc' := 29) dX10_leastYears_28 rfl ?_
    refine Rn.iand (pc' := 30) dX10_leastYears_29 rfl ?_
    refine Rn.istore (pc' := 32) (L' := [(5, .int (x1 &&& ((hI h x0 (ix x4)) ^^^ (-1 : Int32)))), (0, .ref x0), (1, .int x1), (2, .int x2), (3, .int x3), (4, .int x4)]) dX10_leastYears_30 (by decide) rfl rfl ?_
    refine Rn.iload_n (pc' := 33) dX10_leastYears_32 rfl 3 rfl rfl ?_
    refine Rn.iconst (pc' := 34) (v := (1 : Int32)) (hv := by decide) dX10_leastYears_33 rfl ?_
    refine Rn.icmp_ne (pc' := 37) (tgt := 47) dX10_leastYears_34 (by decide) rfl (fun c4 => ?_) (fun c4 => ?_)
    · replace E := (if_of E).2 c4
      refine Rn.sub [1, 2, 3, 4, 5, 0] rfl ?_
      exact f_Water_leastYears_b47_ok hst hd hdq hq_X10_leastYears hk16 E
    · replace E := (if_of E).1 c4
      refine Rn.iload (pc' := 39) dX10_leastYears_37 0 rfl rfl ?_
      refine Rn.if_ne (pc' := 42) (tgt := 47) dX10_leastYears_39 (by decide) rfl (fun c5 => ?_) (fun c5 => ?_)
      · replace E := (if_of E).2 c5
        refine Rn.sub [1, 2, 3, 4, 5, 0] rfl ?_
        exact f_Water_leastYears_b47_ok hst hd hdq hq_X10_leastYears hk16 E
      · replace E := (if_of E).1 c5
        refine Rn.iconst (pc' := 43) (v := (1 : Int32)) (hv := by decide) dX10_leastYears_42 rfl ?_
        refine Rn.iload (pc' := 45) dX10_leastYears_43 5 rfl rfl ?_
        refine Rn.ishl (pc' := 46) dX10_leastYears_45 rfl ?_
        cases E
        exact Rn.zret rfl rfl dX10_leastYears_46
def f_Water_leastYears_L16 (q_X10_leastYears : Hp → Nat → Int32 → Int32 → Int32 → Option (Int32 × Hp))  (n : Nat) : Hp → Nat → Int32 → Int32 → Int32 → Int32 → Option (Int32 × Hp) := Nat.rec (motive := fun _ => Hp → Nat → Int32 → Int32 → Int32 → Int32 → Option (Int32 × Hp)) (fun _ _ _ _ _ _ => none) (fun _ rec => f_Water_leastYears_b16 q_X10_leastYears  rec) n
theorem f_Water_leastYears_L16_ok {l : Launch} {X : Nat × (Nat → Int32)} (hst : l.stackTraces = false) {d : Nat} (hd : 0 ≤ d) {q_X10_leastYears : Hp → Nat → Int32 → Int32 → Int32 → Option (Int32 × Hp)} {dq : Nat} (hdq : dq + 1 ≤ d) (hq_X10_leastYears : ∀ (h : Hp) (x0 : Nat) (x1 : Int32) (x2 : Int32) (x3 : Int32) (r : Int32 × Hp), q_X10_leastYears h x0 x1 x2 x3 = some r → MC l X yX10_leastYears mX10_leastYears dq [.ref x0, .int x1, .int x2, .int x3] h (eI r) r.2)   : ∀ (n : Nat) (h : Hp) (x0 : Nat) (x1 : Int32) (x2 : Int32) (x3 : Int32) (x4 : Int32)  (r : Int32 × Hp), f_Water_leastYears_L16 q_X10_leastYears  n h x0 x1 x2 x3 x4 = some r → Rn l X mX10_leastYears d 16 [(0, .ref x0), (1, .int x1), (2, .int x2), (3, .int x3), (4, .int x4)] [] h (eI r) r.2 := by
  intro n
  induction n with
  | zero => intro h x0 x1 x2 x3 x4 r E; cases E
  | succ n ih => intro h x0 x1 x2 x3 x4 r E; exact f_Water_leastYears_b16_ok hst hd hdq hq_X10_leastYears  ih E
def f_Water_leastYears_b0 (q_X10_leastYears : Hp → Nat → Int32 → Int32 → Int32 → Option (Int32 × Hp))  (h : Hp) (x0 : Nat) (x1 : Int32) (x2 : Int32) (x3 : Int32)  : Option (Int32 × Hp) :=
if x2 < (1 : Int32) then (
some ((-1 : Int32), h)

) else (
if hS h x0 = 20 then (
if x3 ≤ (Int32.ofNat (hL h x0)) then (
f_Water_leastYears_L16 q_X10_leastYears  FU h x0 x1 x2 x3 (0 : Int32)

) else (
some ((-1 : Int32), h)

)
) else none
)

set_option maxRecDepth 20000 in
set_option maxHeartbeats 4000000 in
theorem f_Water_leastYears_b0_ok {l : Launch} {X : Nat × (Nat → Int32)} (hst : l.stackTraces = false) {d : Nat} (hd : 0 ≤ d) {q_X10_leastYears : Hp → Nat → Int32 → Int32 → Int32 → Option (Int32 × Hp)} {dq : Nat} (hdq : dq + 1 ≤ d) (hq_X10_leastYears : ∀ (h : Hp) (x0 : Nat) (x1 : Int32) (x2 : Int32) (x3 : Int32) (r : Int32 × Hp), q_X10_leastYears h x0 x1 x2 x3 = some r → MC l X yX10_leastYears mX10_leastYears dq [.ref x0, .int x1, .int x2, .int x3] h (eI r) r.2)   {h : Hp} {x0 : Nat} {x1 : Int32} {x2 : Int32} {x3 : Int32}  {r : Int32 × Hp} (E : f_Water_leastYears_b0 q_X10_leastYears  h x0 x1 x2 x3 = some r) : Rn l X mX10_leastYears d 0 [(0, .ref x0), (1, .int x1), (2, .int x2), (3, .int x3)] [] h (eI r) r.2 := by
  unfold f_Water_leastYears_b0 at E
  refine Rn.iload_n (pc' := 1) dX10_leastYears_0 rfl 2 rfl rfl ?_
  refine Rn.iconst (pc' := 2) (v := (1 : Int32)) (hv := by decide) dX10_leastYears_1 rfl ?_
  refine Rn.icmp_lt (pc' := 5) (tgt := 11) dX10_leastYears_2 (by decide) rfl (fun c1 => ?_) (fun c1 => ?_)
  · replace E := (if_of E).1 c1
    refine Rn.iconst (pc' := 12) (v := (-1 : Int32)) (hv := by decide) dX10_leastYears_11 rfl ?_
    cases E
    exact Rn.zret rfl rfl dX10_leastYears_12
  · replace E := (if_of E).2 c1
    refine Rn.iload_n (pc' := 6) dX10_leastYears_5 rfl 3 rfl rfl ?_
    refine Rn.aload_n (pc' := 7) dX10_leastYears_6 rfl 0 rfl rfl ?_
    obtain ⟨g2, E⟩ := gd_of E
    refine Rn.alen (pc' := 8) g2 (by decide) (by decide) dX10_leastYears_7 rfl ?_
    refine Rn.icmp_le (pc' := 11) (tgt := 13) dX10_leastYears_8 (by decide) rfl (fun c3 => ?_) (fun c3 => ?_)
    · replace E := (if_of E).1 c3
      refine Rn.iconst (pc' := 14) (v := (0 : Int32)) (hv := by decide) dX10_leastYears_13 rfl ?_
      refine Rn.istore (pc' := 16) (L' := [(4, .int (0 : Int32)), (0, .ref x0), (1, .int x1), (2, .int x2), (3, .int x3)]) dX10_leastYears_14 (by decide) rfl rfl ?_
      refine Rn.sub [1, 2, 3, 4, 0] rfl ?_
      exact f_Water_leastYears_L16_ok hst hd hdq hq_X10_leastYears  FU _ _ _ _ _ _ _ E
    · replace E := (if_of E).2 c3
      refine Rn.iconst (pc' := 12) (v := (-1 : Int32)) (hv := by decide) dX10_leastYears_11 rfl ?_
      cases E
      exact Rn.zret rfl rfl dX10_leastYears_12
def f_Water_leastYears_B (q_X10_leastYears : Hp → Nat → Int32 → Int32 → Int32 → Option (Int32 × Hp)) (h : Hp) (x0 : Nat) (x1 : Int32) (x2 : Int32) (x3 : Int32) : Option (Int32 × Hp) := f_Water_leastYears_b0 q_X10_leastYears h x0 x1 x2 x3
theorem f_Water_leastYears_B_ok {l : Launch} {X : Nat × (Nat → Int32)} (hst : l.stackTraces = false) {d : Nat} (hd : 0 ≤ d) {q_X10_leastYears : Hp → Nat → Int32 → Int32 → Int32 → Option (Int32 × Hp)} {dq : Nat} (hdq : dq + 1 ≤ d) (hq_X10_leastYears : ∀ (h : Hp) (x0 : Nat) (x1 : Int32) (x2 : Int32) (x3 : Int32) (r : Int32 × Hp), q_X10_leastYears h x0 x1 x2 x3 = some r → MC l X yX10_leastYears mX10_leastYears dq [.ref x0, .int x1, .int x2, .int x3] h (eI r) r.2) {h : Hp} {x0 : Nat} {x1 : Int32} {x2 : Int32} {x3 : Int32} {r : Int32 × Hp} (E : f_Water_leastYears_B q_X10_leastYears h x0 x1 x2 x3 = some r) : MC l X yX10_leastYears mX10_leastYears d [.ref x0, .int x1, .int x2, .int x3] h (eI r) r.2 :=
  MC.body (by decide +kernel) rfl (by decide) hst (Nat.le_of_ble_eq_true rfl) (f_Water_leastYears_b0_ok hst hd hdq hq_X10_leastYears E)
def f_Least_G (n : Nat) : (Hp → Nat → Int32 → Int32 → Int32 → Option (Int32 × Hp)) := Nat.rec (motive := fun _ => (Hp → Nat → Int32 → Int32 → Int32 → Option (Int32 × Hp))) (fun _ _ _ _ _ => none) (fun _ q => (f_Water_leastYears_B (q))) n
def f_Water_leastYears : Hp → Nat → Int32 → Int32 → Int32 → Option (Int32 × Hp) := (f_Least_G 40)
theorem f_Least_G_ok {l : Launch} {X : Nat × (Nat → Int32)} (hst : l.stackTraces = false) : ∀ n : Nat, (∀ (h : Hp) (x0 : Nat) (x1 : Int32) (x2 : Int32) (x3 : Int32) (r : Int32 × Hp), (f_Least_G n) h x0 x1 x2 x3 = some r → MC l X yX10_leastYears mX10_leastYears (0 + n) [.ref x0, .int x1, .int x2, .int x3] h (eI r) r.2) := by
  intro n
  induction n with
  | zero => exact fun _ _ _ _ _ _ E => (nomatch E)
  | succ n ih =>
    exact fun _ _ _ _ _ _ E => f_Water_leastYears_B_ok hst (d := 0 + (n + 1)) (by omega) (dq := 0 + n) (by omega) (ih) E
theorem f_Water_leastYears_ok {l : Launch} {X : Nat × (Nat → Int32)} (hst : l.stackTraces = false) {h : Hp} {x0 : Nat} {x1 : Int32} {x2 : Int32} {x3 : Int32} {r : Int32 × Hp} (E : f_Water_leastYears h x0 x1 x2 x3 = some r) : MC l X yX10_leastYears mX10_leastYears 40 [.ref x0, .int x1, .int x2, .int x3] h (eI r) r.2 := (f_Least_G_ok hst 40) _ _ _ _ _ _ E
abbrev mX10_fewest : MI := (RX10, cX10_fewest, 5, (some Jvm.ClassFile.FieldType.int), [], false)
theorem ws_X10_fewest : ∀ w ∈ wsM yX10_fewest mX10_fewest, w ∈ gw := List.forall_mem_cons.mpr ⟨gw_at 654 (by decide +kernel) (by decide +kernel), fun _ h => h⟩
def f_Water_fewest_b54  (k18 : Hp → Nat → Int32 → Int32 → Option (Int32 × Hp)) (h : Hp) (x0 : Nat) (x2 : Int32) (x3 : Int32) (s0 : Nat) (s1 : Int32) (s2 : Int32) : Option (Int32 × Hp) :=
if hS h s0 = 20 then (
if ib s1 (hL h s0) = true then (
wr (sI h s0 (ix s1) s2) fun h3 =>
k18 h3 x0 x2 (x3 + (1 : Int32))
) else none) else none
set_option maxRecDepth 20000 in
set_option maxHeartbeats 4000000 in
theorem f_Water_fewest_b54_ok {l : Launch} {X : Nat × (Nat → Int32)} (hst : l.stackTraces = false) {d : Nat} (hd : 41 ≤ d)   {k18 : Hp → Nat → Int32 → Int32 → Option (Int32 × Hp)} (hk18 : ∀ (h : Hp) (x0 : Nat) (x2 : Int32) (x3 : Int32)  (r : Int32 × Hp), k18 h x0 x2 x3 = some r → Rn l X mX10_fewest d 18 [(0, .ref x0), (2, .int x2), (3, .int x3)] [] h (eI r) r.2) {h : Hp} {x0 : Nat} {x2 : Int32} {x3 : Int32} {s0 : Nat} {s1 : Int32} {s2 : Int32} {r : Int32 × Hp} (E : f_Water_fewest_b54  k18 h x0 x2 x3 s0 s1 s2 = some r) : Rn l X mX10_fewest d 54 [(0, .ref x0), (2, .int x2), (3, .int x3)] [.int s2, .int s1, .ref s0] h (eI r) r.2 := by
  unfold f_Water_fewest_b54 at E
  obtain ⟨g1, E⟩ := gd_of E
  obtain ⟨g2, E⟩ := gd_of E
  refine Rn.iast (pc' := 55) g1 g2 dX10_fewest_54 rfl ?_
  replace E := wr_of E
  generalize eh4 : sI h s0 (ix s1) s2 = h3 at E ⊢
  refine Rn.iinc (pc' := 58) (v := (x3 + (1 : Int32))) (L' := [(3, .int (x3 + (1 : Int32))), (0, .ref x0), (2, .int x2)]) dX10_fewest_55 2 rfl rfl (by decide) rfl rfl ?_
  refine Rn.goto (pc' := 18) dX10_fewest_58 (by decide) ?_
  refine Rn.sub [1, 2, 0] rfl ?_
  exact hk18 _ _ _ _ _ E
def f_Water_fewest_b63  (k63 : Hp → Nat → Int32 → Int32 → Option (Int32 × Hp)) (h : Hp) (x0 : Nat) (x2 : Int32) (x3 : Int32)  : Option (Int32 × Hp) :=
if (3 : Int32) < x3 then (
some ((-1 : Int32), h)

) else (
if hS h x0 = 10 then (
bI (f_Water_leastYears h (hR h x0 9) x2 x3 (30 : Int32)) fun v3 h4 =>
if v3 = (-1 : Int32) then (
k63 h4 x0 x2 (x3 + (1 : Int32))

) else (
some (v3, h4)

)
) else none
)

set_option maxRecDepth 20000 in
set_option maxHeartbeats 4000000 in
theorem f_Water_fewest_b63_ok {l : Launch} {X : Nat × (Nat → Int32)} (hst : l.stackTraces = false) {d : Nat} (hd : 41 ≤ d)   {k63 : Hp → Nat → Int32 → Int32 → Option (Int32 × Hp)} (hk63 : ∀ (h : Hp) (x0 : Nat) (x2 : Int32) (x3 : Int32)  (r : Int32 × Hp), k63 h x0 x2 x3 = some r → Rn l X mX10_fewest d 63 [(0, .ref x0), (2, .int x2), (3, .int x3)] [] h (eI r) r.2) {h : Hp} {x0 : Nat} {x2 : Int32} {x3 : Int32}  {r : Int32 × Hp} (E : f_Water_fewest_b63  k63 h x0 x2 x3 = some r) : Rn l X mX10_fewest d 63 [(0, .ref x0), (2, .int x2), (3, .int x3)] [] h (eI r) r.2 := by
  unfold f_Water_fewest_b63 at E
  refine Rn.iload_n (pc' := 64) dX10_fewest_63 rfl 2 rfl rfl ?_
  refine Rn.iconst (pc' := 65) (v := (3 : Int32)) (hv := by decide) dX10_fewest_64 rfl ?_
  refine Rn.icmp_gt (pc' := 68) (tgt := 96) dX10_fewest_65 (by decide) rfl (fun c1 => ?_) (fun c1 => ?_)
  · replace E := (if_of E).1 c1
    refine Rn.iconst (pc' := 97) (v := (-1 : Int32)) (hv := by decide) dX10_fewest_96 rfl ?_
    cases E
    exact Rn.zret rfl rfl dX10_fewest_97
  · replace E := (if_of E).2 c1
    refine Rn.aload_n (pc' := 69) dX10_fewest_68 rfl 0 rfl rfl ?_
    obtain ⟨g2, E⟩ := gd_of E
    refine Rn.getR (pc' := 72) fl_X10_59_9 g2 rfl dX10_fewest_69 rfl ?_
    refine Rn.iload_n (pc' := 73) dX10_fewest_72 rfl 1 rfl rfl ?_
    refine Rn.iload_n (pc' := 74) dX10_fewest_73 rfl 2 rfl rfl ?_
    refine Rn.bipush (pc' := 76) (v := (30 : Int32)) (hv := by decide) dX10_fewest_74 rfl ?_
    obtain ⟨v3, h4, e5, E⟩ := bI_of E
    refine Rn.callS1 (pc' := 79) (As := [.ref (hR h x0 9), .int x2, .int x3, .int (30 : Int32)]) (rest := []) (f_Water_leastYears_ok hst e5) (Nat.le_trans (by decide) hd) rfl kb_X10_285 ks_X10_leastYears rfl rfl (Nat.le_of_ble_eq_true rfl) dX10_fewest_76 rfl rfl ?_
    refine Rn.istore (pc' := 81) (L' := [(4, .int v3), (0, .ref x0), (2, .int x2), (3, .int x3)]) dX10_fewest_79 (by decide) rfl rfl ?_
    refine Rn.iload (pc' := 83) dX10_fewest_81 0 rfl rfl ?_
    refine Rn.iconst (pc' := 84) (v := (-1 : Int32)) (hv := by decide) dX10_fewest_83 rfl ?_
    refine Rn.icmp_eq (pc' := 87) (tgt := 90) dX10_fewest_84 (by decide) rfl (fun c6 => ?_) (fun c6 => ?_)
    · replace E := (if_of E).1 c6
      refine Rn.iinc (pc' := 93) (v := (x3 + (1 : Int32))) (L' := [(3, .int (x3 + (1 : Int32))), (4, .int v3), (0, .ref x0), (2, .int x2)]) dX10_fewest_90 3 rfl rfl (by decide) rfl rfl ?_
      refine Rn.goto (pc' := 63) dX10_fewest_93 (by decide) ?_
      refine Rn.sub [2, 3, 0] rfl ?_
      exact hk63 _ _ _ _ _ E
    · replace E := (if_of E).2 c6
      refine Rn.iload (pc' := 89) dX10_fewest_87 0 rfl rfl ?_
      cases E
      exact Rn.zret rfl rfl dX10_fewest_89
def f_Water_fewest_L63   (n : Nat) : Hp → Nat → Int32 → Int32 → Option (Int32 × Hp) := Nat.rec (motive := fun _ => Hp → Nat → Int32 → Int32 → Option (Int32 × Hp)) (fun _ _ _ _ => none) (fun _ rec => f_Water_fewest_b63   rec) n
theorem f_Water_fewest_L63_ok {l : Launch} {X : Nat × (Nat → Int32)} (hst : l.stackTraces = false) {d : Nat} (hd : 41 ≤ d)     : ∀ (n : Nat) (h : Hp) (x0 : Nat) (x2 : Int32) (x3 : Int32)  (r : Int32 × Hp), f_Water_fewest_L63   n h x0 x2 x3 = some r → Rn l X mX10_fewest d 63 [(0, .ref x0), (2, .int x2), (3, .int x3)] [] h (eI r) r.2 := by
  intro n
  induction n with
  | zero => intro h x0 x2 x3 r E; cases E
  | succ n ih => intro h x0 x2 x3 r E; exact f_Water_fewest_b63_ok hst hd   ih E
theorem kb_X10_282 : KB RX10 282 yX3_drinkersOf mX3_drinkersOf 1 := ⟨gw_at 647 (by decide +kernel) (by decide +kernel), gw_at 113 (by decide +kernel) (by decide +kernel), trivial, ws_X3_drinkersOf, by decide +kernel, by decide +kernel, by decide +kernel, by decide⟩
theorem ki_X3_drinkersOf : Cond.instanceMethod yX3_drinkersOf ∈ gw ∧ Cond.selects yX3_drinkersOf.cls yX3_drinkersOf yX3_drinkersOf ∈ gw := ⟨gw_at 648 (by decide +kernel) (by decide +kernel), gw_at 649 (by decide +kernel) (by decide +kernel)⟩
def f_Water_fewest_b18  (k18 : Hp → Nat → Int32 → Int32 → Option (Int32 × Hp)) (h : Hp) (x0 : Nat) (x2 : Int32) (x3 : Int32)  : Option (Int32 × Hp) :=
if (30 : Int32) ≤ x3 then (
f_Water_fewest_L63   FU h x0 x2 (1 : Int32)

) else (
if hS h x0 = 10 then (
if hS h (hR h x0 4) = 4 then (
bI (f_Land_drinkersOf h (hR h x0 4) x3) fun v4 h5 =>
if hS h5 x0 = 10 then (
if (v4 &&& (x2 ^^^ (-1 : Int32))) = 0 then (
f_Water_fewest_b54  k18 h5 x0 x2 x3 (hR h5 x0 9) x3 v4

) else (
f_Water_fewest_b54  k18 h5 x0 x2 x3 (hR h5 x0 9) x3 (0 : Int32)

)
) else none) else none) else none
)

set_option maxRecDepth 20000 in
set_option maxHeartbeats 4000000 in
theorem f_Water_fewest_b18_ok {l : Launch} {X : Nat × (Nat → Int32)} (hst : l.stackTraces = false) {d : Nat} (hd : 41 ≤ d)   {k18 : Hp → Nat → Int32 → Int32 → Option (Int32 × Hp)} (hk18 : ∀ (h : Hp) (x0 : Nat) (x2 : Int32) (x3 : Int32)  (r : Int32 × Hp), k18 h x0 x2 x3 = some r → Rn l X mX10_fewest d 18 [(0, .ref x0), (2, .int x2), (3, .int x3)] [] h (eI r) r.2) {h : Hp} {x0 : Nat} {x2 : Int32} {x3 : Int32}  {r : Int32 × Hp} (E : f_Water_fewest_b18  k18 h x0 x2 x3 = some r) : Rn l X mX10_fewest d 18 [(0, .ref x0), (2, .int x2), (3, .int x3)] [] h (eI r) r.2 := by
  unfold f_Water_fewest_b18 at E
  refine Rn.iload_n (pc' := 19) dX10_fewest_18 rfl 2 rfl rfl ?_
  refine Rn.bipush (pc' := 21) (v := (30 : Int32)) (hv := by decide) dX10_fewest_19 rfl ?_
  refine Rn.icmp_ge (pc' := 24) (tgt := 61) dX10_fewest_21 (by decide) rfl (fun c1 => ?_) (fun c1 => ?_)
  · replace E := (if_of E).1 c1
    refine Rn.iconst (pc' := 62) (v := (1 : Int32)) (hv := by decide) dX10_fewest_61 rfl ?_
    refine Rn.istore_n (pc' := 63) (L' := [(3, .int (1 : Int32)), (0, .ref x0), (2, .int x2)]) dX10_fewest_62 rfl (by decide) rfl rfl ?_
    refine Rn.sub [1, 2, 0] rfl ?_
    exact f_Water_fewest_L63_ok hst hd   FU _ _ _ _ _ E
  · replace E := (if_of E).2 c1
    refine Rn.aload_n (pc' := 25) dX10_fewest_24 rfl 0 rfl rfl ?_
    obtain ⟨g2, E⟩ := gd_of E
    refine Rn.getR (pc' := 28) fl_X10_42_9 g2 rfl dX10_fewest_25 rfl ?_
    refine Rn.iload_n (pc' := 29) dX10_fewest_28 rfl 2 rfl rfl ?_
    obtain ⟨g3, E⟩ := gd_of E
    obtain ⟨v4, h5, e6, E⟩ := bI_of E
    refine Rn.callV1 (pc' := 32) (As := [.int x3]) (rest := []) (f_Land_drinkersOf_ok hst e6) (Nat.le_trans (by decide) hd) rfl kb_X10_282 ki_X3_drinkersOf rfl g3 rfl rfl (Nat.le_of_ble_eq_true rfl) dX10_fewest_29 rfl rfl ?_
    refine Rn.istore (pc' := 34) (L' := [(4, .int v4), (0, .ref x0), (2, .int x2), (3, .int x3)]) dX10_fewest_32 (by decide) rfl rfl ?_
    refine Rn.aload_n (pc' := 35) dX10_fewest_34 rfl 1 rfl rfl ?_
    obtain ⟨g7, E⟩ := gd_of E
    refine Rn.getR (pc' := 38) fl_X10_59_9 g7 rfl dX10_fewest_35 rfl ?_
    refine Rn.iload_n (pc' := 39) dX10_fewest_38 rfl 3 rfl rfl ?_
    refine Rn.iload (pc' := 41) dX10_fewest_39 0 rfl rfl ?_
    refine Rn.iload_n (pc' := 42) dX10_fewest_41 rfl 2 rfl rfl ?_
    refine Rn.iconst (pc' := 43) (v := (-1 : Int32)) (hv := by decide) dX10_fewest_42 rfl ?_
    refine Rn.ixor (pc' := 44) dX10_fewest_43 rfl ?_
    refine Rn.iand (pc' := 45) dX10_fewest_44 rfl ?_
    refine Rn.if_ne (pc' := 48) (tgt := 53) dX10_fewest_45 (by decide) rfl (fun c8 => ?_) (fun c8 => ?_)
    · replace E := (if_of E).2 c8
      refine Rn.iconst (pc' := 54) (v := (0 : Int32)) (hv := by decide) dX10_fewest_53 rfl ?_
      refine Rn.sub [1, 2, 3] rfl ?_
      exact f_Water_fewest_b54_ok hst hd  hk18 E
    · replace E := (if_of E).1 c8
      refine Rn.iload (pc' := 50) dX10_fewest_48 0 rfl rfl ?_
      refine Rn.goto (pc' := 54) dX10_fewest_50 (by decide) ?_
      refine Rn.sub [1, 2, 3] rfl ?_
      exact f_Water_fewest_b54_ok hst hd  hk18 E
def f_Water_fewest_L18   (n : Nat) : Hp → Nat → Int32 → Int32 → Option (Int32 × Hp) := Nat.rec (motive := fun _ => Hp → Nat → Int32 → Int32 → Option (Int32 × Hp)) (fun _ _ _ _ => none) (fun _ rec => f_Water_fewest_b18   rec) n
theorem f_Water_fewest_L18_ok {l : Launch} {X : Nat × (Nat → Int32)} (hst : l.stackTraces = false) {d : Nat} (hd : 41 ≤ d)     : ∀ (n : Nat) (h : Hp) (x0 : Nat) (x2 : Int32) (x3 : Int32)  (r : Int32 × Hp), f_Water_fewest_L18   n h x0 x2 x3 = some r → Rn l X mX10_fewest d 18 [(0, .ref x0), (2, .int x2), (3, .int x3)] [] h (eI r) r.2 := by
  intro n
  induction n with
  | zero => intro h x0 x2 x3 r E; cases E
  | succ n ih => intro h x0 x2 x3 r E; exact f_Water_fewest_b18_ok hst hd   ih E
theorem kb_X10_279 : KB RX10 279 yX3_houseBits mX3_houseBits 0 := ⟨gw_at 643 (by decide +kernel) (by decide +kernel), gw_at 113 (by decide +kernel) (by decide +kernel), trivial, ws_X3_houseBits, by decide +kernel, by decide +kernel, by decide +kernel, by decide⟩
theorem ki_X3_houseBits : Cond.instanceMethod yX3_houseBits ∈ gw ∧ Cond.selects yX3_houseBits.cls yX3_houseBits yX3_houseBits ∈ gw := ⟨gw_at 644 (by decide +kernel) (by decide +kernel), gw_at 645 (by decide +kernel) (by decide +kernel)⟩
def f_Water_fewest_b0   (h : Hp) (x0 : Nat) (x1 : Int32)  : Option (Int32 × Hp) :=
if hS h x0 = 10 then (
if hS h (hR h x0 4) = 4 then (
bI (f_Land_houseBits h (hR h x0 4)) fun v3 h4 =>
if (x1 &&& v3) = 0 then (
some ((0 : Int32), h4)

) else (
f_Water_fewest_L18   FU h4 x0 (x1 &&& v3) (0 : Int32)

)
) else none) else none
set_option maxRecDepth 20000 in
set_option maxHeartbeats 4000000 in
theorem f_Water_fewest_b0_ok {l : Launch} {X : Nat × (Nat → Int32)} (hst : l.stackTraces = false) {d : Nat} (hd : 41 ≤ d)     {h : Hp} {x0 : Nat} {x1 : Int32}  {r : Int32 × Hp} (E : f_Water_fewest_b0   h x0 x1 = some r) : Rn l X mX10_fewest d 0 [(0, .ref x0), (1, .int x1)] [] h (eI r) r.2 := by
  unfold f_Water_fewest_b0 at E
  refine Rn.iload_n (pc' := 1) dX10_fewest_0 rfl 1 rfl rfl ?_
  refine Rn.aload_n (pc' := 2) dX10_fewest_1 rfl 0 rfl rfl ?_
  obtain ⟨g1, E⟩ := gd_of E
  refine Rn.getR (pc' := 5) fl_X10_42_9 g1 rfl dX10_fewest_2 rfl ?_
  obtain ⟨g2, E⟩ := gd_of E
  obtain ⟨v3, h4, e5, E⟩ := bI_of E
  refine Rn.callV1 (pc' := 8) (As := []) (rest := [.int x1]) (f_Land_houseBits_ok hst e5) (Nat.le_trans (by decide) hd) rfl kb_X10_279 ki_X3_houseBits rfl g2 rfl rfl (Nat.le_of_ble_eq_true rfl) dX10_fewest_5 rfl rfl ?_
  refine Rn.iand (pc' := 9) dX10_fewest_8 rfl ?_
  refine Rn.istore_n (pc' := 10) (L' := [(2, .int (x1 &&& v3)), (0, .ref x0), (1, .int x1)]) dX10_fewest_9 rfl (by decide) rfl rfl ?_
  refine Rn.iload_n (pc' := 11) dX10_fewest_10 rfl 0 rfl rfl ?_
  refine Rn.if_ne (pc' := 14) (tgt := 16) dX10_fewest_11 (by decide) rfl (fun c6 => ?_) (fun c6 => ?_)
  · replace E := (if_of E).2 c6
    refine Rn.iconst (pc' := 17) (v := (0 : Int32)) (hv := by decide) dX10_fewest_16 rfl ?_
    refine Rn.istore_n (pc' := 18) (L' := [(3, .int (0 : Int32)), (2, .int (x1 &&& v3)), (0, .ref x0), (1, .int x1)]) dX10_fewest_17 rfl (by decide) rfl rfl ?_
    refine Rn.sub [2, 1, 0] rfl ?_
    exact f_Water_fewest_L18_ok hst hd   FU _ _ _ _ _ E
  · replace E := (if_of E).1 c6
    refine Rn.iconst (pc' := 15) (v := (0 : Int32)) (hv := by decide) dX10_fewest_14 rfl ?_
    cases E
    exact Rn.zret rfl rfl dX10_fewest_15
def f_Water_fewest (h : Hp) (x0 : Nat) (x1 : Int32) : Option (Int32 × Hp) := f_Water_fewest_b0  h x0 x1
theorem f_Water_fewest_ok {l : Launch} {X : Nat × (Nat → Int32)} (hst : l.stackTraces = false) {h : Hp} {x0 : Nat} {x1 : Int32} {r : Int32 × Hp} (E : f_Water_fewest h x0 x1 = some r) : MC l X yX10_fewest mX10_fewest 41 [.ref x0, .int x1] h (eI r) r.2 :=
  MC.body (by decide +kernel) rfl (by decide) hst (Nat.le_of_ble_eq_true rfl) (f_Water_fewest_b0_ok hst (Nat.le_refl _) E)
abbrev mX11_drinkers : MI := (RX11, cX11_drinkers, 4, (some Jvm.ClassFile.FieldType.int), [], false)
theorem ws_X11_drinkers : ∀ w ∈ wsM yX11_drinkers mX11_drinkers, w ∈ gw := List.forall_mem_cons.mpr ⟨gw_at 1876 (by decide +kernel) (by decide +kernel), fun _ h => h⟩
def f_Model_drinkers_b31  (k4 : Hp → Nat → Int32 → Int32 → Int32 → Option (Int32 × Hp)) (h : Hp) (x0 : Nat) (x1 : Int32) (x3 : Int32) (s0 : Int32) (s1 : Int32) : Option (Int32 × Hp) :=
k4 h x0 x1 (s0 ||| s1) (x3 + (1 : Int32))

set_option maxRecDepth 20000 in
set_option maxHeartbeats 4000000 in
theorem f_Model_drinkers_b31_ok {l : Launch} {X : Nat × (Nat → Int32)} (hst : l.stackTraces = false) {d : Nat} (hd : 1 ≤ d)   {k4 : Hp → Nat → Int32 → Int32 → Int32 → Option (Int32 × Hp)} (hk4 : ∀ (h : Hp) (x0 : Nat) (x1 : Int32) (x2 : Int32) (x3 : Int32)  (r : Int32 × Hp), k4 h x0 x1 x2 x3 = some r → Rn l X mX11_drinkers d 4 [(0, .ref x0), (1, .int x1), (2, .int x2), (3, .int x3)] [] h (eI r) r.2) {h : Hp} {x0 : Nat} {x1 : Int32} {x3 : Int32} {s0 : Int32} {s1 : Int32} {r : Int32 × Hp} (E : f_Model_drinkers_b31  k4 h x0 x1 x3 s0 s1 = some r) : Rn l X mX11_drinkers d 31 [(0, .ref x0), (1, .int x1), (3, .int x3)] [.int s1, .int s0] h (eI r) r.2 := by
  unfold f_Model_drinkers_b31 at E
  refine Rn.ior (pc' := 32) dX11_drinkers_31 rfl ?_
  refine Rn.istore_n (pc' := 33) (L' := [(2, .int (s0 ||| s1)), (0, .ref x0), (1, .int x1), (3, .int x3)]) dX11_drinkers_32 rfl (by decide) rfl rfl ?_
  refine Rn.iinc (pc' := 36) (v := (x3 + (1 : Int32))) (L' := [(3, .int (x3 + (1 : Int32))), (2, .int (s0 ||| s1)), (0, .ref x0), (1, .int x1)]) dX11_drinkers_33 3 rfl rfl (by decide) rfl rfl ?_
  refine Rn.goto (pc' := 4) dX11_drinkers_36 (by decide) ?_
  refine Rn.sub [2, 3, 1, 0] rfl ?_
  exact hk4 _ _ _ _ _ _ E
def f_Model_drinkers_b4  (k4 : Hp → Nat → Int32 → Int32 → Int32 → Option (Int32 × Hp)) (h : Hp) (x0 : Nat) (x1 : Int32) (x2 : Int32) (x3 : Int32)  : Option (Int32 × Hp) :=
if hS h x0 = 11 then (
bI (f_Model_houses h x0) fun v2 h3 =>
if v2 ≤ x3 then (
some (x2, h3)

) else (
if hS h3 x0 = 11 then (
bI (f_Model_ofHouse h3 x0 x3 ((4 : Int32) + x1)) fun v7 h8 =>
if v7 ≤ 0 then (
f_Model_drinkers_b31  k4 h8 x0 x1 x3 x2 (0 : Int32)

) else (
f_Model_drinkers_b31  k4 h8 x0 x1 x3 x2 (jshl (1 : Int32) x3)

)
) else none
)
) else none
set_option maxRecDepth 20000 in
set_option maxHeartbeats 4000000 in
theorem f_Model_drinkers_b4_ok {l : Launch} {X : Nat × (Nat → Int32)} (hst : l.stackTraces = false) {d : Nat} (hd : 1 ≤ d)   {k4 : Hp → Nat → Int32 → Int32 → Int32 → Option (Int32 × Hp)} (hk4 : ∀ (h : Hp) (x0 : Nat) (x1 : Int32) (x2 : Int32) (x3 : Int32)  (r : Int32 × Hp), k4 h x0 x1 x2 x3 = some r → Rn l X mX11_drinkers d 4 [(0, .ref x0), (1, .int x1), (2, .int x2), (3, .int x3)] [] h (eI r) r.2) {h : Hp} {x0 : Nat} {x1 : Int32} {x2 : Int32} {x3 : Int32}  {r : Int32 × Hp} (E : f_Model_drinkers_b4  k4 h x0 x1 x2 x3 = some r) : Rn l X mX11_drinkers d 4 [(0, .ref x0), (1, .int x1), (2, .int x2), (3, .int x3)] [] h (eI r) r.2 := by
  unfold f_Model_drinkers_b4 at E
  refine Rn.iload_n (pc' := 5) dX11_drinkers_4 rfl 3 rfl rfl ?_
  refine Rn.aload_n (pc' := 6) dX11_drinkers_5 rfl 0 rfl rfl ?_
  obtain ⟨g1, E⟩ := gd_of E
  obtain ⟨v2, h3, e4, E⟩ := bI_of E
  refine Rn.callV1 (pc' := 9) (As := []) (rest := [.int x3]) (f_Model_houses_ok hst e4) (Nat.le_trans (by decide) hd) rfl kb_X11_60 ki_X11_houses rfl g1 rfl rfl (Nat.le_of_ble_eq_true rfl) dX11_drinkers_6 rfl rfl ?_
  refine Rn.icmp_ge (pc' := 12) (tgt := 39) dX11_drinkers_9 (by decide) rfl (fun c5 => ?_) (fun c5 => ?_)
  · replace E := (if_of E).1 c5
    refine Rn.iload_n (pc' := 40) dX11_drinkers_39 rfl 2 rfl rfl ?_
    cases E
    exact Rn.zret rfl rfl dX11_drinkers_40
  · replace E := (if_of E).2 c5
    refine Rn.iload_n (pc' := 13) dX11_drinkers_12 rfl 2 rfl rfl ?_
    refine Rn.aload_n (pc' := 14) dX11_drinkers_13 rfl 0 rfl rfl ?_
    refine Rn.iload_n (pc' := 15) dX11_drinkers_14 rfl 3 rfl rfl ?_
    refine Rn.iconst (pc' := 16) (v := (4 : Int32)) (hv := by decide) dX11_drinkers_15 rfl ?_
    refine Rn.iload_n (pc' := 17) dX11_drinkers_16 rfl 1 rfl rfl ?_
    refine Rn.iadd (pc' := 18) dX11_drinkers_17 rfl ?_
    obtain ⟨g6, E⟩ := gd_of E
    obtain ⟨v7, h8, e9, E⟩ := bI_of E
    refine Rn.callV1 (pc' := 21) (As := [.int x3, .int ((4 : Int32) + x1)]) (rest := [.int x2]) (f_Model_ofHouse_ok hst e9) (Nat.le_trans (by decide) hd) rfl kb_X11_151 ki_X11_ofHouse rfl g6 rfl rfl (Nat.le_of_ble_eq_true rfl) dX11_drinkers_18 rfl rfl ?_
    refine Rn.if_le (pc' := 24) (tgt := 30) dX11_drinkers_21 (by decide) rfl (fun c10 => ?_) (fun c10 => ?_)
    · replace E := (if_of E).1 c10
      refine Rn.iconst (pc' := 31) (v := (0 : Int32)) (hv := by decide) dX11_drinkers_30 rfl ?_
      refine Rn.sub [0, 1, 3] rfl ?_
      exact f_Model_drinkers_b31_ok hst hd  hk4 E
    · replace E := (if_of E).2 c10
      refine Rn.iconst (pc' := 25) (v := (1 : Int32)) (hv := by decide) dX11_drinkers_24 rfl ?_
      refine Rn.iload_n (pc' := 26) dX11_drinkers_25 rfl 3 rfl rfl ?_
      refine Rn.ishl (pc' := 27) dX11_drinkers_26 rfl ?_
      refine Rn.goto (pc' := 31) dX11_drinkers_27 (by decide) ?_
      refine Rn.sub [0, 1, 3] rfl ?_
      exact f_Model_drinkers_b31_ok hst hd  hk4 E
def f_Model_drinkers_L4   (n : Nat) : Hp → Nat → Int32 → Int32 → Int32 → Option (Int32 × Hp) := Nat.rec (motive := fun _ => Hp → Nat → Int32 → Int32 → Int32 → Option (Int32 × Hp)) (fun _ _ _ _ _ => none) (fun _ rec => f_Model_drinkers_b4   rec) n
theorem f_Model_drinkers_L4_ok {l : Launch} {X : Nat × (Nat → Int32)} (hst : l.stackTraces = false) {d : Nat} (hd : 1 ≤ d)     : ∀ (n : Nat) (h : Hp) (x0 : Nat) (x1 : Int32) (x2 : Int32) (x3 : Int32)  (r : Int32 × Hp), f_Model_drinkers_L4   n h x0 x1 x2 x3 = some r → Rn l X mX11_drinkers d 4 [(0, .ref x0), (1, .int x1), (2, .int x2), (3, .int x3)] [] h (eI r) r.2 := by
  intro n
  induction n with
  | zero => intro h x0 x1 x2 x3 r E; cases E
  | succ n ih => intro h x0 x1 x2 x3 r E; exact f_Model_drinkers_b4_ok hst hd   ih E
def f_Model_drinkers_b0   (h : Hp) (x0 : Nat) (x1 : Int32)  : Option (Int32 × Hp) :=
f_Model_drinkers_L4   FU h x0 x1 (0 : Int32) (0 : Int32)

set_option maxRecDepth 20000 in
set_option maxHeartbeats 4000000 in
theorem f_Model_drinkers_b0_ok {l : Launch} {X : Nat × (Nat → Int32)} (hst : l.stackTraces = false) {d : Nat} (hd : 1 ≤ d)     {h : Hp} {x0 : Nat} {x1 : Int32}  {r : Int32 × Hp} (E : f_Model_drinkers_b0   h x0 x1 = some r) : Rn l X mX11_drinkers d 0 [(0, .ref x0), (1, .int x1)] [] h (eI r) r.2 := by
  unfold f_Model_drinkers_b0 at E
  refine Rn.iconst (pc' := 1) (v := (0 : Int32)) (hv := by decide) dX11_drinkers_0 rfl ?_
  refine Rn.istore_n (pc' := 2) (L' := [(2, .int (0 : Int32)), (0, .ref x0), (1, .int x1)]) dX11_drinkers_1 rfl (by decide) rfl rfl ?_
  refine Rn.iconst (pc' := 3) (v := (0 : Int32)) (hv := by decide) dX11_drinkers_2 rfl ?_
  refine Rn.istore_n (pc' := 4) (L' := [(3, .int (0 : Int32)), (2, .int (0 : Int32)), (0, .ref x0), (1, .int x1)]) dX11_drinkers_3 rfl (by decide) rfl rfl ?_
  refine Rn.sub [2, 3, 1, 0] rfl ?_
  exact f_Model_drinkers_L4_ok hst hd   FU _ _ _ _ _ _ E
def f_Model_drinkers (h : Hp) (x0 : Nat) (x1 : Int32) : Option (Int32 × Hp) := f_Model_drinkers_b0  h x0 x1
theorem f_Model_drinkers_ok {l : Launch} {X : Nat × (Nat → Int32)} (hst : l.stackTraces = false) {h : Hp} {x0 : Nat} {x1 : Int32} {r : Int32 × Hp} (E : f_Model_drinkers h x0 x1 = some r) : MC l X yX11_drinkers mX11_drinkers 1 [.ref x0, .int x1] h (eI r) r.2 :=
  MC.body (by decide +kernel) rfl (by decide) hst (Nat.le_of_ble_eq_true rfl) (f_Model_drinkers_b0_ok hst (Nat.le_refl _) E)
abbrev mX11_isBlamed : MI := (RX11, cX11_isBlamed, 6, (some Jvm.ClassFile.FieldType.boolean), [], false)
theorem ws_X11_isBlamed : ∀ w ∈ wsM yX11_isBlamed mX11_isBlamed, w ∈ gw := List.forall_mem_cons.mpr ⟨gw_at 1884 (by decide +kernel) (by decide +kernel), fun _ h => h⟩
def f_Model_isBlamed_b34   (h : Hp) (x1 : Int32) (s0 : Int32) (s1 : Int32) : Option (Int32 × Hp) :=
if (s0 ||| s1) = x1 then (
some ((1 : Int32), h)

) else (
some ((0 : Int32), h)

)

set_option maxRecDepth 20000 in
set_option maxHeartbeats 4000000 in
theorem f_Model_isBlamed_b34_ok {l : Launch} {X : Nat × (Nat → Int32)} (hst : l.stackTraces = false) {d : Nat} (hd : 2 ≤ d)     {h : Hp} {x1 : Int32} {s0 : Int32} {s1 : Int32} {r : Int32 × Hp} (E : f_Model_isBlamed_b34   h x1 s0 s1 = some r) : Rn l X mX11_isBlamed d 34 [(1, .int x1)] [.int s1, .int s0] h (eI r) r.2 := by
  unfold f_Model_isBlamed_b34 at E
  refine Rn.ior (pc' := 35) dX11_isBlamed_34 rfl ?_
  refine Rn.istore (pc' := 37) (L' := [(5, .int (s0 ||| s1)), (1, .int x1)]) dX11_isBlamed_35 (by decide) rfl rfl ?_
  refine Rn.iload (pc' := 39) dX11_isBlamed_37 0 rfl rfl ?_
  refine Rn.iload_n (pc' := 40) dX11_isBlamed_39 rfl 1 rfl rfl ?_
  refine Rn.icmp_ne (pc' := 43) (tgt := 47) dX11_isBlamed_40 (by decide) rfl (fun c1 => ?_) (fun c1 => ?_)
  · replace E := (if_of E).2 c1
    refine Rn.iconst (pc' := 48) (v := (0 : Int32)) (hv := by decide) dX11_isBlamed_47 rfl ?_
    cases E
    exact Rn.zret rfl rfl dX11_isBlamed_48
  · replace E := (if_of E).1 c1
    refine Rn.iconst (pc' := 44) (v := (1 : Int32)) (hv := by decide) dX11_isBlamed_43 rfl ?_
    refine Rn.goto (pc' := 48) dX11_isBlamed_44 (by decide) ?_
    cases E
    exact Rn.zret rfl rfl dX11_isBlamed_48
theorem kb_X11_344 : KB RX11 344 yX11_drinkers mX11_drinkers 1 := ⟨gw_at 1873 (by decide +kernel) (by decide +kernel), gw_at 117 (by decide +kernel) (by decide +kernel), trivial, ws_X11_drinkers, by decide +kernel, by decide +kernel, by decide +kernel, by decide⟩
theorem ki_X11_drinkers : Cond.instanceMethod yX11_drinkers ∈ gw ∧ Cond.selects yX11_drinkers.cls yX11_drinkers yX11_drinkers ∈ gw := ⟨gw_at 1875 (by decide +kernel) (by decide +kernel), gw_at 101 (by decide +kernel) (by decide +kernel)⟩
def f_Model_isBlamed_b18   (h : Hp) (x0 : Nat) (x1 : Int32) (x4 : Int32) (s0 : Int32) (s1 : Int32) : Option (Int32 × Hp) :=
if 0 ≤ x4 then (
if hS h x0 = 11 then (
bI (f_Model_drinkers h x0 x4) fun v3 h4 =>
f_Model_isBlamed_b34   h4 x1 (s0 ||| s1) v3
) else none
) else (
f_Model_isBlamed_b34   h x1 (s0 ||| s1) (0 : Int32)

)

set_option maxRecDepth 20000 in
set_option maxHeartbeats 4000000 in
theorem f_Model_isBlamed_b18_ok {l : Launch} {X : Nat × (Nat → Int32)} (hst : l.stackTraces = false) {d : Nat} (hd : 2 ≤ d)     {h : Hp} {x0 : Nat} {x1 : Int32} {x4 : Int32} {s0 : Int32} {s1 : Int32} {r : Int32 × Hp} (E : f_Model_isBlamed_b18   h x0 x1 x4 s0 s1 = some r) : Rn l X mX11_isBlamed d 18 [(0, .ref x0), (1, .int x1), (4, .int x4)] [.int s1, .int s0] h (eI r) r.2 := by
  unfold f_Model_isBlamed_b18 at E
  refine Rn.ior (pc' := 19) dX11_isBlamed_18 rfl ?_
  refine Rn.iload (pc' := 21) dX11_isBlamed_19 2 rfl rfl ?_
  refine Rn.if_ge (pc' := 24) (tgt := 28) dX11_isBlamed_21 (by decide) rfl (fun c1 => ?_) (fun c1 => ?_)
  · replace E := (if_of E).1 c1
    refine Rn.aload_n (pc' := 29) dX11_isBlamed_28 rfl 0 rfl rfl ?_
    refine Rn.iload (pc' := 31) dX11_isBlamed_29 2 rfl rfl ?_
    obtain ⟨g2, E⟩ := gd_of E
    obtain ⟨v3, h4, e5, E⟩ := bI_of E
    refine Rn.callV1 (pc' := 34) (As := [.int x4]) (rest := [.int (s0 ||| s1)]) (f_Model_drinkers_ok hst e5) (Nat.le_trans (by decide) hd) rfl kb_X11_344 ki_X11_drinkers rfl g2 rfl rfl (Nat.le_of_ble_eq_true rfl) dX11_isBlamed_31 rfl rfl ?_
    refine Rn.sub [1] rfl ?_
    exact f_Model_isBlamed_b34_ok hst hd   E
  · replace E := (if_of E).2 c1
    refine Rn.iconst (pc' := 25) (v := (0 : Int32)) (hv := by decide) dX11_isBlamed_24 rfl ?_
    refine Rn.goto (pc' := 34) dX11_isBlamed_25 (by decide) ?_
    refine Rn.sub [1] rfl ?_
    exact f_Model_isBlamed_b34_ok hst hd   E
def f_Model_isBlamed_b0   (h : Hp) (x0 : Nat) (x1 : Int32) (x2 : Int32) (x3 : Int32) (x4 : Int32)  : Option (Int32 × Hp) :=
if hS h x0 = 11 then (
bI (f_Model_drinkers h x0 x2) fun v2 h3 =>
if 0 ≤ x3 then (
if hS h3 x0 = 11 then (
bI (f_Model_drinkers h3 x0 x3) fun v7 h8 =>
f_Model_isBlamed_b18   h8 x0 x1 x4 v2 v7
) else none
) else (
f_Model_isBlamed_b18   h3 x0 x1 x4 v2 (0 : Int32)

)
) else none
set_option maxRecDepth 20000 in
set_option maxHeartbeats 4000000 in
theorem f_Model_isBlamed_b0_ok {l : Launch} {X : Nat × (Nat → Int32)} (hst : l.stackTraces = false) {d : Nat} (hd : 2 ≤ d)     {h : Hp} {x0 : Nat} {x1 : Int32} {x2 : Int32} {x3 : Int32} {x4 : Int32}  {r : Int32 × Hp} (E : f_Model_isBlamed_b0   h x0 x1 x2 x3 x4 = some r) : Rn l X mX11_isBlamed d 0 [(0, .ref x0), (1, .int x1), (2, .int x2), (3, .int x3), (4, .int x4)] [] h (eI r) r.2 := by
  unfold f_Model_isBlamed_b0 at E
  refine Rn.aload_n (pc' := 1) dX11_isBlamed_0 rfl 0 rfl rfl ?_
  refine Rn.iload_n (pc' := 2) dX11_isBlamed_1 rfl 2 rfl rfl ?_
  obtain ⟨g1, E⟩ := gd_of E
  obtain ⟨v2, h3, e4, E⟩ := bI_of E
  refine Rn.callV1 (pc' := 5) (As := [.int x2]) (rest := []) (f_Model_drinkers_ok hst e4) (Nat.le_trans (by decide) hd) rfl kb_X11_344 ki_X11_drinkers rfl g1 rfl rfl (Nat.le_of_ble_eq_true rfl) dX11_isBlamed_2 rfl rfl ?_
  refine Rn.iload_n (pc' := 6) dX11_isBlamed_5 rfl 3 rfl rfl ?_
  refine Rn.if_ge (pc' := 9) (tgt := 13) dX11_isBlamed_6 (by decide) rfl (fun c5 => ?_) (fun c5 => ?_)
  · replace E := (if_of E).1 c5
    refine Rn.aload_n (pc' := 14) dX11_isBlamed_13 rfl 0 rfl rfl ?_
    refine Rn.iload_n (pc' := 15) dX11_isBlamed_14 rfl 3 rfl rfl ?_
    obtain ⟨g6, E⟩ := gd_of E
    obtain ⟨v7, h8, e9, E⟩ := bI_of E
    refine Rn.callV1 (pc' := 18) (As := [.int x3]) (rest := [.int v2]) (f_Model_drinkers_ok hst e9) (Nat.le_trans (by decide) hd) rfl kb_X11_344 ki_X11_drinkers rfl g6 rfl rfl (Nat.le_of_ble_eq_true rfl) dX11_isBlamed_15 rfl rfl ?_
    refine Rn.sub [0, 1, 4] rfl ?_
    exact f_Model_isBlamed_b18_ok hst hd   E
  · replace E := (if_of E).2 c5
    refine Rn.iconst (pc' := 10) (v := (0 : Int32)) (hv := by decide) dX11_isBlamed_9 rfl ?_
    refine Rn.goto (pc' := 18) dX11_isBlamed_10 (by decide) ?_
    refine Rn.sub [0, 1, 4] rfl ?_
    exact f_Model_isBlamed_b18_ok hst hd   E
def f_Model_isBlamed (h : Hp) (x0 : Nat) (x1 : Int32) (x2 : Int32) (x3 : Int32) (x4 : Int32) : Option (Int32 × Hp) := f_Model_isBlamed_b0  h x0 x1 x2 x3 x4
theorem f_Model_isBlamed_ok {l : Launch} {X : Nat × (Nat → Int32)} (hst : l.stackTraces = false) {h : Hp} {x0 : Nat} {x1 : Int32} {x2 : Int32} {x3 : Int32} {x4 : Int32} {r : Int32 × Hp} (E : f_Model_isBlamed h x0 x1 x2 x3 x4 = some r) : MC l X yX11_isBlamed mX11_isBlamed 2 [.ref x0, .int x1, .int x2, .int x3, .int x4] h (eI r) r.2 :=
  MC.body (by decide +kernel) rfl (by decide) hst (Nat.le_of_ble_eq_true rfl) (f_Model_isBlamed_b0_ok hst (Nat.le_refl _) E)
abbrev mX11_fewest : MI := (RX11, cX11_fewest, 6, (some Jvm.ClassFile.FieldType.int), [], false)
theorem ws_X11_fewest : ∀ w ∈ wsM yX11_fewest mX11_fewest, w ∈ gw := List.forall_mem_cons.mpr ⟨gw_at 1880 (by decide +kernel) (by decide +kernel), fun _ h => h⟩
theorem kb_X11_347 : KB RX11 347 yX11_isBlamed mX11_isBlamed 4 := ⟨gw_at 1881 (by decide +kernel) (by decide +kernel), gw_at 117 (by decide +kernel) (by decide +kernel), trivial, ws_X11_isBlamed, by decide +kernel, by decide +kernel, by decide +kernel, by decide⟩
theorem ki_X11_isBlamed : Cond.instanceMethod yX11_isBlamed ∈ gw ∧ Cond.selects yX11_isBlamed.cls yX11_isBlamed yX11_isBlamed ∈ gw := ⟨gw_at 1883 (by decide +kernel) (by decide +kernel), gw_at 102 (by decide +kernel) (by decide +kernel)⟩
def f_Model_fewest_b62  (k53 : Hp → Nat → Int32 → Int32 → Option (Int32 × Hp)) (k62 : Hp → Nat → Int32 → Int32 → Int32 → Option (Int32 × Hp)) (h : Hp) (x0 : Nat) (x2 : Int32) (x3 : Int32) (x4 : Int32)  : Option (Int32 × Hp) :=
if x3 ≤ x4 then (
k53 h x0 x2 (x3 + (1 : Int32))

) else (
if hS h x0 = 11 then (
bI (f_Model_isBlamed h x0 x2 x3 x4 (-1 : Int32)) fun v3 h4 =>
if v3 = 0 then (
k62 h4 x0 x2 x3 (x4 + (1 : Int32))

) else (
some (((jshl (1 : Int32) x3) ||| (jshl (1 : Int32) x4)), h4)

)
) else none
)

set_option maxRecDepth 20000 in
set_option maxHeartbeats 4000000 in
theorem f_Model_fewest_b62_ok {l : Launch} {X : Nat × (Nat → Int32)} (hst : l.stackTraces = false) {d : Nat} (hd : 3 ≤ d)   {k53 : Hp → Nat → Int32 → Int32 → Option (Int32 × Hp)} {k62 : Hp → Nat → Int32 → Int32 → Int32 → Option (Int32 × Hp)} (hk53 : ∀ (h : Hp) (x0 : Nat) (x2 : Int32) (x3 : Int32)  (r : Int32 × Hp), k53 h x0 x2 x3 = some r → Rn l X mX11_fewest d 53 [(0, .ref x0), (2, .int x2), (3, .int x3)] [] h (eI r) r.2) (hk62 : ∀ (h : Hp) (x0 : Nat) (x2 : Int32) (x3 : Int32) (x4 : Int32)  (r : Int32 × Hp), k62 h x0 x2 x3 x4 = some r → Rn l X mX11_fewest d 62 [(0, .ref x0), (2, .int x2), (3, .int x3), (4, .int x4)] [] h (eI r) r.2) {h : Hp} {x0 : Nat} {x2 : Int32} {x3 : Int32} {x4 : Int32}  {r : Int32 × Hp} (E : f_Model_fewest_b62  k53 k62 h x0 x2 x3 x4 = some r) : Rn l X mX11_fewest d 62 [(0, .ref x0), (2, .int x2), (3, .int x3), (4, .int x4)] [] h (eI r) r.2 := by
  unfold f_Model_fewest_b62 at E
  refine Rn.iload (pc' := 64) dX11_fewest_62 3 rfl rfl ?_
  refine Rn.iload_n (pc' := 65) dX11_fewest_64 rfl 2 rfl rfl ?_
  refine Rn.icmp_ge (pc' := 68) (tgt := 95) dX11_fewest_65 (by decide) rfl (fun c1 => ?_) (fun c1 => ?_)
  · replace E := (if_of E).1 c1
    refine Rn.iinc (pc' := 98) (v := (x3 + (1 : Int32))) (L' := [(3, .int (x3 + (1 : Int32))), (0, .ref x0), (2, .int x2), (4, .int x4)]) dX11_fewest_95 2 rfl rfl (by decide) rfl rfl ?_
    refine Rn.goto (pc' := 53) dX11_fewest_98 (by decide) ?_
    refine Rn.sub [1, 2, 0] rfl ?_
    exact hk53 _ _ _ _ _ E
  · replace E := (if_of E).2 c1
    refine Rn.aload_n (pc' := 69) dX11_fewest_68 rfl 0 rfl rfl ?_
    refine Rn.iload_n (pc' := 70) dX11_fewest_69 rfl 1 rfl rfl ?_
    refine Rn.iload_n (pc' := 71) dX11_fewest_70 rfl 2 rfl rfl ?_
    refine Rn.iload (pc' := 73) dX11_fewest_71 3 rfl rfl ?_
    refine Rn.iconst (pc' := 74) (v := (-1 : Int32)) (hv := by decide) dX11_fewest_73 rfl ?_
    obtain ⟨g2, E⟩ := gd_of E
    obtain ⟨v3, h4, e5, E⟩ := bI_of E
    refine Rn.callV1 (pc' := 77) (As := [.int x2, .int x3, .int x4, .int (-1 : Int32)]) (rest := []) (f_Model_isBlamed_ok hst e5) (Nat.le_trans (by decide) hd) rfl kb_X11_347 ki_X11_isBlamed rfl g2 rfl rfl (Nat.le_of_ble_eq_true rfl) dX11_fewest_74 rfl rfl ?_
    refine Rn.if_eq (pc' := 80) (tgt := 89) dX11_fewest_77 (by decide) rfl (fun c6 => ?_) (fun c6 => ?_)
    · replace E := (if_of E).1 c6
      refine Rn.iinc (pc' := 92) (v := (x4 + (1 : Int32))) (L' := [(4, .int (x4 + (1 : Int32))), (0, .ref x0), (2, .int x2), (3, .int x3)]) dX11_fewest_89 3 rfl rfl (by decide) rfl rfl ?_
      refine Rn.goto (pc' := 62) dX11_fewest_92 (by decide) ?_
      refine Rn.sub [1, 2, 3, 0] rfl ?_
      exact hk62 _ _ _ _ _ _ E
    · replace E := (if_of E).2 c6
      refine Rn.iconst (pc' := 81) (v := (1 : Int32)) (hv := by decide) dX11_fewest_80 rfl ?_
      refine Rn.iload_n (pc' := 82) dX11_fewest_81 rfl 2 rfl rfl ?_
      refine Rn.ishl (pc' := 83) dX11_fewest_82 rfl ?_
      refine Rn.iconst (pc' := 84) (v := (1 : Int32)) (hv := by decide) dX11_fewest_83 rfl ?_
      refine Rn.iload (pc' := 86) dX11_fewest_84 3 rfl rfl ?_
      refine Rn.ishl (pc' := 87) dX11_fewest_86 rfl ?_
      refine Rn.ior (pc' := 88) dX11_fewest_87 rfl ?_
      cases E
      exact Rn.zret rfl rfl dX11_fewest_88
def f_Model_fewest_L62  (k53 : Hp → Nat → Int32 → Int32 → Option (Int32 × Hp)) (n : Nat) : Hp → Nat → Int32 → Int32 → Int32 → Option (Int32 × Hp) := Nat.rec (motive := fun _ => Hp → Nat → Int32 → Int32 → Int32 → Option (Int32 × Hp)) (fun _ _ _ _ _ => none) (fun _ rec => f_Model_fewest_b62  k53 rec) n
theorem f_Model_fewest_L62_ok {l : Launch} {X : Nat × (Nat → Int32)} (hst : l.stackTraces = false) {d : Nat} (hd : 3 ≤ d)   {k53 : Hp → Nat → Int32 → Int32 → Option (Int32 × Hp)} (hk53 : ∀ (h : Hp) (x0 : Nat) (x2 : Int32) (x3 : Int32)  (r : Int32 × Hp), k53 h x0 x2 x3 = some r → Rn l X mX11_fewest d 53 [(0, .ref x0), (2, .int x2), (3, .int x3)] [] h (eI r) r.2) : ∀ (n : Nat) (h : Hp) (x0 : Nat) (x2 : Int32) (x3 : Int32) (x4 : Int32)  (r : Int32 × Hp), f_Model_fewest_L62  k53 n h x0 x2 x3 x4 = some r → Rn l X mX11_fewest d 62 [(0, .ref x0), (2, .int x2), (3, .int x3), (4, .int x4)] [] h (eI r) r.2 := by
  intro n
  induction n with
  | zero => intro h x0 x2 x3 x4 r E; cases E
  | succ n ih => intro h x0 x2 x3 x4 r E; exact f_Model_fewest_b62_ok hst hd  hk53 ih E
def f_Model_fewest_b121  (k112 : Hp → Nat → Int32 → Int32 → Int32 → Option (Int32 × Hp)) (k121 : Hp → Nat → Int32 → Int32 → Int32 → Int32 → Option (Int32 × Hp)) (h : Hp) (x0 : Nat) (x2 : Int32) (x3 : Int32) (x4 : Int32) (x5 : Int32)  : Option (Int32 × Hp) :=
if x4 ≤ x5 then (
k112 h x0 x2 x3 (x4 + (1 : Int32))

) else (
if hS h x0 = 11 then (
bI (f_Model_isBlamed h x0 x2 x3 x4 x5) fun v3 h4 =>
if v3 = 0 then (
k121 h4 x0 x2 x3 x4 (x5 + (1 : Int32))

) else (
some ((((jshl (1 : Int32) x3) ||| (jshl (1 : Int32) x4)) ||| (jshl (1 : Int32) x5)), h4)

)
) else none
)

set_option maxRecDepth 20000 in
set_option maxHeartbeats 4000000 in
theorem f_Model_fewest_b121_ok {l : Launch} {X : Nat × (Nat → Int32)} (hst : l.stackTraces = false) {d : Nat} (hd : 3 ≤ d)   {k112 : Hp → Nat → Int32 → Int32 → Int32 → Option (Int32 × Hp)} {k121 : Hp → Nat → Int32 → Int32 → Int32 → Int32 → Option (Int32 × Hp)} (hk112 : ∀ (h : Hp) (x0 : Nat) (x2 : Int32) (x3 : Int32) (x4 : Int32)  (r : Int32 × Hp), k112 h x0 x2 x3 x4 = some r → Rn l X mX11_fewest d 112 [(0, .ref x0), (2, .int x2), (3, .int x3), (4, .int x4)] [] h (eI r) r.2) (hk121 : ∀ (h : Hp) (x0 : Nat) (x2 : Int32) (x3 : Int32) (x4 : Int32) (x5 : Int32)  (r : Int32 × Hp), k121 h x0 x2 x3 x4 x5 = some r → Rn l X mX11_fewest d 121 [(0, .ref x0), (2, .int x2), (3, .int x3), (4, .int x4), (5, .int x5)] [] h (eI r) r.2) {h : Hp} {x0 : Nat} {x2 : Int32} {x3 : Int32} {x4 : Int32} {x5 : Int32}  {r : Int32 × Hp} (E : f_Model_fewest_b121  k112 k121 h x0 x2 x3 x4 x5 = some r) : Rn l X mX11_fewest d 121 [(0, .ref x0), (2, .int x2), (3, .int x3), (4, .int x4), (5, .int x5)] [] h (eI r) r.2 := by
  unfold f_Model_fewest_b121 at E
  refine Rn.iload (pc' := 123) dX11_fewest_121 4 rfl rfl ?_
  refine Rn.iload (pc' := 125) dX11_fewest_123 3 rfl rfl ?_
  refine Rn.icmp_ge (pc' := 128) (tgt := 161) dX11_fewest_125 (by decide) rfl (fun c1 => ?_) (fun c1 => ?_)
  · replace E := (if_of E).1 c1
    refine Rn.iinc (pc' := 164) (v := (x4 + (1 : Int32))) (L' := [(4, .int (x4 + (1 : Int32))), (0, .ref x0), (2, .int x2), (3, .int x3), (5, .int x5)]) dX11_fewest_161 3 rfl rfl (by decide) rfl rfl ?_
    refine Rn.goto (pc' := 112) dX11_fewest_164 (by decide) ?_
    refine Rn.sub [1, 2, 3, 0] rfl ?_
    exact hk112 _ _ _ _ _ _ E
  · replace E := (if_of E).2 c1
    refine Rn.aload_n (pc' := 129) dX11_fewest_128 rfl 0 rfl rfl ?_
    refine Rn.iload_n (pc' := 130) dX11_fewest_129 rfl 1 rfl rfl ?_
    refine Rn.iload_n (pc' := 131) dX11_fewest_130 rfl 2 rfl rfl ?_
    refine Rn.iload (pc' := 133) dX11_fewest_131 3 rfl rfl ?_
    refine Rn.iload (pc' := 135) dX11_fewest_133 4 rfl rfl ?_
    obtain ⟨g2, E⟩ := gd_of E
    obtain ⟨v3, h4, e5, E⟩ := bI_of E
    refine Rn.callV1 (pc' := 138) (As := [.int x2, .int x3, .int x4, .int x5]) (rest := []) (f_Model_isBlamed_ok hst e5) (Nat.le_trans (by decide) hd) rfl kb_X11_347 ki_X11_isBlamed rfl g2 rfl rfl (Nat.le_of_ble_eq_true rfl) dX11_fewest_135 rfl rfl ?_
    refine Rn.if_eq (pc' := 141) (tgt := 155) dX11_fewest_138 (by decide) rfl (fun c6 => ?_) (fun c6 => ?_)
    · replace E := (if_of E).1 c6
      refine Rn.iinc (pc' := 158) (v := (x5 + (1 : Int32))) (L' := [(5, .int (x5 + (1 : Int32))), (0, .ref x0), (2, .int x2), (3, .int x3), (4, .int x4)]) dX11_fewest_155 4 rfl rfl (by decide) rfl rfl ?_
      refine Rn.goto (pc' := 121) dX11_fewest_158 (by decide) ?_
      refine Rn.sub [1, 2, 3, 4, 0] rfl ?_
      exact hk121 _ _ _ _ _ _ _ E
    · replace E := (if_of E).2 c6
      refine Rn.iconst (pc' := 142) (v := (1 : Int32)) (hv := by decide) dX11_fewest_141 rfl ?_
      refine Rn.iload_n (pc' := 143) dX11_fewest_142 rfl 2 rfl rfl ?_
      refine Rn.ishl (pc' := 144) dX11_fewest_143 rfl ?_
      refine Rn.iconst (pc' := 145) (v := (1 : Int32)) (hv := by decide) dX11_fewest_144 rfl ?_
      refine Rn.iload (pc' := 147) dX11_fewest_145 3 rfl rfl ?_
      refine Rn.ishl (pc' := 148) dX11_fewest_147 rfl ?_
      refine Rn.ior (pc' := 149) dX11_fewest_148 rfl ?_
      refine Rn.iconst (pc' := 150) (v := (1 : Int32)) (hv := by decide) dX11_fewest_149 rfl ?_
      refine Rn.iload (pc' := 152) dX11_fewest_150 4 rfl rfl ?_
      refine Rn.ishl (pc' := 153) dX11_fewest_152 rfl ?_
      refine Rn.ior (pc' := 154) dX11_fewest_153 rfl ?_
      cases E
      exact Rn.zret rfl rfl dX11_fewest_154
def f_Model_fewest_L121  (k112 : Hp → Nat → Int32 → Int32 → Int32 → Option (Int32 × Hp)) (n : Nat) : Hp → Nat → Int32 → Int32 → Int32 → Int32 → Option (Int32 × Hp) := Nat.rec (motive := fun _ => Hp → Nat → Int32 → Int32 → Int32 → Int32 → Option (Int32 × Hp)) (fun _ _ _ _ _ _ => none) (fun _ rec => f_Model_fewest_b121  k112 rec) n
theorem f_Model_fewest_L121_ok {l : Launch} {X : Nat × (Nat → Int32)} (hst : l.stackTraces = false) {d : Nat} (hd : 3 ≤ d)   {k112 : Hp → Nat → Int32 → Int32 → Int32 → Option (Int32 × Hp)} (hk112 : ∀ (h : Hp) (x0 : Nat) (x2 : Int32) (x3 : Int32) (x4 : Int32)  (r : Int32 × Hp), k112 h x0 x2 x3 x4 = some r → Rn l X mX11_fewest d 112 [(0, .ref x0), (2, .int x2), (3, .int x3), (4, .int x4)] [] h (eI r) r.2) : ∀ (n : Nat) (h : Hp) (x0 : Nat) (x2 : Int32) (x3 : Int32) (x4 : Int32) (x5 : Int32)  (r : Int32 × Hp), f_Model_fewest_L121  k112 n h x0 x2 x3 x4 x5 = some r → Rn l X mX11_fewest d 121 [(0, .ref x0), (2, .int x2), (3, .int x3), (4, .int x4), (5, .int x5)] [] h (eI r) r.2 := by
  intro n
  induction n with
  | zero => intro h x0 x2 x3 x4 x5 r E; cases E
  | succ n ih => intro h x0 x2 x3 x4 x5 r E; exact f_Model_fewest_b121_ok hst hd  hk112 ih E
def f_Model_fewest_b112  (k103 : Hp → Nat → Int32 → Int32 → Option (Int32 × Hp)) (k112 : Hp → Nat → Int32 → Int32 → Int32 → Option (Int32 × Hp)) (h : Hp) (x0 : Nat) (x2 : Int32) (x3 : Int32) (x4 : Int32)  : Option (Int32 × Hp) :=
if x3 ≤ x4 then (
k103 h x0 x2 (x3 + (1 : Int32))

) else (
f_Model_fewest_L121  k112 FU h x0 x2 x3 x4 (0 : Int32)

)

set_option maxRecDepth 20000 in
set_option maxHeartbeats 4000000 in
theorem f_Model_fewest_b112_ok {l : Launch} {X : Nat × (Nat → Int32)} (hst : l.stackTraces = false) {d : Nat} (hd : 3 ≤ d)   {k103 : Hp → Nat → Int32 → Int32 → Option (Int32 × Hp)} {k112 : Hp → Nat → Int32 → Int32 → Int32 → Option (Int32 × Hp)} (hk103 : ∀ (h : Hp) (x0 : Nat) (x2 : Int32) (x3 : Int32)  (r : Int32 × Hp), k103 h x0 x2 x3 = some r → Rn l X mX11_fewest d 103 [(0, .ref x0), (2, .int x2), (3, .int x3)] [] h (eI r) r.2) (hk112 : ∀ (h : Hp) (x0 : Nat) (x2 : Int32) (x3 : Int32) (x4 : Int32)  (r : Int32 × Hp), k112 h x0 x2 x3 x4 = some r → Rn l X mX11_fewest d 112 [(0, .ref x0), (2, .int x2), (3, .int x3), (4, .int x4)] [] h (eI r) r.2) {h : Hp} {x0 : Nat} {x2 : Int32} {x3 : Int32} {x4 : Int32}  {r : Int32 × Hp} (E : f_Model_fewest_b112  k103 k112 h x0 x2 x3 x4 = some r) : Rn l X mX11_fewest d 112 [(0, .ref x0), (2, .int x2), (3, .int x3), (4, .int x4)] [] h (eI r) r.2 := by
  unfold f_Model_fewest_b112 at E
  refine Rn.iload (pc' := 114) dX11_fewest_112 3 rfl rfl ?_
  refine Rn.iload_n (pc' := 115) dX11_fewest_114 rfl 2 rfl rfl ?_
  refine Rn.icmp_ge (pc' := 118) (tgt := 167) dX11_fewest_115 (by decide) rfl (fun c1 => ?_) (fun c1 => ?_)
  · replace E := (if_of E).1 c1
    refine Rn.iinc (pc' := 170) (v := (x3 + (1 : Int32))) (L' := [(3, .int (x3 + (1 : Int32))), (0, .ref x0), (2, .int x2), (4, .int x4)]) dX11_fewest_167 2 rfl rfl (by decide) rfl rfl ?_
    refine Rn.goto (pc' := 103) dX11_fewest_170 (by decide) ?_
    refine Rn.sub [1, 2, 0] rfl ?_
    exact hk103 _ _ _ _ _ E
  · replace E := (if_of E).2 c1
    refine Rn.iconst (pc' := 119) (v := (0 : Int32)) (hv := by decide) dX11_fewest_118 rfl ?_
    refine Rn.istore (pc' := 121) (L' := [(5, .int (0 : Int32)), (0, .ref x0), (2, .int x2), (3, .int x3), (4, .int x4)]) dX11_fewest_119 (by decide) rfl rfl ?_
    refine Rn.sub [1, 2, 3, 4, 0] rfl ?_
    exact f_Model_fewest_L121_ok hst hd  hk112 FU _ _ _ _ _ _ _ E
def f_Model_fewest_L112  (k103 : Hp → Nat → Int32 → Int32 → Option (Int32 × Hp)) (n : Nat) : Hp → Nat → Int32 → Int32 → Int32 → Option (Int32 × Hp) := Nat.rec (motive := fun _ => Hp → Nat → Int32 → Int32 → Int32 → Option (Int32 × Hp)) (fun _ _ _ _ _ => none) (fun _ rec => f_Model_fewest_b112  k103 rec) n
theorem f_Model_fewest_L112_ok {l : Launch} {X : Nat × (Nat → Int32)} (hst : l.stackTraces = false) {d : Nat} (hd : 3 ≤ d)   {k103 : Hp → Nat → Int32 → Int32 → Option (Int32 × Hp)} (hk103 : ∀ (h : Hp) (x0 : Nat) (x2 : Int32) (x3 : Int32)  (r : Int32 × Hp), k103 h x0 x2 x3 = some r → Rn l X mX11_fewest d 103 [(0, .ref x0), (2, .int x2), (3, .int x3)] [] h (eI r) r.2) : ∀ (n : Nat) (h : Hp) (x0 : Nat) (x2 : Int32) (x3 : Int32) (x4 : Int32)  (r : Int32 × Hp), f_Model_fewest_L112  k103 n h x0 x2 x3 x4 = some r → Rn l X mX11_fewest d 112 [(0, .ref x0), (2, .int x2), (3, .int x3), (4, .int x4)] [] h (eI r) r.2 := by
  intro n
  induction n with
  | zero => intro h x0 x2 x3 x4 r E; cases E
  | succ n ih => intro h x0 x2 x3 x4 r E; exact f_Model_fewest_b112_ok hst hd  hk103 ih E
def f_Model_fewest_b103  (k103 : Hp → Nat → Int32 → Int32 → Option (Int32 × Hp)) (h : Hp) (x0 : Nat) (x2 : Int32) (x3 : Int32)  : Option (Int32 × Hp) :=
if (30 : Int32) ≤ x3 then (
some ((-1 : Int32), h)

) else (
f_Model_fewest_L112  k103 FU h x0 x2 x3 (1 : Int32)

)

set_option maxRecDepth 20000 in
set_option maxHeartbeats 4000000 in
theorem f_Model_fewest_b103_ok {l : Launch} {X : Nat × (Nat → Int32)} (hst : l.stackTraces = false) {d : Nat} (hd : 3 ≤ d)   {k103 : Hp → Nat → Int32 → Int32 → Option (Int32 × Hp)} (hk103 : ∀ (h : Hp) (x0 : Nat) (x2 : Int32) (x3 : Int32)  (r : Int32 × Hp), k103 h x0 x2 x3 = some r → Rn l X mX11_fewest d 103 [(0, .ref x0), (2, .int x2), (3, .int x3)] [] h (eI r) r.2) {h : Hp} {x0 : Nat} {x2 : Int32} {x3 : Int32}  {r : Int32 × Hp} (E : f_Model_fewest_b103  k103 h x0 x2 x3 = some r) : Rn l X mX11_fewest d 103 [(0, .ref x0), (2, .int x2), (3, .int x3)] [] h (eI r) r.2 := by
  unfold f_Model_fewest_b103 at E
  refine Rn.iload_n (pc' := 104) dX11_fewest_103 rfl 2 rfl rfl ?_
  refine Rn.bipush (pc' := 106) (v := (30 : Int32)) (hv := by decide) dX11_fewest_104 rfl ?_
  refine Rn.icmp_ge (pc' := 109) (tgt := 173) dX11_fewest_106 (by decide) rfl (fun c1 => ?_) (fun c1 => ?_)
  · replace E := (if_of E).1 c1
    refine Rn.iconst (pc' := 174) (v := (-1 : Int32)) (hv := by decide) dX11_fewest_173 rfl ?_
    cases E
    exact Rn.zret rfl rfl dX11_fewest_174
  · replace E := (if_of E).2 c1
    refine Rn.iconst (pc' := 110) (v := (1 : Int32)) (hv := by decide) dX11_fewest_109 rfl ?_
    refine Rn.istore (pc' := 112) (L' := [(4, .int (1 : Int32)), (0, .ref x0), (2, .int x2), (3, .int x3)]) dX11_fewest_110 (by decide) rfl rfl ?_
    refine Rn.sub [1, 2, 3, 0] rfl ?_
    exact f_Model_fewest_L112_ok hst hd  hk103 FU _ _ _ _ _ _ E
def f_Model_fewest_L103   (n : Nat) : Hp → Nat → Int32 → Int32 → Option (Int32 × Hp) := Nat.rec (motive := fun _ => Hp → Nat → Int32 → Int32 → Option (Int32 × Hp)) (fun _ _ _ _ => none) (fun _ rec => f_Model_fewest_b103   rec) n
theorem f_Model_fewest_L103_ok {l : Launch} {X : Nat × (Nat → Int32)} (hst : l.stackTraces = false) {d : Nat} (hd : 3 ≤ d)     : ∀ (n : Nat) (h : Hp) (x0 : Nat) (x2 : Int32) (x3 : Int32)  (r : Int32 × Hp), f_Model_fewest_L103   n h x0 x2 x3 = some r → Rn l X mX11_fewest d 103 [(0, .ref x0), (2, .int x2), (3, .int x3)] [] h (eI r) r.2 := by
  intro n
  induction n with
  | zero => intro h x0 x2 x3 r E; cases E
  | succ n ih => intro h x0 x2 x3 r E; exact f_Model_fewest_b103_ok hst hd   ih E
def f_Model_fewest_b53  (k53 : Hp → Nat → Int32 → Int32 → Option (Int32 × Hp)) (h : Hp) (x0 : Nat) (x2 : Int32) (x3 : Int32)  : Option (Int32 × Hp) :=
if (30 : Int32) ≤ x3 then (
f_Model_fewest_L103   FU h x0 x2 (2 : Int32)

) else (
f_Model_fewest_L62  k53 FU h x0 x2 x3 (0 : Int32)

)

set_option maxRecDepth 20000 in
set_option maxHeartbeats 4000000 in
theorem f_Model_fewest_b53_ok {l : Launch} {X : Nat × (Nat → Int32)} (hst : l.stackTraces = false) {d : Nat} (hd : 3 ≤ d)   {k53 : Hp → Nat → Int32 → Int32 → Option (Int32 × Hp)} (hk53 : ∀ (h : Hp) (x0 : Nat) (x2 : Int32) (x3 : Int32)  (r : Int32 × Hp), k53 h x0 x2 x3 = some r → Rn l X mX11_fewest d 53 [(0, .ref x0), (2, .int x2), (3, .int x3)] [] h (eI r) r.2) {h : Hp} {x0 : Nat} {x2 : Int32} {x3 : Int32}  {r : Int32 × Hp} (E : f_Model_fewest_b53  k53 h x0 x2 x3 = some r) : Rn l X mX11_fewest d 53 [(0, .ref x0), (2, .int x2), (3, .int x3)] [] h (eI r) r.2 := by
  unfold f_Model_fewest_b53 at E
  refine Rn.iload_n (pc' := 54) dX11_fewest_53 rfl 2 rfl rfl ?_
  refine Rn.bipush (pc' := 56) (v := (30 : Int32)) (hv := by decide) dX11_fewest_54 rfl ?_
  refine Rn.icmp_ge (pc' := 59) (tgt := 101) dX11_fewest_56 (by decide) rfl (fun c1 => ?_) (fun c1 => ?_)
  · replace E := (if_of E).1 c1
    refine Rn.iconst (pc' := 102) (v := (2 : Int32)) (hv := by decide) dX11_fewest_101 rfl ?_
    refine Rn.istore_n (pc' := 103) (L' := [(3, .int (2 : Int32)), (0, .ref x0), (2, .int x2)]) dX11_fewest_102 rfl (by decide) rfl rfl ?_
    refine Rn.sub [1, 2, 0] rfl ?_
    exact f_Model_fewest_L103_ok hst hd   FU _ _ _ _ _ E
  · replace E := (if_of E).2 c1
    refine Rn.iconst (pc' := 60) (v := (0 : Int32)) (hv := by decide) dX11_fewest_59 rfl ?_
    refine Rn.istore (pc' := 62) (L' := [(4, .int (0 : Int32)), (0, .ref x0), (2, .int x2), (3, .int x3)]) dX11_fewest_60 (by decide) rfl rfl ?_
    refine Rn.sub [1, 2, 3, 0] rfl ?_
    exact f_Model_fewest_L62_ok hst hd  hk53 FU _ _ _ _ _ _ E
def f_Model_fewest_L53   (n : Nat) : Hp → Nat → Int32 → Int32 → Option (Int32 × Hp) := Nat.rec (motive := fun _ => Hp → Nat → Int32 → Int32 → Option (Int32 × Hp)) (fun _ _ _ _ => none) (fun _ rec => f_Model_fewest_b53   rec) n
theorem f_Model_fewest_L53_ok {l : Launch} {X : Nat × (Nat → Int32)} (hst : l.stackTraces = false) {d : Nat} (hd : 3 ≤ d)     : ∀ (n : Nat) (h : Hp) (x0 : Nat) (x2 : Int32) (x3 : Int32)  (r : Int32 × Hp), f_Model_fewest_L53   n h x0 x2 x3 = some r → Rn l X mX11_fewest d 53 [(0, .ref x0), (2, .int x2), (3, .int x3)] [] h (eI r) r.2 := by
  intro n
  induction n with
  | zero => intro h x0 x2 x3 r E; cases E
  | succ n ih => intro h x0 x2 x3 r E; exact f_Model_fewest_b53_ok hst hd   ih E
def f_Model_fewest_b24  (k24 : Hp → Nat → Int32 → Int32 → Option (Int32 × Hp)) (h : Hp) (x0 : Nat) (x2 : Int32) (x3 : Int32)  : Option (Int32 × Hp) :=
if (30 : Int32) ≤ x3 then (
f_Model_fewest_L53   FU h x0 x2 (1 : Int32)

) else (
if hS h x0 = 11 then (
bI (f_Model_isBlamed h x0 x2 x3 (-1 : Int32) (-1 : Int32)) fun v3 h4 =>
if v3 = 0 then (
k24 h4 x0 x2 (x3 + (1 : Int32))

) else (
some ((jshl (1 : Int32) x3), h4)

)
) else none
)

set_option maxRecDepth 20000 in
set_option maxHeartbeats 4000000 in
theorem f_Model_fewest_b24_ok {l : Launch} {X : Nat × (Nat → Int32)} (hst : l.stackTraces = false) {d : Nat} (hd : 3 ≤ d)   {k24 : Hp → Nat → Int32 → Int32 → Option (Int32 × Hp)} (hk24 : ∀ (h : Hp) (x0 : Nat) (x2 : Int32) (x3 : Int32)  (r : Int32 × Hp), k24 h x0 x2 x3 = some r → Rn l X mX11_fewest d 24 [(0, .ref x0), (2, .int x2), (3, .int x3)] [] h (eI r) r.2) {h : Hp} {x0 : Nat} {x2 : Int32} {x3 : Int32}  {r : Int32 × Hp} (E : f_Model_fewest_b24  k24 h x0 x2 x3 = some r) : Rn l X mX11_fewest d 24 [(0, .ref x0), (2, .int x2), (3, .int x3)] [] h (eI r) r.2 := by
  unfold f_Model_fewest_b24 at E
  refine Rn.iload_n (pc' := 25) dX11_fewest_24 rfl 2 rfl rfl ?_
  refine Rn.bipush (pc' := 27) (v := (30 : Int32)) (hv := by decide) dX11_fewest_25 rfl ?_
  refine Rn.icmp_ge (pc' := 30) (tgt := 51) dX11_fewest_27 (by decide) rfl (fun c1 => ?_) (fun c1 => ?_)
  · replace E := (if_of E).1 c1
    refine Rn.iconst (pc' := 52) (v := (1 : Int32)) (hv := by decide) dX11_fewest_51 rfl ?_
    refine Rn.istore_n (pc' := 53) (L' := [(3, .int (1 : Int32)), (0, .ref x0), (2, .int x2)]) dX11_fewest_52 rfl (by decide) rfl rfl ?_
    refine Rn.sub [1, 2, 0] rfl ?_
    exact f_Model_fewest_L53_ok hst hd   FU _ _ _ _ _ E
  · replace E := (if_of E).2 c1
    refine Rn.aload_n (pc' := 31) dX11_fewest_30 rfl 0 rfl rfl ?_
    refine Rn.iload_n (pc' := 32) dX11_fewest_31 rfl 1 rfl rfl ?_
    refine Rn.iload_n (pc' := 33) dX11_fewest_32 rfl 2 rfl rfl ?_
    refine Rn.iconst (pc' := 34) (v := (-1 : Int32)) (hv := by decide) dX11_fewest_33 rfl ?_
    refine Rn.iconst (pc' := 35) (v := (-1 : Int32)) (hv := by decide) dX11_fewest_34 rfl ?_
    obtain ⟨g2, E⟩ := gd_of E
    obtain ⟨v3, h4, e5, E⟩ := bI_of E
    refine Rn.callV1 (pc' := 38) (As := [.int x2, .int x3, .int (-1 : Int32), .int (-1 : Int32)]) (rest := []) (f_Model_isBlamed_ok hst e5) (Nat.le_trans (by decide) hd) rfl kb_X11_347 ki_X11_isBlamed rfl g2 rfl rfl (Nat.le_of_ble_eq_true rfl) dX11_fewest_35 rfl rfl ?_
    refine Rn.if_eq (pc' := 41) (tgt := 45) dX11_fewest_38 (by decide) rfl (fun c6 => ?_) (fun c6 => ?_)
    · replace E := (if_of E).1 c6
      refine Rn.iinc (pc' := 48) (v := (x3 + (1 : Int32))) (L' := [(3, .int (x3 + (1 : Int32))), (0, .ref x0), (2, .int x2)]) dX11_fewest_45 2 rfl rfl (by decide) rfl rfl ?_
      refine Rn.goto (pc' := 24) dX11_fewest_48 (by decide) ?_
      refine Rn.sub [1, 2, 0] rfl ?_
      exact hk24 _ _ _ _ _ E
    · replace E := (if_of E).2 c6
      refine Rn.iconst (pc' := 42) (v := (1 : Int32)) (hv := by decide) dX11_fewest_41 rfl ?_
      refine Rn.iload_n (pc' := 43) dX11_fewest_42 rfl 2 rfl rfl ?_
      refine Rn.ishl (pc' := 44) dX11_fewest_43 rfl ?_
      cases E
      exact Rn.zret rfl rfl dX11_fewest_44
def f_Model_fewest_L24   (n : Nat) : Hp → Nat → Int32 → Int32 → Option (Int32 × Hp) := Nat.rec (motive := fun _ => Hp → Nat → Int32 → Int32 → Option (Int32 × Hp)) (fun _ _ _ _ => none) (fun _ rec => f_Model_fewest_b24   rec) n
theorem f_Model_fewest_L24_ok {l : Launch} {X : Nat × (Nat → Int32)} (hst : l.stackTraces = false) {d : Nat} (hd : 3 ≤ d)     : ∀ (n : Nat) (h : Hp) (x0 : Nat) (x2 : Int32) (x3 : Int32)  (r : Int32 × Hp), f_Model_fewest_L24   n h x0 x2 x3 = some r → Rn l X mX11_fewest d 24 [(0, .ref x0), (2, .int x2), (3, .int x3)] [] h (eI r) r.2 := by
  intro n
  induction n with
  | zero => intro h x0 x2 x3 r E; cases E
  | succ n ih => intro h x0 x2 x3 r E; exact f_Model_fewest_b24_ok hst hd   ih E
def f_Model_fewest_b0   (h : Hp) (x0 : Nat) (x1 : Int32)  : Option (Int32 × Hp) :=
if hS h x0 = 11 then (
wr (sI h x0 0 (0 : Int32)) fun h2 =>
bI (f_Model_houses h2 x0) fun v4 h5 =>
if (x1 &&& ((jshl (1 : Int32) v4) - (1 : Int32))) = 0 then (
some ((0 : Int32), h5)

) else (
f_Model_fewest_L24   FU h5 x0 (x1 &&& ((jshl (1 : Int32) v4) - (1 : Int32))) (0 : Int32)

)
) else none
set_option maxRecDepth 20000 in
set_option maxHeartbeats 4000000 in
theorem f_Model_fewest_b0_ok {l : Launch} {X : Nat × (Nat → Int32)} (hst : l.stackTraces = false) {d : Nat} (hd : 3 ≤ d)     {h : Hp} {x0 : Nat} {x1 : Int32}  {r : Int32 × Hp} (E : f_Model_fewest_b0   h x0 x1 = some r) : Rn l X mX11_fewest d 0 [(0, .ref x0), (1, .int x1)] [] h (eI r) r.2 := by
  unfold f_Model_fewest_b0 at E
  refine Rn.aload_n (pc' := 1) dX11_fewest_0 rfl 0 rfl rfl ?_
  refine Rn.iconst (pc' := 2) (v := (0 : Int32)) (hv := by decide) dX11_fewest_1 rfl ?_
  obtain ⟨g1, E⟩ := gd_of E
  refine Rn.putI (pc' := 5) fl_X11_3_10 (fun q hq => by cases hq; decide) g1 rfl rfl rfl dX11_fewest_2 rfl ?_
  replace E := wr_of E
  generalize eh3 : sI h x0 0 (0 : Int32) = h2 at E ⊢
  refine Rn.iload_n (pc' := 6) dX11_fewest_5 rfl 1 rfl rfl ?_
  refine Rn.iconst (pc' := 7) (v := (1 : Int32)) (hv := by decide) dX11_fewest_6 rfl ?_
  refine Rn.aload_n (pc' := 8) dX11_fewest_7 rfl 0 rfl rfl ?_
  obtain ⟨v4, h5, e6, E⟩ := bI_of E
  refine Rn.callV1 (pc' := 11) (As := []) (rest := [.int (1 : Int32), .int x1]) (f_Model_houses_ok hst e6) (Nat.le_trans (by decide) hd) rfl kb_X11_60 ki_X11_houses rfl (kp_sI eh3 g1) rfl rfl (Nat.le_of_ble_eq_true rfl) dX11_fewest_8 rfl rfl ?_
  refine Rn.ishl (pc' := 12) dX11_fewest_11 rfl ?_
  refine Rn.iconst (pc' := 13) (v := (1 : Int32)) (hv := by decide) dX11_fewest_12 rfl ?_
  refine Rn.isub (pc' := 14) dX11_fewest_13 rfl ?_
  refine Rn.iand (pc' := 15) dX11_fewest_14 rfl ?_
  refine Rn.istore_n (pc' := 16) (L' := [(2, .int (x1 &&& ((jshl (1 : Int32) v4) - (1 : Int32)))), (0, .ref x0), (1, .int x1)]) dX11_fewest_15 rfl (by decide) rfl rfl ?_
  refine Rn.iload_n (pc' := 17) dX11_fewest_16 rfl 0 rfl rfl ?_
  refine Rn.if_ne (pc' := 20) (tgt := 22) dX11_fewest_17 (by decide) rfl (fun c7 => ?_) (fun c7 => ?_)
  · replace E := (if_of E).2 c7
    refine Rn.iconst (pc' := 23) (v := (0 : Int32)) (hv := by decide) dX11_fewest_22 rfl ?_
    refine Rn.istore_n (pc' := 24) (L' := [(3, .int (0 : Int32)), (2, .int (x1 &&& ((jshl (1 : Int32) v4) - (1 : Int32)))), (0, .ref x0), (1, .int x1)]) dX11_fewest_23 rfl (by decide) rfl rfl ?_
    refine Rn.sub [2, 1, 0] rfl ?_
    exact f_Model_fewest_L24_ok hst hd   FU _ _ _ _ _ E
  · replace E := (if_of E).1 c7
    refine Rn.iconst (pc' := 21) (v := (0 : Int32)) (hv := by decide) dX11_fewest_20 rfl ?_
    cases E
    exact Rn.zret rfl rfl dX11_fewest_21
def f_Model_fewest (h : Hp) (x0 : Nat) (x1 : Int32) : Option (Int32 × Hp) := f_Model_fewest_b0  h x0 x1
theorem f_Model_fewest_ok {l : Launch} {X : Nat × (Nat → Int32)} (hst : l.stackTraces = false) {h : Hp} {x0 : Nat} {x1 : Int32} {r : Int32 × Hp} (E : f_Model_fewest h x0 x1 = some r) : MC l X yX11_fewest mX11_fewest 3 [.ref x0, .int x1] h (eI r) r.2 :=
  MC.body (by decide +kernel) rfl (by decide) hst (Nat.le_of_ble_eq_true rfl) (f_Model_fewest_b0_ok hst (Nat.le_refl _) E)
abbrev mX10_foul : MI := (RX10, cX10_foul, 6, (some Jvm.ClassFile.FieldType.int), [], false)
theorem ws_X10_foul : ∀ w ∈ wsM yX10_foul mX10_foul, w ∈ gw := List.forall_mem_cons.mpr ⟨gw_at 642 (by decide +kernel) (by decide +kernel), fun _ h => h⟩
def f_Water_foul_b51  (k15 : Hp → Nat → Int32 → Int32 → Int32 → Option (Int32 × Hp)) (h : Hp) (x0 : Nat) (x2 : Int32) (x3 : Int32) (x4 : Int32)  : Option (Int32 × Hp) :=
k15 h x0 x2 x3 (x4 + (1 : Int32))

set_option maxRecDepth 20000 in
set_option maxHeartbeats 4000000 in
theorem f_Water_foul_b51_ok {l : Launch} {X : Nat × (Nat → Int32)} (hst : l.stackTraces = false) {d : Nat} (hd : 1 ≤ d)   {k15 : Hp → Nat → Int32 → Int32 → Int32 → Option (Int32 × Hp)} (hk15 : ∀ (h : Hp) (x0 : Nat) (x2 : Int32) (x3 : Int32) (x4 : Int32)  (r : Int32 × Hp), k15 h x0 x2 x3 x4 = some r → Rn l X mX10_foul d 15 [(0, .ref x0), (2, .int x2), (3, .int x3), (4, .int x4)] [] h (eI r) r.2) {h : Hp} {x0 : Nat} {x2 : Int32} {x3 : Int32} {x4 : Int32}  {r : Int32 × Hp} (E : f_Water_foul_b51  k15 h x0 x2 x3 x4 = some r) : Rn l X mX10_foul d 51 [(0, .ref x0), (2, .int x2), (3, .int x3), (4, .int x4)] [] h (eI r) r.2 := by
  unfold f_Water_foul_b51 at E
  refine Rn.iinc (pc' := 54) (v := (x4 + (1 : Int32))) (L' := [(4, .int (x4 + (1 : Int32))), (0, .ref x0), (2, .int x2), (3, .int x3)]) dX10_foul_51 3 rfl rfl (by decide) rfl rfl ?_
  refine Rn.goto (pc' := 15) dX10_foul_54 (by decide) ?_
  refine Rn.sub [1, 2, 3, 0] rfl ?_
  exact hk15 _ _ _ _ _ _ E
def f_Water_foul_b15  (k15 : Hp → Nat → Int32 → Int32 → Int32 → Option (Int32 × Hp)) (h : Hp) (x0 : Nat) (x2 : Int32) (x3 : Int32) (x4 : Int32)  : Option (Int32 × Hp) :=
if (30 : Int32) ≤ x4 then (
some (x3, h)

) else (
if hS h x0 = 10 then (
if hS h (hR h x0 4) = 4 then (
bI (f_Land_drinkersOf h (hR h x0 4) x4) fun v4 h5 =>
if v4 = 0 then (
f_Water_foul_b51  k15 h5 x0 x2 x3 x4

) else (
if v4 = x2 then (
f_Water_foul_b51  k15 h5 x0 x2 (x3 ||| (jshl (1 : Int32) x4)) x4

) else (
f_Water_foul_b51  k15 h5 x0 x2 x3 x4

)

)
) else none) else none
)

set_option maxRecDepth 20000 in
set_option maxHeartbeats 4000000 in
theorem f_Water_foul_b15_ok {l : Launch} {X : Nat × (Nat → Int32)} (hst : l.stackTraces = false) {d : Nat} (hd : 1 ≤ d)   {k15 : Hp → Nat → Int32 → Int32 → Int32 → Option (Int32 × Hp)} (hk15 : ∀ (h : Hp) (x0 : Nat) (x2 : Int32) (x3 : Int32) (x4 : Int32)  (r : Int32 × Hp), k15 h x0 x2 x3 x4 = some r → Rn l X mX10_foul d 15 [(0, .ref x0), (2, .int x2), (3, .int x3), (4, .int x4)] [] h (eI r) r.2) {h : Hp} {x0 : Nat} {x2 : Int32} {x3 : Int32} {x4 : Int32}  {r : Int32 × Hp} (E : f_Water_foul_b15  k15 h x0 x2 x3 x4 = some r) : Rn l X mX10_foul d 15 [(0, .ref x0), (2, .int x2), (3, .int x3), (4, .int x4)] [] h (eI r) r.2 := by
  unfold f_Water_foul_b15 at E
  refine Rn.iload (pc' := 17) dX10_foul_15 3 rfl rfl ?_
  refine Rn.bipush (pc' := 19) (v := (30 : Int32)) (hv := by decide) dX10_foul_17 rfl ?_
  refine Rn.icmp_ge (pc' := 22) (tgt := 57) dX10_foul_19 (by decide) rfl (fun c1 => ?_) (fun c1 => ?_)
  · replace E := (if_of E).1 c1
    refine Rn.iload_n (pc' := 58) dX10_foul_57 rfl 2 rfl rfl ?_
    cases E
    exact Rn.zret rfl rfl dX10_foul_58
  · replace E := (if_of E).2 c1
    refine Rn.aload_n (pc' := 23) dX10_foul_22 rfl 0 rfl rfl ?_
    obtain ⟨g2, E⟩ := gd_of E
    refine Rn.getR (pc' := 26) fl_X10_42_9 g2 rfl dX10_foul_23 rfl ?_
    refine Rn.iload (pc' := 28) dX10_foul_26 3 rfl rfl ?_
    obtain ⟨g3, E⟩ := gd_of E
    obtain ⟨v4, h5, e6, E⟩ := bI_of E
    refine Rn.callV1 (pc' := 31) (As := [.int x4]) (rest := []) (f_Land_drinkersOf_ok hst e6) (Nat.le_trans (by decide) hd) rfl kb_X10_282 ki_X3_drinkersOf rfl g3 rfl rfl (Nat.le_of_ble_eq_true rfl) dX10_foul_28 rfl rfl ?_
    refine Rn.istore (pc' := 33) (L' := [(5, .int v4), (0, .ref x0), (2, .int x2), (3, .int x3), (4, .int x4)]) dX10_foul_31 (by decide) rfl rfl ?_
    refine Rn.iload (pc' := 35) dX10_foul_33 0 rfl rfl ?_
    refine Rn.if_eq (pc' := 38) (tgt := 51) dX10_foul_35 (by decide) rfl (fun c7 => ?_) (fun c7 => ?_)
    · replace E := (if_of E).1 c7
      refine Rn.sub [1, 2, 3, 4] rfl ?_
      exact f_Water_foul_b51_ok hst hd  hk15 E
    · replace E := (if_of E).2 c7
      refine Rn.iload (pc' := 40) dX10_foul_38 0 rfl rfl ?_
      refine Rn.iload_n (pc' := 41) dX10_foul_40 rfl 2 rfl rfl ?_
      refine Rn.icmp_ne (pc' := 44) (tgt := 51) dX10_foul_41 (by decide) rfl (fun c8 => ?_) (fun c8 => ?_)
      · replace E := (if_of E).2 c8
        refine Rn.sub [1, 2, 3, 4] rfl ?_
        exact f_Water_foul_b51_ok hst hd  hk15 E
      · replace E := (if_of E).1 c8
        refine Rn.iload_n (pc' := 45) dX10_foul_44 rfl 3 rfl rfl ?_
        refine Rn.iconst (pc' := 46) (v := (1 : Int32)) (hv := by decide) dX10_foul_45 rfl ?_
        refine Rn.iload (pc' := 48) dX10_foul_46 4 rfl rfl ?_
        refine Rn.ishl (pc' := 49) dX10_foul_48 rfl ?_
        refine Rn.ior (pc' := 50) dX10_foul_49 rfl ?_
        refine Rn.istore_n (pc' := 51) (L' := [(3, .int (x3 ||| (jshl (1 : Int32) x4))), (5, .int v4), (0, .ref x0), (2, .int x2), (4, .int x4)]) dX10_foul_50 rfl (by decide) rfl rfl ?_
        refine Rn.sub [2, 3, 0, 4] rfl ?_
        exact f_Water_foul_b51_ok hst hd  hk15 E
def f_Water_foul_L15   (n : Nat) : Hp → Nat → Int32 → Int32 → Int32 → Option (Int32 × Hp) := Nat.rec (motive := fun _ => Hp → Nat → Int32 → Int32 → Int32 → Option (Int32 × Hp)) (fun _ _ _ _ _ => none) (fun _ rec => f_Water_foul_b15   rec) n
theorem f_Water_foul_L15_ok {l : Launch} {X : Nat × (Nat → Int32)} (hst : l.stackTraces = false) {d : Nat} (hd : 1 ≤ d)     : ∀ (n : Nat) (h : Hp) (x0 : Nat) (x2 : Int32) (x3 : Int32) (x4 : Int32)  (r : Int32 × Hp), f_Water_foul_L15   n h x0 x2 x3 x4 = some r → Rn l X mX10_foul d 15 [(0, .ref x0), (2, .int x2), (3, .int x3), (4, .int x4)] [] h (eI r) r.2 := by
  intro n
  induction n with
  | zero => intro h x0 x2 x3 x4 r E; cases E
  | succ n ih => intro h x0 x2 x3 x4 r E; exact f_Water_foul_b15_ok hst hd   ih E
def f_Water_foul_b0   (h : Hp) (x0 : Nat) (x1 : Int32)  : Option (Int32 × Hp) :=
if hS h x0 = 10 then (
if hS h (hR h x0 4) = 4 then (
bI (f_Land_houseBits h (hR h x0 4)) fun v3 h4 =>
f_Water_foul_L15   FU h4 x0 (x1 &&& v3) (0 : Int32) (0 : Int32)
) else none) else none
set_option maxRecDepth 20000 in
set_option maxHeartbeats 4000000 in
theorem f_Water_foul_b0_ok {l : Launch} {X : Nat × (Nat → Int32)} (hst : l.stackTraces = false) {d : Nat} (hd : 1 ≤ d)     {h : Hp} {x0 : Nat} {x1 : Int32}  {r : Int32 × Hp} (E : f_Water_foul_b0   h x0 x1 = some r) : Rn l X mX10_foul d 0 [(0, .ref x0), (1, .int x1)] [] h (eI r) r.2 := by
  unfold f_Water_foul_b0 at E
  refine Rn.iload_n (pc' := 1) dX10_foul_0 rfl 1 rfl rfl ?_
  refine Rn.aload_n (pc' := 2) dX10_foul_1 rfl 0 rfl rfl ?_
  obtain ⟨g1, E⟩ := gd_of E
  refine Rn.getR (pc' := 5) fl_X10_42_9 g1 rfl dX10_foul_2 rfl ?_
  obtain ⟨g2, E⟩ := gd_of E
  obtain ⟨v3, h4, e5, E⟩ := bI_of E
  refine Rn.callV1 (pc' := 8) (As := []) (rest := [.int x1]) (f_Land_houseBits_ok hst e5) (Nat.le_trans (by decide) hd) rfl kb_X10_279 ki_X3_houseBits rfl g2 rfl rfl (Nat.le_of_ble_eq_true rfl) dX10_foul_5 rfl rfl ?_
  refine Rn.iand (pc' := 9) dX10_foul_8 rfl ?_
  refine Rn.istore_n (pc' := 10) (L' := [(2, .int (x1 &&& v3)), (0, .ref x0), (1, .int x1)]) dX10_foul_9 rfl (by decide) rfl rfl ?_
  refine Rn.iconst (pc' := 11) (v := (0 : Int32)) (hv := by decide) dX10_foul_10 rfl ?_
  refine Rn.istore_n (pc' := 12) (L' := [(3, .int (0 : Int32)), (2, .int (x1 &&& v3)), (0, .ref x0), (1, .int x1)]) dX10_foul_11 rfl (by decide) rfl rfl ?_
  refine Rn.iconst (pc' := 13) (v := (0 : Int32)) (hv := by decide) dX10_foul_12 rfl ?_
  refine Rn.istore (pc' := 15) (L' := [(4, .int (0 : Int32)), (3, .int (0 : Int32)), (2, .int (x1 &&& v3)), (0, .ref x0), (1, .int x1)]) dX10_foul_13 (by decide) rfl rfl ?_
  refine Rn.sub [3, 2, 1, 0] rfl ?_
  exact f_Water_foul_L15_ok hst hd   FU _ _ _ _ _ _ E
def f_Water_foul (h : Hp) (x0 : Nat) (x1 : Int32) : Option (Int32 × Hp) := f_Water_foul_b0  h x0 x1
theorem f_Water_foul_ok {l : Launch} {X : Nat × (Nat → Int32)} (hst : l.stackTraces = false) {h : Hp} {x0 : Nat} {x1 : Int32} {r : Int32 × Hp} (E : f_Water_foul h x0 x1 = some r) : MC l X yX10_foul mX10_foul 1 [.ref x0, .int x1] h (eI r) r.2 :=
  MC.body (by decide +kernel) rfl (by decide) hst (Nat.le_of_ble_eq_true rfl) (f_Water_foul_b0_ok hst (Nat.le_refl _) E)
abbrev mX11_foul : MI := (RX11, cX11_foul, 5, (some Jvm.ClassFile.FieldType.int), [], false)
theorem ws_X11_foul : ∀ w ∈ wsM yX11_foul mX11_foul, w ∈ gw := List.forall_mem_cons.mpr ⟨gw_at 1872 (by decide +kernel) (by decide +kernel), fun _ h => h⟩
def f_Model_foul_b56  (k21 : Hp → Nat → Int32 → Int32 → Int32 → Option (Int32 × Hp)) (h : Hp) (x0 : Nat) (x2 : Int32) (x4 : Int32) (s0 : Int32) (s1 : Int32) : Option (Int32 × Hp) :=
k21 h x0 x2 (s0 ||| s1) (x4 + (1 : Int32))

set_option maxRecDepth 20000 in
set_option maxHeartbeats 4000000 in
theorem f_Model_foul_b56_ok {l : Launch} {X : Nat × (Nat → Int32)} (hst : l.stackTraces = false) {d : Nat} (hd : 2 ≤ d)   {k21 : Hp → Nat → Int32 → Int32 → Int32 → Option (Int32 × Hp)} (hk21 : ∀ (h : Hp) (x0 : Nat) (x2 : Int32) (x3 : Int32) (x4 : Int32)  (r : Int32 × Hp), k21 h x0 x2 x3 x4 = some r → Rn l X mX11_foul d 21 [(0, .ref x0), (2, .int x2), (3, .int x3), (4, .int x4)] [] h (eI r) r.2) {h : Hp} {x0 : Nat} {x2 : Int32} {x4 : Int32} {s0 : Int32} {s1 : Int32} {r : Int32 × Hp} (E : f_Model_foul_b56  k21 h x0 x2 x4 s0 s1 = some r) : Rn l X mX11_foul d 56 [(0, .ref x0), (2, .int x2), (4, .int x4)] [.int s1, .int s0] h (eI r) r.2 := by
  unfold f_Model_foul_b56 at E
  refine Rn.ior (pc' := 57) dX11_foul_56 rfl ?_
  refine Rn.istore_n (pc' := 58) (L' := [(3, .int (s0 ||| s1)), (0, .ref x0), (2, .int x2), (4, .int x4)]) dX11_foul_57 rfl (by decide) rfl rfl ?_
  refine Rn.iinc (pc' := 61) (v := (x4 + (1 : Int32))) (L' := [(4, .int (x4 + (1 : Int32))), (3, .int (s0 ||| s1)), (0, .ref x0), (2, .int x2)]) dX11_foul_58 3 rfl rfl (by decide) rfl rfl ?_
  refine Rn.goto (pc' := 21) dX11_foul_61 (by decide) ?_
  refine Rn.sub [2, 3, 1, 0] rfl ?_
  exact hk21 _ _ _ _ _ _ E
def f_Model_foul_b55  (k21 : Hp → Nat → Int32 → Int32 → Int32 → Option (Int32 × Hp)) (h : Hp) (x0 : Nat) (x2 : Int32) (x4 : Int32) (s0 : Int32) : Option (Int32 × Hp) :=
f_Model_foul_b56  k21 h x0 x2 x4 s0 (0 : Int32)

set_option maxRecDepth 20000 in
set_option maxHeartbeats 4000000 in
theorem f_Model_foul_b55_ok {l : Launch} {X : Nat × (Nat → Int32)} (hst : l.stackTraces = false) {d : Nat} (hd : 2 ≤ d)   {k21 : Hp → Nat → Int32 → Int32 → Int32 → Option (Int32 × Hp)} (hk21 : ∀ (h : Hp) (x0 : Nat) (x2 : Int32) (x3 : Int32) (x4 : Int32)  (r : Int32 × Hp), k21 h x0 x2 x3 x4 = some r → Rn l X mX11_foul d 21 [(0, .ref x0), (2, .int x2), (3, .int x3), (4, .int x4)] [] h (eI r) r.2) {h : Hp} {x0 : Nat} {x2 : Int32} {x4 : Int32} {s0 : Int32} {r : Int32 × Hp} (E : f_Model_foul_b55  k21 h x0 x2 x4 s0 = some r) : Rn l X mX11_foul d 55 [(0, .ref x0), (2, .int x2), (4, .int x4)] [.int s0] h (eI r) r.2 := by
  unfold f_Model_foul_b55 at E
  refine Rn.iconst (pc' := 56) (v := (0 : Int32)) (hv := by decide) dX11_foul_55 rfl ?_
  exact f_Model_foul_b56_ok hst hd  hk21 E
def f_Model_foul_b21  (k21 : Hp → Nat → Int32 → Int32 → Int32 → Option (Int32 × Hp)) (h : Hp) (x0 : Nat) (x2 : Int32) (x3 : Int32) (x4 : Int32)  : Option (Int32 × Hp) :=
if (30 : Int32) ≤ x4 then (
some (x3, h)

) else (
if hS h x0 = 11 then (
bI (f_Model_drinkers h x0 x4) fun v3 h4 =>
if v3 = 0 then (
f_Model_foul_b55  k21 h4 x0 x2 x4 x3

) else (
if hS h4 x0 = 11 then (
bI (f_Model_drinkers h4 x0 x4) fun v8 h9 =>
if v8 = x2 then (
f_Model_foul_b56  k21 h9 x0 x2 x4 x3 (jshl (1 : Int32) x4)

) else (
f_Model_foul_b55  k21 h9 x0 x2 x4 x3

)
) else none
)
) else none
)

set_option maxRecDepth 20000 in
set_option maxHeartbeats 4000000 in
theorem f_Model_foul_b21_ok {l : Launch} {X : Nat × (Nat → Int32)} (hst : l.stackTraces = false) {d : Nat} (hd : 2 ≤ d)   {k21 : Hp → Nat → Int32 → Int32 → Int32 → Option (Int32 × Hp)} (hk21 : ∀ (h : Hp) (x0 : Nat) (x2 : Int32) (x3 : Int32) (x4 : Int32)  (r : Int32 × Hp), k21 h x0 x2 x3 x4 = some r → Rn l X mX11_foul d 21 [(0, .ref x0), (2, .int x2), (3, .int x3), (4, .int x4)] [] h (eI r) r.2) {h : Hp} {x0 : Nat} {x2 : Int32} {x3 : Int32} {x4 : Int32}  {r : Int32 × Hp} (E : f_Model_foul_b21  k21 h x0 x2 x3 x4 = some r) : Rn l X mX11_foul d 21 [(0, .ref x0), (2, .int x2), (3, .int x3), (4, .int x4)] [] h (eI r) r.2 := by
  unfold f_Model_foul_b21 at E
  refine Rn.iload (pc' := 23) dX11_foul_21 3 rfl rfl ?_
  refine Rn.bipush (pc' := 25) (v := (30 : Int32)) (hv := by decide) dX11_foul_23 rfl ?_
  refine Rn.icmp_ge (pc' := 28) (tgt := 64) dX11_foul_25 (by decide) rfl (fun c1 => ?_) (fun c1 => ?_)
  · replace E := (if_of E).1 c1
    refine Rn.iload_n (pc' := 65) dX11_foul_64 rfl 2 rfl rfl ?_
    cases E
    exact Rn.zret rfl rfl dX11_foul_65
  · replace E := (if_of E).2 c1
    refine Rn.iload_n (pc' := 29) dX11_foul_28 rfl 2 rfl rfl ?_
    refine Rn.aload_n (pc' := 30) dX11_foul_29 rfl 0 rfl rfl ?_
    refine Rn.iload (pc' := 32) dX11_foul_30 3 rfl rfl ?_
    obtain ⟨g2, E⟩ := gd_of E
    obtain ⟨v3, h4, e5, E⟩ := bI_of E
    refine Rn.callV1 (pc' := 35) (As := [.int x4]) (rest := [.int x3]) (f_Model_drinkers_ok hst e5) (Nat.le_trans (by decide) hd) rfl kb_X11_344 ki_X11_drinkers rfl g2 rfl rfl (Nat.le_of_ble_eq_true rfl) dX11_foul_32 rfl rfl ?_
    refine Rn.if_eq (pc' := 38) (tgt := 55) dX11_foul_35 (by decide) rfl (fun c6 => ?_) (fun c6 => ?_)
    · replace E := (if_of E).1 c6
      refine Rn.sub [0, 1, 3] rfl ?_
      exact f_Model_foul_b55_ok hst hd  hk21 E
    · replace E := (if_of E).2 c6
      refine Rn.aload_n (pc' := 39) dX11_foul_38 rfl 0 rfl rfl ?_
      refine Rn.iload (pc' := 41) dX11_foul_39 3 rfl rfl ?_
      obtain ⟨g7, E⟩ := gd_of E
      obtain ⟨v8, h9, e10, E⟩ := bI_of E
      refine Rn.callV1 (pc' := 44) (As := [.int x4]) (rest := [.int x3]) (f_Model_drinkers_ok hst e10) (Nat.le_trans (by decide) hd) rfl kb_X11_344 ki_X11_drinkers rfl g7 rfl rfl (Nat.le_of_ble_eq_true rfl) dX11_foul_41 rfl rfl ?_
      refine Rn.iload_n (pc' := 45) dX11_foul_44 rfl 1 rfl rfl ?_
      refine Rn.icmp_ne (pc' := 48) (tgt := 55) dX11_foul_45 (by decide) rfl (fun c11 => ?_) (fun c11 => ?_)
      · replace E := (if_of E).2 c11
        refine Rn.sub [0, 1, 3] rfl ?_
        exact f_Model_foul_b55_ok hst hd  hk21 E
      · replace E := (if_of E).1 c11
        refine Rn.iconst (pc' := 49) (v := (1 : Int32)) (hv := by decide) dX11_foul_48 rfl ?_
        refine Rn.iload (pc' := 51) dX11_foul_49 3 rfl rfl ?_
        refine Rn.ishl (pc' := 52) dX11_foul_51 rfl ?_
        refine Rn.goto (pc' := 56) dX11_foul_52 (by decide) ?_
        refine Rn.sub [0, 1, 3] rfl ?_
        exact f_Model_foul_b56_ok hst hd  hk21 E
def f_Model_foul_L21   (n : Nat) : Hp → Nat → Int32 → Int32 → Int32 → Option (Int32 × Hp) := Nat.rec (motive := fun _ => Hp → Nat → Int32 → Int32 → Int32 → Option (Int32 × Hp)) (fun _ _ _ _ _ => none) (fun _ rec => f_Model_foul_b21   rec) n
theorem f_Model_foul_L21_ok {l : Launch} {X : Nat × (Nat → Int32)} (hst : l.stackTraces = false) {d : Nat} (hd : 2 ≤ d)     : ∀ (n : Nat) (h : Hp) (x0 : Nat) (x2 : Int32) (x3 : Int32) (x4 : Int32)  (r : Int32 × Hp), f_Model_foul_L21   n h x0 x2 x3 x4 = some r → Rn l X mX11_foul d 21 [(0, .ref x0), (2, .int x2), (3, .int x3), (4, .int x4)] [] h (eI r) r.2 := by
  intro n
  induction n with
  | zero => intro h x0 x2 x3 x4 r E; cases E
  | succ n ih => intro h x0 x2 x3 x4 r E; exact f_Model_foul_b21_ok hst hd   ih E
def f_Model_foul_b0   (h : Hp) (x0 : Nat) (x1 : Int32)  : Option (Int32 × Hp) :=
if hS h x0 = 11 then (
wr (sI h x0 0 (0 : Int32)) fun h2 =>
bI (f_Model_houses h2 x0) fun v4 h5 =>
f_Model_foul_L21   FU h5 x0 (x1 &&& ((jshl (1 : Int32) v4) - (1 : Int32))) (0 : Int32) (0 : Int32)
) else none
set_option maxRecDepth 20000 in
set_option maxHeartbeats 4000000 in
theorem f_Model_foul_b0_ok {l : Launch} {X : Nat × (Nat → Int32)} (hst : l.stackTraces = false) {d : Nat} (hd : 2 ≤ d)     {h : Hp} {x0 : Nat} {x1 : Int32}  {r : Int32 × Hp} (E : f_Model_foul_b0   h x0 x1 = some r) : Rn l X mX11_foul d 0 [(0, .ref x0), (1, .int x1)] [] h (eI r) r.2 := by
  unfold f_Model_foul_b0 at E
  refine Rn.aload_n (pc' := 1) dX11_foul_0 rfl 0 rfl rfl ?_
  refine Rn.iconst (pc' := 2) (v := (0 : Int32)) (hv := by decide) dX11_foul_1 rfl ?_
  obtain ⟨g1, E⟩ := gd_of E
  refine Rn.putI (pc' := 5) fl_X11_3_10 (fun q hq => by cases hq; decide) g1 rfl rfl rfl dX11_foul_2 rfl ?_
  replace E := wr_of E
  generalize eh3 : sI h x0 0 (0 : Int32) = h2 at E ⊢
  refine Rn.iload_n (pc' := 6) dX11_foul_5 rfl 1 rfl rfl ?_
  refine Rn.iconst (pc' := 7) (v := (1 : Int32)) (hv := by decide) dX11_foul_6 rfl ?_
  refine Rn.aload_n (pc' := 8) dX11_foul_7 rfl 0 rfl rfl ?_
  obtain ⟨v4, h5, e6, E⟩ := bI_of E
  refine Rn.callV1 (pc' := 11) (As := []) (rest := [.int (1 : Int32), .int x1]) (f_Model_houses_ok hst e6) (Nat.le_trans (by decide) hd) rfl kb_X11_60 ki_X11_houses rfl (kp_sI eh3 g1) rfl rfl (Nat.le_of_ble_eq_true rfl) dX11_foul_8 rfl rfl ?_
  refine Rn.ishl (pc' := 12) dX11_foul_11 rfl ?_
  refine Rn.iconst (pc' := 13) (v := (1 : Int32)) (hv := by decide) dX11_foul_12 rfl ?_
  refine Rn.isub (pc' := 14) dX11_foul_13 rfl ?_
  refine Rn.iand (pc' := 15) dX11_foul_14 rfl ?_
  refine Rn.istore_n (pc' := 16) (L' := [(2, .int (x1 &&& ((jshl (1 : Int32) v4) - (1 : Int32)))), (0, .ref x0), (1, .int x1)]) dX11_foul_15 rfl (by decide) rfl rfl ?_
  refine Rn.iconst (pc' := 17) (v := (0 : Int32)) (hv := by decide) dX11_foul_16 rfl ?_
  refine Rn.istore_n (pc' := 18) (L' := [(3, .int (0 : Int32)), (2, .int (x1 &&& ((jshl (1 : Int32) v4) - (1 : Int32)))), (0, .ref x0), (1, .int x1)]) dX11_foul_17 rfl (by decide) rfl rfl ?_
  refine Rn.iconst (pc' := 19) (v := (0 : Int32)) (hv := by decide) dX11_foul_18 rfl ?_
  refine Rn.istore (pc' := 21) (L' := [(4, .int (0 : Int32)), (3, .int (0 : Int32)), (2, .int (x1 &&& ((jshl (1 : Int32) v4) - (1 : Int32)))), (0, .ref x0), (1, .int x1)]) dX11_foul_19 (by decide) rfl rfl ?_
  refine Rn.sub [3, 2, 1, 0] rfl ?_
  exact f_Model_foul_L21_ok hst hd   FU _ _ _ _ _ _ E
def f_Model_foul (h : Hp) (x0 : Nat) (x1 : Int32) : Option (Int32 × Hp) := f_Model_foul_b0  h x0 x1
theorem f_Model_foul_ok {l : Launch} {X : Nat × (Nat → Int32)} (hst : l.stackTraces = false) {h : Hp} {x0 : Nat} {x1 : Int32} {r : Int32 × Hp} (E : f_Model_foul h x0 x1 = some r) : MC l X yX11_foul mX11_foul 2 [.ref x0, .int x1] h (eI r) r.2 :=
  MC.body (by decide +kernel) rfl (by decide) hst (Nat.le_of_ble_eq_true rfl) (f_Model_foul_b0_ok hst (Nat.le_refl _) E)
abbrev mX10_swap : MI := (RX10, cX10_swap, 9, (some Jvm.ClassFile.FieldType.int), [], false)
theorem ws_X10_swap : ∀ w ∈ wsM yX10_swap mX10_swap, w ∈ gw := List.forall_mem_cons.mpr ⟨gw_at 1308 (by decide +kernel) (by decide +kernel), fun _ h => h⟩
def f_Water_swap_b37   (h : Hp)   : Option ((Int32 ⊕ Nat) × Hp) :=
some (.inr 2, hA h 0 0 6)

set_option maxRecDepth 20000 in
set_option maxHeartbeats 4000000 in
theorem f_Water_swap_b37_ok {l : Launch} {X : Nat × (Nat → Int32)} (hst : l.stackTraces = false) {d : Nat} (hd : 2 ≤ d)     {h : Hp}   {r : (Int32 ⊕ Nat) × Hp} (E : f_Water_swap_b37   h  = some r) : Rn l X mX10_swap d 37 [] [] h (xI r) r.2 := by
  unfold f_Water_swap_b37 at E
  cases E
  exact Rn.throwSW (x := 2) (i := 13) kt_X10_88_92 rfl rfl dX10_swap_37 dX10_swap_40 dX10_swap_41 dX10_swap_44 dX10_swap_47 (Nat.le_of_ble_eq_true rfl)
theorem fl_X10_163_0 : FL RX10 163 0 6 := ⟨_, rfl, by decide, "VintageWater$Cistern", gw_at 288 (by decide +kernel) (by decide +kernel), Or.inl rfl⟩
theorem kb_X10_273 : KB RX10 273 yX0_take mX0_take 2 := ⟨gw_at 1310 (by decide +kernel) (by decide +kernel), gw_at 114 (by decide +kernel) (by decide +kernel), trivial, ws_X0_take, by decide +kernel, by decide +kernel, by decide +kernel, by decide⟩
theorem kb_X10_276 : KB RX10 276 yX0_put mX0_put 2 := ⟨gw_at 1311 (by decide +kernel) (by decide +kernel), gw_at 114 (by decide +kernel) (by decide +kernel), trivial, ws_X0_put, by decide +kernel, by decide +kernel, by decide +kernel, by decide⟩
def f_Water_swap_b0   (h : Hp) (x0 : Nat) (x1 : Int32) (x2 : Int32) (x3 : Int32) (x4 : Int32) (x5 : Int32)  : Option ((Int32 ⊕ Nat) × Hp) :=
if hS h x0 = 10 then (
bX (f_Water_needCistern h x0 x1) fun _ h3 =>
if hS h3 x0 = 10 then (
bX (f_Water_needYear h3 x0 x2) fun _ h7 =>
if hS h7 x0 = 10 then (
bX (f_Water_needCistern h7 x0 x3) fun _ h11 =>
if hS h11 x0 = 10 then (
bX (f_Water_needYear h11 x0 x4) fun _ h15 =>
if x1 = x3 then (
f_Water_swap_b37   h15

) else (
if x2 = x4 then (
f_Water_swap_b37   h15

) else (
if 0 ≤ x5 then (
if hS h15 x0 = 10 then (
if hS h15 (hR h15 x0 4) = 4 then (
if hS h15 (hR h15 (hR h15 x0 4) 3) = 23 then (
if ib x1 (hL h15 (hR h15 (hR h15 x0 4) 3)) = true then (
if ib x3 (hL h15 (hR h15 (hR h15 x0 4) 3)) = true then (
if hS h15 (hR h15 (hR h15 (hR h15 x0 4) 3) (ix x1)) = 1 then (
if hS h15 (hR h15 (hR h15 (hR h15 (hR h15 x0 4) 3) (ix x1)) 6) = 20 then (
if ib x2 (hL h15 (hR h15 (hR h15 (hR h15 (hR h15 x0 4) 3) (ix x1)) 6)) = true then (
if hS h15 (hR h15 (hR h15 (hR h15 x0 4) 3) (ix x3)) = 1 then (
if hS h15 (hR h15 (hR h15 (hR h15 (hR h15 x0 4) 3) (ix x3)) 6) = 20 then (
if ib x4 (hL h15 (hR h15 (hR h15 (hR h15 (hR h15 x0 4) 3) (ix x3)) 6)) = true then (
bI (f_Math_min h15 (hI h15 (hR h15 (hR h15 (hR h15 (hR h15 x0 4) 3) (ix x1)) 6) (ix x2)) (hI h15 (hR h15 (hR h15 (hR h15 (hR h15 x0 4) 3) (ix x3)) 6) (ix x4))) fun v31 h32 =>
bI (f_Math_min h32 x5 v31) fun v34 h35 =>
if hS h35 (hR h15 (hR h15 (hR h15 x0 4) 3) (ix x1)) = 1 then (
bV (f_Cistern_take h35 (hR h15 (hR h15 (hR h15 x0 4) 3) (ix x1)) x2 v34) fun h39 =>
if hS h39 (hR h15 (hR h15 (hR h15 x0 4) 3) (ix x3)) = 1 then (
bV (f_Cistern_take h39 (hR h15 (hR h15 (hR h15 x0 4) 3) (ix x3)) x4 v34) fun h43 =>
if hS h43 (hR h15 (hR h15 (hR h15 x0 4) 3) (ix x1)) = 1 then (
bV (f_Cistern_put h43 (hR h15 (hR h15 (hR h15 x0 4) 3) (ix x1)) x4 v34) fun h47 =>
if hS h47 (hR h15 (hR h15 (hR h15 x0 4) 3) (ix x3)) = 1 then (
bV (f_Cistern_put h47 (hR h15 (hR h15 (hR h15 x0 4) 3) (ix x3)) x2 v34) fun h51 =>
some (.inl v34, h51)
) else none) else none) else none) else none) else none) else none) else none) else none) else none) else none) else none) else none) else none) else none) else none
) else (
f_Water_swap_b37   h15

)

)

)
) else none) else none) else none) else none
set_option maxRecDepth 20000 in
set_option maxHeartbeats 4000000 in
theorem f_Water_swap_b0_ok {l : Launch} {X : Nat × (Nat → Int32)} (hst : l.stackTraces = false) {d : Nat} (hd : 2 ≤ d)     {h : Hp} {x0 : Nat} {x1 : Int32} {x2 : Int32} {x3 : Int32} {x4 : Int32} {x5 : Int32}  {r : (Int32 ⊕ Nat) × Hp} (E : f_Water_swap_b0   h x0 x1 x2 x3 x4 x5 = some r) : Rn l X mX10_swap d 0 [(0, .ref x0), (1, .int x1), (2, .int x2), (3, .int x3), (4, .int x4), (5, .int x5)] [] h (xI r) r.2 := by
  unfold f_Water_swap_b0 at E
  refine Rn.aload_n (pc' := 1) dX10_swap_0 rfl 0 rfl rfl ?_
  refine Rn.iload_n (pc' := 2) dX10_swap_1 rfl 1 rfl rfl ?_
  obtain ⟨g1, E⟩ := gd_of E
  rcases bX_of E with ⟨u_, h3, e4, E⟩ | ⟨x_, h3, e4, rfl⟩
  rotate_left
  · exact Rn.callVX (As := [.int x1]) (rest := []) (f_Water_needCistern_ok hst e4) (Nat.le_trans (by decide) hd) rfl kb_X10_123 ki_X10_needCistern rfl g1 rfl rfl (Nat.le_of_ble_eq_true rfl) dX10_swap_2 (RnX.out (by decide))
  refine Rn.callV1 (pc' := 5) (As := [.int x1]) (rest := []) (f_Water_needCistern_ok hst e4) (Nat.le_trans (by decide) hd) rfl kb_X10_123 ki_X10_needCistern rfl g1 rfl rfl (Nat.le_of_ble_eq_true rfl) dX10_swap_2 rfl rfl ?_
  refine Rn.aload_n (pc' := 6) dX10_swap_5 rfl 0 rfl rfl ?_
  refine Rn.iload_n (pc' := 7) dX10_swap_6 rfl 2 rfl rfl ?_
  obtain ⟨g5, E⟩ := gd_of E
  rcases bX_of E with ⟨u_, h7, e8, E⟩ | ⟨x_, h7, e8, rfl⟩
  rotate_left
  · exact Rn.callVX (As := [.int x2]) (rest := []) (f_Water_needYear_ok hst e8) (Nat.le_trans (by decide) hd) rfl kb_X10_160 ki_X10_needYear rfl g5 rfl rfl (Nat.le_of_ble_eq_true rfl) dX10_swap_7 (RnX.out (by decide))
  refine Rn.callV1 (pc' := 10) (As := [.int x2]) (rest := []) (f_Water_needYear_ok hst e8) (Nat.le_trans (by decide) hd) rfl kb_X10_160 ki_X10_needYear rfl g5 rfl rfl (Nat.le_of_ble_eq_true rfl) dX10_swap_7 rfl rfl ?_
  refine Rn.aload_n (pc' := 11) dX10_swap_10 rfl 0 rfl rfl ?_
  refine Rn.iload_n (pc' := 12) dX10_swap_11 rfl 3 rfl rfl ?_
  obtain ⟨g9, E⟩ := gd_of E
  rcases bX_of E with ⟨u_, h11, e12, E⟩ | ⟨x_, h11, e12, rfl⟩
  rotate_left
  · exact Rn.callVX (As := [.int x3]) (rest := []) (f_Water_needCistern_ok hst e12) (Nat.le_trans (by decide) hd) rfl kb_X10_123 ki_X10_needCistern rfl g9 rfl rfl (Nat.le_of_ble_eq_true rfl) dX10_swap_12 (RnX.out (by decide))
  refine Rn.callV1 (pc' := 15) (As := [.int x3]) (rest := []) (f_Water_needCistern_ok hst e12) (Nat.le_trans (by decide) hd) rfl kb_X10_123 ki_X10_needCistern rfl g9 rfl rfl (Nat.le_of_ble_eq_true rfl) dX10_swap_12 rfl rfl ?_
  refine Rn.aload_n (pc' := 16) dX10_swap_15 rfl 0 rfl rfl ?_
  refine Rn.iload (pc' := 18) dX10_swap_16 4 rfl rfl ?_
  obtain ⟨g13, E⟩ := gd_of E
  rcases bX_of E with ⟨u_, h15, e16, E⟩ | ⟨x_, h15, e16, rfl⟩
  rotate_left
  · exact Rn.callVX (As := [.int x4]) (rest := []) (f_Water_needYear_ok hst e16) (Nat.le_trans (by decide) hd) rfl kb_X10_160 ki_X10_needYear rfl g13 rfl rfl (Nat.le_of_ble_eq_true rfl) dX10_swap_18 (RnX.out (by decide))
  refine Rn.callV1 (pc' := 21) (As := [.int x4]) (rest := []) (f_Water_needYear_ok hst e16) (Nat.le_trans (by decide) hd) rfl kb_X10_160 ki_X10_needYear rfl g13 rfl rfl (Nat.le_of_ble_eq_true rfl) dX10_swap_18 rfl rfl ?_
  refine Rn.iload_n (pc' := 22) dX10_swap_21 rfl 1 rfl rfl ?_
  refine Rn.iload_n (pc' := 23) dX10_swap_22 rfl 3 rfl rfl ?_
  refine Rn.icmp_eq (pc' := 26) (tgt := 37) dX10_swap_23 (by decide) rfl (fun c17 => ?_) (fun c17 => ?_)
  · replace E := (if_of E).1 c17
    refine Rn.sub [] rfl ?_
    exact f_Water_swap_b37_ok hst hd   E
  · replace E := (if_of E).2 c17
    refine Rn.iload_n (pc' := 27) dX10_swap_26 rfl 2 rfl rfl ?_
    refine Rn.iload (pc' := 29) dX10_swap_27 4 rfl rfl ?_
    refine Rn.icmp_eq (pc' := 32) (tgt := 37) dX10_swap_29 (by decide) rfl (fun c18 => ?_) (fun c18 => ?_)
    · replace E := (if_of E).1 c18
      refine Rn.sub [] rfl ?_
      exact f_Water_swap_b37_ok hst hd   E
    · replace E := (if_of E).2 c18
      refine Rn.iload (pc' := 34) dX10_swap_32 5 rfl rfl ?_
      refine Rn.if_ge (pc' := 37) (tgt := 48) dX10_swap_34 (by decide) rfl (fun c19 => ?_) (fun c19 => ?_)
      · replace E := (if_of E).1 c19
        refine Rn.aload_n (pc' := 49) dX10_swap_48 rfl 0 rfl rfl ?_
        obtain ⟨g20, E⟩ := gd_of E
        refine Rn.getR (pc' := 52) fl_X10_42_9 g20 rfl dX10_swap_49 rfl ?_
        obtain ⟨g21, E⟩ := gd_of E
        refine Rn.getR (pc' := 55) fl_X10_126_3 g21 rfl dX10_swap_52 rfl ?_
        refine Rn.iload_n (pc' := 56) dX10_swap_55 rfl 1 rfl rfl ?_
        obtain ⟨g22, E⟩ := gd_of E
        obtain ⟨g23, E⟩ := gd_of E
        refine Rn.aald (pc' := 57) g22 (by decide) (by decide) g23 dX10_swap_56 rfl ?_
        refine Rn.astore (pc' := 59) (L' := [(6, .ref (hR h15 (hR h15 (hR h15 x0 4) 3) (ix x1))), (0, .ref x0), (1, .int x1), (2, .int x2), (3, .int x3), (4, .int x4), (5, .int x5)]) dX10_swap_57 (by decide) rfl rfl ?_
        refine Rn.aload_n (pc' := 60) dX10_swap_59 rfl 1 rfl rfl ?_
        refine Rn.getR (pc' := 63) fl_X10_42_9 g20 rfl dX10_swap_60 rfl ?_
        refine Rn.getR (pc' := 66) fl_X10_126_3 g21 rfl dX10_swap_63 rfl ?_
        refine Rn.iload_n (pc' := 67) dX10_swap_66 rfl 4 rfl rfl ?_
        obtain ⟨g24, E⟩ := gd_of E
        refine Rn.aald (pc' := 68) g22 (by decide) (by decide) g24 dX10_swap_67 rfl ?_
        refine Rn.astore (pc' := 70) (L' := [(7, .ref (hR h15 (hR h15 (hR h15 x0 4) 3) (ix x3))), (6, .ref (hR h15 (hR h15 (hR h15 x0 4) 3) (ix x1))), (0, .ref x0), (1, .int x1), (2, .int x2), (3, .int x3), (4, .int x4), (5, .int x5)]) dX10_swap_68 (by decide) rfl rfl ?_
        refine Rn.iload (pc' := 72) dX10_swap_70 7 rfl rfl ?_
        refine Rn.aload (pc' := 74) dX10_swap_72 1 rfl rfl ?_
        obtain ⟨g25, E⟩ := gd_of E
        refine Rn.getR (pc' := 77) fl_X10_163_0 g25 rfl dX10_swap_74 rfl ?_
        refine Rn.iload_n (pc' := 78) dX10_swap_77 rfl 4 rfl rfl ?_
        obtain ⟨g26, E⟩ := gd_of E
        obtain ⟨g27, E⟩ := gd_of E
        refine Rn.iald (pc' := 79) g26 g27 dX10_swap_78 rfl ?_
        refine Rn.aload (pc' := 81) dX10_swap_79 0 rfl rfl ?_
        obtain ⟨g28, E⟩ := gd_of E
        refine Rn.getR (pc' := 84) fl_X10_163_0 g28 rfl dX10_swap_81 rfl ?_
        refine Rn.iload (pc' := 86) dX10_swap_84 6 rfl rfl ?_
        obtain ⟨g29, E⟩ := gd_of E
        obtain ⟨g30, E⟩ := gd_of E
        refine Rn.iald (pc' := 87) g29 g30 dX10_swap_86 rfl ?_
        obtain ⟨v31, h32, e33, E⟩ := bI_of E
        refine Rn.callS1 (pc' := 90) (As := [.int (hI h15 (hR h15 (hR h15 (hR h15 (hR h15 x0 4) 3) (ix x1)) 6) (ix x2)), .int (hI h15 (hR h15 (hR h15 (hR h15 (hR h15 x0 4) 3) (ix x3)) 6) (ix x4))]) (rest := [.int x5]) (f_Math_min_ok hst e33) (Nat.le_trans (by decide) hd) rfl kb_X10_267 ks_J9_min_7cf53 rfl rfl (Nat.le_of_ble_eq_true rfl) dX10_swap_87 rfl rfl ?_
        obtain ⟨v34, h35, e36, E⟩ := bI_of E
        refine Rn.callS1 (pc' := 93) (As := [.int x5, .int v31]) (rest := []) (f_Math_min_ok hst e36) (Nat.le_trans (by decide) hd) rfl kb_X10_267 ks_J9_min_7cf53 rfl rfl (Nat.le_of_ble_eq_true rfl) dX10_swap_90 rfl rfl ?_
        refine Rn.istore (pc' := 95) (L' := [(8, .int v34), (7, .ref (hR h15 (hR h15 (hR h15 x0 4) 3) (ix x3))), (6, .ref (hR h15 (hR h15 (hR h15 x0 4) 3) (ix x1))), (0, .ref x0), (1, .int x1), (2, .int x2), (3, .int x3), (4, .int x4), (5, .int x5)]) dX10_swap_93 (by decide) rfl rfl ?_
        refine Rn.aload (pc' := 97) dX10_swap_95 2 rfl rfl ?_
        refine Rn.iload_n (pc' := 98) dX10_swap_97 rfl 5 rfl rfl ?_
        refine Rn.iload (pc' := 100) dX10_swap_98 0 rfl rfl ?_
        obtain ⟨g37, E⟩ := gd_of E
        obtain ⟨h39, e40, E⟩ := bV_of E
        refine Rn.callV1 (pc' := 103) (As := [.int x2, .int v34]) (rest := []) (f_Cistern_take_ok hst e40) (Nat.le_trans (by decide) hd) rfl kb_X10_273 ki_X0_take rfl g37 rfl rfl (Nat.le_of_ble_eq_true rfl) dX10_swap_100 rfl rfl ?_
        refine Rn.aload (pc' := 105) dX10_swap_103 1 rfl rfl ?_
        refine Rn.iload (pc' := 107) dX10_swap_105 7 rfl rfl ?_
        refine Rn.iload (pc' := 109) dX10_swap_107 0 rfl rfl ?_
        obtain ⟨g41, E⟩ := gd_of E
        obtain ⟨h43, e44, E⟩ := bV_of E
        refine Rn.callV1 (pc' := 112) (As := [.int x4, .int v34]) (rest := []) (f_Cistern_take_ok hst e44) (Nat.le_trans (by decide) hd) rfl kb_X10_273 ki_X0_take rfl g41 rfl rfl (Nat.le_of_ble_eq_true rfl) dX10_swap_109 rfl rfl ?_
        refine Rn.aload (pc' := 114) dX10_swap_112 2 rfl rfl ?_
        refine Rn.iload (pc' := 116) dX10_swap_114 7 rfl rfl ?_
        refine Rn.iload (pc' := 118) dX10_swap_116 0 rfl rfl ?_
        obtain ⟨g45, E⟩ := gd_of E
        obtain ⟨h47, e48, E⟩ := bV_of E
        refine Rn.callV1 (pc' := 121) (As := [.int x4, .int v34]) (rest := []) (f_Cistern_put_ok hst e48) (Nat.le_trans (by decide) hd) rfl kb_X10_276 ki_X0_put rfl g45 rfl rfl (Nat.le_of_ble_eq_true rfl) dX10_swap_118 rfl rfl ?_
        refine Rn.aload (pc' := 123) dX10_swap_121 1 rfl rfl ?_
        refine Rn.iload_n (pc' := 124) dX10_swap_123 rfl 5 rfl rfl ?_
        refine Rn.iload (pc' := 126) dX10_swap_124 0 rfl rfl ?_
        obtain ⟨g49, E⟩ := gd_of E
        obtain ⟨h51, e52, E⟩ := bV_of E
        refine Rn.callV1 (pc' := 129) (As := [.int x2, .int v34]) (rest := []) (f_Cistern_put_ok hst e52) (Nat.le_trans (by decide) hd) rfl kb_X10_276 ki_X0_put rfl g49 rfl rfl (Nat.le_of_ble_eq_true rfl) dX10_swap_126 rfl rfl ?_
        refine Rn.iload (pc' := 131) dX10_swap_129 0 rfl rfl ?_
        cases E
        exact Rn.zret rfl rfl dX10_swap_131
      · replace E := (if_of E).2 c19
        refine Rn.sub [] rfl ?_
        exact f_Water_swap_b37_ok hst hd   E
def f_Water_swap (h : Hp) (x0 : Nat) (x1 : Int32) (x2 : Int32) (x3 : Int32) (x4 : Int32) (x5 : Int32) : Option ((Int32 ⊕ Nat) × Hp) := f_Water_swap_b0  h x0 x1 x2 x3 x4 x5
theorem f_Water_swap_ok {l : Launch} {X : Nat × (Nat → Int32)} (hst : l.stackTraces = false) {h : Hp} {x0 : Nat} {x1 : Int32} {x2 : Int32} {x3 : Int32} {x4 : Int32} {x5 : Int32} {r : (Int32 ⊕ Nat) × Hp} (E : f_Water_swap h x0 x1 x2 x3 x4 x5 = some r) : MC l X yX10_swap mX10_swap 2 [.ref x0, .int x1, .int x2, .int x3, .int x4, .int x5] h (xI r) r.2 :=
  MC.body (by decide +kernel) rfl (by decide) hst (Nat.le_of_ble_eq_true rfl) (f_Water_swap_b0_ok hst (Nat.le_refl _) E)
abbrev mL_swap : MI := (RL, cL_swap, 8, (some Jvm.ClassFile.FieldType.int), [(0, 16, 19, 24), (0, 16, 23, 13)], false)
theorem ws_L_swap : ∀ w ∈ wsM yL_swap mL_swap, w ∈ gw := List.forall_mem_cons.mpr ⟨gw_at 1304 (by decide +kernel) (by decide +kernel), fun _ h => h⟩
theorem kb_L_67 : KB RL 67 yX10_swap mX10_swap 5 := ⟨gw_at 1305 (by decide +kernel) (by decide +kernel), gw_at 107 (by decide +kernel) (by decide +kernel), trivial, ws_X10_swap, by decide +kernel, by decide +kernel, by decide +kernel, by decide⟩
theorem ki_X10_swap : Cond.instanceMethod yX10_swap ∈ gw ∧ Cond.selects yX10_swap.cls yX10_swap yX10_swap ∈ gw := ⟨gw_at 1306 (by decide +kernel) (by decide +kernel), gw_at 1307 (by decide +kernel) (by decide +kernel)⟩
def f_Lw_swap_b0   (h : Hp) (x0 : Nat) (x1 : Int32) (x2 : Int32) (x3 : Int32) (x4 : Int32) (x5 : Int32) (x6 : Nat)  : Option (Int32 × Hp) :=
if hS h x0 = 10 then (
bC (f_Water_swap h x0 x1 x2 x3 x4 x5) (fun v2 h3 =>
if hS h3 x6 = 22 then (
if ib (0 : Int32) (hL h3 x6) = true then (
wr (sJ h3 x6 (ix (0 : Int32)) (Int32.toInt64 v2)) fun h7 =>
some ((0 : Int32), h7)
) else none) else none
) (fun x_ h3 =>
if x_ = 1 then (
some ((1 : Int32), h3)

) else (
if x_ = 2 then (
some ((2 : Int32), h3)

) else (
none)))
) else none
set_option maxRecDepth 20000 in
set_option maxHeartbeats 4000000 in
theorem f_Lw_swap_b0_ok {l : Launch} {X : Nat × (Nat → Int32)} (hst : l.stackTraces = false) {d : Nat} (hd : 3 ≤ d)     {h : Hp} {x0 : Nat} {x1 : Int32} {x2 : Int32} {x3 : Int32} {x4 : Int32} {x5 : Int32} {x6 : Nat}  {r : Int32 × Hp} (E : f_Lw_swap_b0   h x0 x1 x2 x3 x4 x5 x6 = some r) : Rn l X mL_swap d 0 [(0, .ref x0), (1, .int x1), (2, .int x2), (3, .int x3), (4, .int x4), (5, .int x5), (6, .ref x6)] [] h (eI r) r.2 := by
  unfold f_Lw_swap_b0 at E
  refine Rn.aload (pc' := 2) dL_swap_0 6 rfl rfl ?_
  refine Rn.iconst (pc' := 3) (v := (0 : Int32)) (hv := by decide) dL_swap_2 rfl ?_
  refine Rn.aload_n (pc' := 4) dL_swap_3 rfl 0 rfl rfl ?_
  refine Rn.iload_n (pc' := 5) dL_swap_4 rfl 1 rfl rfl ?_
  refine Rn.iload_n (pc' := 6) dL_swap_5 rfl 2 rfl rfl ?_
  refine Rn.iload_n (pc' := 7) dL_swap_6 rfl 3 rfl rfl ?_
  refine Rn.iload (pc' := 9) dL_swap_7 4 rfl rfl ?_
  refine Rn.iload (pc' := 11) dL_swap_9 5 rfl rfl ?_
  obtain ⟨g1, E⟩ := gd_of E
  rcases bC_of E with ⟨v2, h3, e4, E⟩ | ⟨x_, h3, e4, E⟩
  · refine Rn.callV1 (pc' := 14) (As := [.int x1, .int x2, .int x3, .int x4, .int x5]) (rest := [.int (0 : Int32), .ref x6]) (f_Water_swap_ok hst e4) (Nat.le_trans (by decide) hd) rfl kb_L_67 ki_X10_swap rfl g1 rfl rfl (Nat.le_of_ble_eq_true rfl) dL_swap_11 rfl rfl ?_
    refine Rn.i2l (pc' := 15) dL_swap_14 rfl ?_
    obtain ⟨g5, E⟩ := gd_of E
    obtain ⟨g6, E⟩ := gd_of E
    refine Rn.last (pc' := 16) g5 g6 dL_swap_15 rfl ?_
    replace E := wr_of E
    generalize eh8 : sJ h3 x6 (ix (0 : Int32)) (Int32.toInt64 v2) = h7 at E ⊢
    refine Rn.goto (pc' := 27) dL_swap_16 (by decide) ?_
    refine Rn.iconst (pc' := 28) (v := (0 : Int32)) (hv := by decide) dL_swap_27 rfl ?_
    cases E
    exact Rn.zret rfl rfl dL_swap_28
  · refine Rn.callVX (As := [.int x1, .int x2, .int x3, .int x4, .int x5]) (rest := [.int (0 : Int32), .ref x6]) (f_Water_swap_ok hst e4) (Nat.le_trans (by decide) hd) rfl kb_L_67 ki_X10_swap rfl g1 rfl rfl (Nat.le_of_ble_eq_true rfl) dL_swap_11 ?_
    by_cases c9 : x_ = 1
    · replace E := (if_of E).1 c9
      subst c9
      refine RnX.catch (x := 1) (i := 7) (pch := 21) 0 rfl (pre0) (by decide) (by decide) kk_L_24 (by decide) (Or.inr ⟨dL_swap_19, rfl⟩) (by decide) ?_
      change Rn _ _ _ _ _ [(0, .ref x0), (1, .int x1), (2, .int x2), (3, .int x3), (4, .int x4), (5, .int x5), (6, .ref x6)] _ _ _ _
      refine Rn.iconst (pc' := 22) (v := (1 : Int32)) (hv := by decide) dL_swap_21 rfl ?_
      cases E
      exact Rn.zret rfl rfl dL_swap_22
    replace E := (if_of E).2 c9
    by_cases c10 : x_ = 2
    · replace E := (if_of E).1 c10
      subst c10
      refine RnX.catch (x := 2) (i := 7) (pch := 25) 1 rfl (pre1 (Or.inr ⟨by decide, _, kk_L_24, by decide⟩)) (by decide) (by decide) kk_L_13 (by decide) (Or.inr ⟨dL_swap_23, rfl⟩) (by decide) ?_
      change Rn _ _ _ _ _ [(0, .ref x0), (1, .int x1), (2, .int x2), (3, .int x3), (4, .int x4), (5, .int x5), (6, .ref x6)] _ _ _ _
      refine Rn.iconst (pc' := 26) (v := (2 : Int32)) (hv := by decide) dL_swap_25 rfl ?_
      cases E
      exact Rn.zret rfl rfl dL_swap_26
    replace E := (if_of E).2 c10
    cases E
def f_Lw_swap (h : Hp) (x0 : Nat) (x1 : Int32) (x2 : Int32) (x3 : Int32) (x4 : Int32) (x5 : Int32) (x6 : Nat) : Option (Int32 × Hp) := f_Lw_swap_b0  h x0 x1 x2 x3 x4 x5 x6
theorem f_Lw_swap_ok {l : Launch} {X : Nat × (Nat → Int32)} (hst : l.stackTraces = false) {h : Hp} {x0 : Nat} {x1 : Int32} {x2 : Int32} {x3 : Int32} {x4 : Int32} {x5 : Int32} {x6 : Nat} {r : Int32 × Hp} (E : f_Lw_swap h x0 x1 x2 x3 x4 x5 x6 = some r) : MC l X yL_swap mL_swap 3 [.ref x0, .int x1, .int x2, .int x3, .int x4, .int x5, .ref x6] h (eI r) r.2 :=
  MC.body (by decide +kernel) rfl (by decide) hst (Nat.le_of_ble_eq_true rfl) (f_Lw_swap_b0_ok hst (Nat.le_refl _) E)
abbrev mX11_swap : MI := (RX11, cX11_swap, 7, (some Jvm.ClassFile.FieldType.int), [], false)
theorem ws_X11_swap : ∀ w ∈ wsM yX11_swap mX11_swap, w ∈ gw := List.forall_mem_cons.mpr ⟨gw_at 1868 (by decide +kernel) (by decide +kernel), fun _ h => h⟩
def f_Model_swap_b71   (h : Hp) (x0 : Nat) (x1 : Int32) (x2 : Int32) (x3 : Int32) (x4 : Int32) (x5 : Int32) (s0 : Nat) (s1 : Int32) : Option (Int32 × Hp) :=
if hS h s0 = 11 then (
bI (f_Model_throwsIf h s0 s1 (2 : Int32)) fun v2 h3 =>
if v2 = 0 then (
if hS h3 x0 = 11 then (
bI (f_Model_layerOf h3 x0 x1 x2) fun v7 h8 =>
if hS h8 x0 = 11 then (
bI (f_Model_layerOf h8 x0 x3 x4) fun v11 h12 =>
bI (f_Math_min h12 v7 v11) fun v14 h15 =>
bI (f_Math_min h15 x5 v14) fun v17 h18 =>
if hS h18 x0 = 11 then (
bV (f_Model_adds h18 x0 x1 x2 (-v17)) fun h22 =>
if hS h22 x0 = 11 then (
bV (f_Model_adds h22 x0 x1 x4 v17) fun h26 =>
if hS h26 x0 = 11 then (
bV (f_Model_adds h26 x0 x3 x4 (-v17)) fun h30 =>
if hS h30 x0 = 11 then (
bV (f_Model_adds h30 x0 x3 x2 v17) fun h34 =>
some (v17, h34)
) else none) else none) else none) else none) else none) else none
) else (
some ((0 : Int32), h3)

)
) else none
set_option maxRecDepth 20000 in
set_option maxHeartbeats 4000000 in
theorem f_Model_swap_b71_ok {l : Launch} {X : Nat × (Nat → Int32)} (hst : l.stackTraces = false) {d : Nat} (hd : 2 ≤ d)     {h : Hp} {x0 : Nat} {x1 : Int32} {x2 : Int32} {x3 : Int32} {x4 : Int32} {x5 : Int32} {s0 : Nat} {s1 : Int32} {r : Int32 × Hp} (E : f_Model_swap_b71   h x0 x1 x2 x3 x4 x5 s0 s1 = some r) : Rn l X mX11_swap d 71 [(0, .ref x0), (1, .int x1), (2, .int x2), (3, .int x3), (4, .int x4), (5, .int x5)] [.int s1, .ref s0] h (eI r) r.2 := by
  unfold f_Model_swap_b71 at E
  refine Rn.iconst (pc' := 72) (v := (2 : Int32)) (hv := by decide) dX11_swap_71 rfl ?_
  obtain ⟨g1, E⟩ := gd_of E
  obtain ⟨v2, h3, e4, E⟩ := bI_of E
  refine Rn.callV1 (pc' := 75) (As := [.int s1, .int (2 : Int32)]) (rest := []) (f_Model_throwsIf_ok hst e4) (Nat.le_trans (by decide) hd) rfl kb_X11_265 ki_X11_throwsIf rfl g1 rfl rfl (Nat.le_of_ble_eq_true rfl) dX11_swap_72 rfl rfl ?_
  refine Rn.if_eq (pc' := 78) (tgt := 80) dX11_swap_75 (by decide) rfl (fun c5 => ?_) (fun c5 => ?_)
  · replace E := (if_of E).1 c5
    refine Rn.iload (pc' := 82) dX11_swap_80 5 rfl rfl ?_
    refine Rn.aload_n (pc' := 83) dX11_swap_82 rfl 0 rfl rfl ?_
    refine Rn.iload_n (pc' := 84) dX11_swap_83 rfl 1 rfl rfl ?_
    refine Rn.iload_n (pc' := 85) dX11_swap_84 rfl 2 rfl rfl ?_
    obtain ⟨g6, E⟩ := gd_of E
    obtain ⟨v7, h8, e9, E⟩ := bI_of E
    refine Rn.callV1 (pc' := 88) (As := [.int x1, .int x2]) (rest := [.int x5]) (f_Model_layerOf_ok hst e9) (Nat.le_trans (by decide) hd) rfl kb_X11_72 ki_X11_layerOf rfl g6 rfl rfl (Nat.le_of_ble_eq_true rfl) dX11_swap_85 rfl rfl ?_
    refine Rn.aload_n (pc' := 89) dX11_swap_88 rfl 0 rfl rfl ?_
    refine Rn.iload_n (pc' := 90) dX11_swap_89 rfl 3 rfl rfl ?_
    refine Rn.iload (pc' := 92) dX11_swap_90 4 rfl rfl ?_
    obtain ⟨g10, E⟩ := gd_of E
    obtain ⟨v11, h12, e13, E⟩ := bI_of E
    refine Rn.callV1 (pc' := 95) (As := [.int x3, .int x4]) (rest := [.int v7, .int x5]) (f_Model_layerOf_ok hst e13) (Nat.le_trans (by decide) hd) rfl kb_X11_72 ki_X11_layerOf rfl g10 rfl rfl (Nat.le_of_ble_eq_true rfl) dX11_swap_92 rfl rfl ?_
    obtain ⟨v14, h15, e16, E⟩ := bI_of E
    refine Rn.callS1 (pc' := 98) (As := [.int v7, .int v11]) (rest := [.int x5]) (f_Math_min_ok hst e16) (Nat.le_trans (by decide) hd) rfl kb_X11_63 ks_J9_min_7cf53 rfl rfl (Nat.le_of_ble_eq_true rfl) dX11_swap_95 rfl rfl ?_
    obtain ⟨v17, h18, e19, E⟩ := bI_of E
    refine Rn.callS1 (pc' := 101) (As := [.int x5, .int v14]) (rest := []) (f_Math_min_ok hst e19) (Nat.le_trans (by decide) hd) rfl kb_X11_63 ks_J9_min_7cf53 rfl rfl (Nat.le_of_ble_eq_true rfl) dX11_swap_98 rfl rfl ?_
    refine Rn.istore (pc' := 103) (L' := [(6, .int v17), (0, .ref x0), (1, .int x1), (2, .int x2), (3, .int x3), (4, .int x4), (5, .int x5)]) dX11_swap_101 (by decide) rfl rfl ?_
    refine Rn.aload_n (pc' := 104) dX11_swap_103 rfl 1 rfl rfl ?_
    refine Rn.iload_n (pc' := 105) dX11_swap_104 rfl 2 rfl rfl ?_
    refine Rn.iload_n (pc' := 106) dX11_swap_105 rfl 3 rfl rfl ?_
    refine Rn.iload (pc' := 108) dX11_swap_106 0 rfl rfl ?_
    refine Rn.ineg (pc' := 109) dX11_swap_108 rfl ?_
    obtain ⟨g20, E⟩ := gd_of E
    obtain ⟨h22, e23, E⟩ := bV_of E
    refine Rn.callV1 (pc' := 112) (As := [.int x1, .int x2, .int (-v17)]) (rest := []) (f_Model_adds_ok hst e23) (Nat.le_trans (by decide) hd) rfl kb_X11_82 ki_X11_adds rfl g20 rfl rfl (Nat.le_of_ble_eq_true rfl) dX11_swap_109 rfl rfl ?_
    refine Rn.aload_n (pc' := 113) dX11_swap_112 rfl 1 rfl rfl ?_
    refine Rn.iload_n (pc' := 114) dX11_swap_113 rfl 2 rfl rfl ?_
    refine Rn.iload (pc' := 116) dX11_swap_114 5 rfl rfl ?_
    refine Rn.iload (pc' := 118) dX11_swap_116 0 rfl rfl ?_
    obtain ⟨g24, E⟩ := gd_of E
    obtain ⟨h26, e27, E⟩ := bV_of E
    refine Rn.callV1 (pc' := 121) (As := [.int x1, .int x4, .int v17]) (rest := []) (f_Model_adds_ok hst e27) (Nat.le_trans (by decide) hd) rfl kb_X11_82 ki_X11_adds rfl g24 rfl rfl (Nat.le_of_ble_eq_true rfl) dX11_swap_118 rfl rfl ?_
    refine Rn.aload_n (pc' := 122) dX11_swap_121 rfl 1 rfl rfl ?_
    refine Rn.iload_n (pc' := 123) dX11_swap_122 rfl 4 rfl rfl ?_
    refine Rn.iload (pc' := 125) dX11_swap_123 5 rfl rfl ?_
    refine Rn.iload (pc' := 127) dX11_swap_125 0 rfl rfl ?_
    refine Rn.ineg (pc' := 128) dX11_swap_127 rfl ?_
    obtain ⟨g28, E⟩ := gd_of E
    obtain ⟨h30, e31, E⟩ := bV_of E
    refine Rn.callV1 (pc' := 131) (As := [.int x3, .int x4, .int (-v17)]) (rest := []) (f_Model_adds_ok hst e31) (Nat.le_trans (by decide) hd) rfl kb_X11_82 ki_X11_adds rfl g28 rfl rfl (Nat.le_of_ble_eq_true rfl) dX11_swap_128 rfl rfl ?_
    refine Rn.aload_n (pc' := 132) dX11_swap_131 rfl 1 rfl rfl ?_
    refine Rn.iload_n (pc' := 133) dX11_swap_132 rfl 4 rfl rfl ?_
    refine Rn.iload_n (pc' := 134) dX11_swap_133 rfl 3 rfl rfl ?_
    refine Rn.iload (pc' := 136) dX11_swap_134 0 rfl rfl ?_
    obtain ⟨g32, E⟩ := gd_of E
    obtain ⟨h34, e35, E⟩ := bV_of E
    refine Rn.callV1 (pc' := 139) (As := [.int x3, .int x2, .int v17]) (rest := []) (f_Model_adds_ok hst e35) (Nat.le_trans (by decide) hd) rfl kb_X11_82 ki_X11_adds rfl g32 rfl rfl (Nat.le_of_ble_eq_true rfl) dX11_swap_136 rfl rfl ?_
    refine Rn.iload (pc' := 141) dX11_swap_139 0 rfl rfl ?_
    cases E
    exact Rn.zret rfl rfl dX11_swap_141
  · replace E := (if_of E).2 c5
    refine Rn.iconst (pc' := 79) (v := (0 : Int32)) (hv := by decide) dX11_swap_78 rfl ?_
    cases E
    exact Rn.zret rfl rfl dX11_swap_79
def f_Model_swap_b66   (h : Hp) (x0 : Nat) (x1 : Int32) (x2 : Int32) (x3 : Int32) (x4 : Int32) (x5 : Int32) (s0 : Nat) : Option (Int32 × Hp) :=
f_Model_swap_b71   h x0 x1 x2 x3 x4 x5 s0 (1 : Int32)

set_option maxRecDepth 20000 in
set_option maxHeartbeats 4000000 in
theorem f_Model_swap_b66_ok {l : Launch} {X : Nat × (Nat → Int32)} (hst : l.stackTraces = false) {d : Nat} (hd : 2 ≤ d)     {h : Hp} {x0 : Nat} {x1 : Int32} {x2 : Int32} {x3 : Int32} {x4 : Int32} {x5 : Int32} {s0 : Nat} {r : Int32 × Hp} (E : f_Model_swap_b66   h x0 x1 x2 x3 x4 x5 s0 = some r) : Rn l X mX11_swap d 66 [(0, .ref x0), (1, .int x1), (2, .int x2), (3, .int x3), (4, .int x4), (5, .int x5)] [.ref s0] h (eI r) r.2 := by
  unfold f_Model_swap_b66 at E
  refine Rn.iconst (pc' := 67) (v := (1 : Int32)) (hv := by decide) dX11_swap_66 rfl ?_
  refine Rn.goto (pc' := 71) dX11_swap_67 (by decide) ?_
  exact f_Model_swap_b71_ok hst hd   E
def f_Model_swap_b42   (h : Hp) (x0 : Nat) (x1 : Int32) (x2 : Int32) (x3 : Int32) (x4 : Int32) (x5 : Int32) (s0 : Nat) (s1 : Int32) : Option (Int32 × Hp) :=
if hS h s0 = 11 then (
bI (f_Model_throwsIf h s0 s1 (1 : Int32)) fun v2 h3 =>
if v2 = 0 then (
if x1 = x3 then (
f_Model_swap_b66   h3 x0 x1 x2 x3 x4 x5 x0

) else (
if x2 = x4 then (
f_Model_swap_b66   h3 x0 x1 x2 x3 x4 x5 x0

) else (
if 0 ≤ x5 then (
f_Model_swap_b71   h3 x0 x1 x2 x3 x4 x5 x0 (0 : Int32)

) else (
f_Model_swap_b66   h3 x0 x1 x2 x3 x4 x5 x0

)

)

)

) else (
some ((0 : Int32), h3)

)
) else none
set_option maxRecDepth 20000 in
set_option maxHeartbeats 4000000 in
theorem f_Model_swap_b42_ok {l : Launch} {X : Nat × (Nat → Int32)} (hst : l.stackTraces = false) {d : Nat} (hd : 2 ≤ d)     {h : Hp} {x0 : Nat} {x1 : Int32} {x2 : Int32} {x3 : Int32} {x4 : Int32} {x5 : Int32} {s0 : Nat} {s1 : Int32} {r : Int32 × Hp} (E : f_Model_swap_b42   h x0 x1 x2 x3 x4 x5 s0 s1 = some r) : Rn l X mX11_swap d 42 [(0, .ref x0), (1, .int x1), (2, .int x2), (3, .int x3), (4, .int x4), (5, .int x5)] [.int s1, .ref s0] h (eI r) r.2 := by
  unfold f_Model_swap_b42 at E
  refine Rn.iconst (pc' := 43) (v := (1 : Int32)) (hv := by decide) dX11_swap_42 rfl ?_
  obtain ⟨g1, E⟩ := gd_of E
  obtain ⟨v2, h3, e4, E⟩ := bI_of E
  refine Rn.callV1 (pc' := 46) (As := [.int s1, .int (1 : Int32)]) (rest := []) (f_Model_throwsIf_ok hst e4) (Nat.le_trans (by decide) hd) rfl kb_X11_265 ki_X11_throwsIf rfl g1 rfl rfl (Nat.le_of_ble_eq_true rfl) dX11_swap_43 rfl rfl ?_
  refine Rn.if_ne (pc' := 49) (tgt := 78) dX11_swap_46 (by decide) rfl (fun c5 => ?_) (fun c5 => ?_)
  · replace E := (if_of E).2 c5
    refine Rn.iconst (pc' := 79) (v := (0 : Int32)) (hv := by decide) dX11_swap_78 rfl ?_
    cases E
    exact Rn.zret rfl rfl dX11_swap_79
  · replace E := (if_of E).1 c5
    refine Rn.aload_n (pc' := 50) dX11_swap_49 rfl 0 rfl rfl ?_
    refine Rn.iload_n (pc' := 51) dX11_swap_50 rfl 1 rfl rfl ?_
    refine Rn.iload_n (pc' := 52) dX11_swap_51 rfl 3 rfl rfl ?_
    refine Rn.icmp_eq (pc' := 55) (tgt := 66) dX11_swap_52 (by decide) rfl (fun c6 => ?_) (fun c6 => ?_)
    · replace E := (if_of E).1 c6
      exact f_Model_swap_b66_ok hst hd   E
    · replace E := (if_of E).2 c6
      refine Rn.iload_n (pc' := 56) dX11_swap_55 rfl 2 rfl rfl ?_
      refine Rn.iload (pc' := 58) dX11_swap_56 4 rfl rfl ?_
      refine Rn.icmp_eq (pc' := 61) (tgt := 66) dX11_swap_58 (by decide) rfl (fun c7 => ?_) (fun c7 => ?_)
      · replace E := (if_of E).1 c7
        exact f_Model_swap_b66_ok hst hd   E
      · replace E := (if_of E).2 c7
        refine Rn.iload (pc' := 63) dX11_swap_61 5 rfl rfl ?_
        refine Rn.if_ge (pc' := 66) (tgt := 70) dX11_swap_63 (by decide) rfl (fun c8 => ?_) (fun c8 => ?_)
        · replace E := (if_of E).1 c8
          refine Rn.iconst (pc' := 71) (v := (0 : Int32)) (hv := by decide) dX11_swap_70 rfl ?_
          exact f_Model_swap_b71_ok hst hd   E
        · replace E := (if_of E).2 c8
          exact f_Model_swap_b66_ok hst hd   E
def f_Model_swap_b37   (h : Hp) (x0 : Nat) (x1 : Int32) (x2 : Int32) (x3 : Int32) (x4 : Int32) (x5 : Int32) (s0 : Nat) : Option (Int32 × Hp) :=
f_Model_swap_b42   h x0 x1 x2 x3 x4 x5 s0 (1 : Int32)

set_option maxRecDepth 20000 in
set_option maxHeartbeats 4000000 in
theorem f_Model_swap_b37_ok {l : Launch} {X : Nat × (Nat → Int32)} (hst : l.stackTraces = false) {d : Nat} (hd : 2 ≤ d)     {h : Hp} {x0 : Nat} {x1 : Int32} {x2 : Int32} {x3 : Int32} {x4 : Int32} {x5 : Int32} {s0 : Nat} {r : Int32 × Hp} (E : f_Model_swap_b37   h x0 x1 x2 x3 x4 x5 s0 = some r) : Rn l X mX11_swap d 37 [(0, .ref x0), (1, .int x1), (2, .int x2), (3, .int x3), (4, .int x4), (5, .int x5)] [.ref s0] h (eI r) r.2 := by
  unfold f_Model_swap_b37 at E
  refine Rn.iconst (pc' := 38) (v := (1 : Int32)) (hv := by decide) dX11_swap_37 rfl ?_
  refine Rn.goto (pc' := 42) dX11_swap_38 (by decide) ?_
  exact f_Model_swap_b42_ok hst hd   E
def f_Model_swap_b0   (h : Hp) (x0 : Nat) (x1 : Int32) (x2 : Int32) (x3 : Int32) (x4 : Int32) (x5 : Int32)  : Option (Int32 × Hp) :=
if hS h x0 = 11 then (
wr (sI h x0 0 (0 : Int32)) fun h2 =>
bI (f_Model_noCistern h2 x0 x1) fun v4 h5 =>
if v4 = 0 then (
bI (f_Model_noYear h5 x2) fun v8 h9 =>
if v8 = 0 then (
if hS h9 x0 = 11 then (
bI (f_Model_noCistern h9 x0 x3) fun v13 h14 =>
if v13 = 0 then (
bI (f_Model_noYear h14 x4) fun v17 h18 =>
if v17 = 0 then (
f_Model_swap_b42   h18 x0 x1 x2 x3 x4 x5 x0 (0 : Int32)

) else (
f_Model_swap_b37   h18 x0 x1 x2 x3 x4 x5 x0

)

) else (
f_Model_swap_b37   h14 x0 x1 x2 x3 x4 x5 x0

)
) else none
) else (
f_Model_swap_b37   h9 x0 x1 x2 x3 x4 x5 x0

)

) else (
f_Model_swap_b37   h5 x0 x1 x2 x3 x4 x5 x0

)
) else none
set_option maxRecDepth 20000 in
set_option maxHeartbeats 4000000 in
theorem f_Model_swap_b0_ok {l : Launch} {X : Nat × (Nat → Int32)} (hst : l.stackTraces = false) {d : Nat} (hd : 2 ≤ d)     {h : Hp} {x0 : Nat} {x1 : Int32} {x2 : Int32} {x3 : Int32} {x4 : Int32} {x5 : Int32}  {r : Int32 × Hp} (E : f_Model_swap_b0   h x0 x1 x2 x3 x4 x5 = some r) : Rn l X mX11_swap d 0 [(0, .ref x0), (1, .int x1), (2, .int x2), (3, .int x3), (4, .int x4), (5, .int x5)] [] h (eI r) r.2 := by
  unfold f_Model_swap_b0 at E
  refine Rn.aload_n (pc' := 1) dX11_swap_0 rfl 0 rfl rfl ?_
  refine Rn.iconst (pc' := 2) (v := (0 : Int32)) (hv := by decide) dX11_swap_1 rfl ?_
  obtain ⟨g1, E⟩ := gd_of E
  refine Rn.putI (pc' := 5) fl_X11_3_10 (fun q hq => by cases hq; decide) g1 rfl rfl rfl dX11_swap_2 rfl ?_
  replace E := wr_of E
  generalize eh3 : sI h x0 0 (0 : Int32) = h2 at E ⊢
  refine Rn.aload_n (pc' := 6) dX11_swap_5 rfl 0 rfl rfl ?_
  refine Rn.aload_n (pc' := 7) dX11_swap_6 rfl 0 rfl rfl ?_
  refine Rn.iload_n (pc' := 8) dX11_swap_7 rfl 1 rfl rfl ?_
  obtain ⟨v4, h5, e6, E⟩ := bI_of E
  refine Rn.callV1 (pc' := 11) (As := [.int x1]) (rest := [.ref x0]) (f_Model_noCistern_ok hst e6) (Nat.le_trans (by decide) hd) rfl kb_X11_284 ki_X11_noCistern rfl (kp_sI eh3 g1) rfl rfl (Nat.le_of_ble_eq_true rfl) dX11_swap_8 rfl rfl ?_
  refine Rn.if_ne (pc' := 14) (tgt := 37) dX11_swap_11 (by decide) rfl (fun c7 => ?_) (fun c7 => ?_)
  · replace E := (if_of E).2 c7
    exact f_Model_swap_b37_ok hst hd   E
  · replace E := (if_of E).1 c7
    refine Rn.iload_n (pc' := 15) dX11_swap_14 rfl 2 rfl rfl ?_
    obtain ⟨v8, h9, e10, E⟩ := bI_of E
    refine Rn.callS1 (pc' := 18) (As := [.int x2]) (rest := [.ref x0]) (f_Model_noYear_ok hst e10) (Nat.le_trans (by decide) hd) rfl kb_X11_290 ks_X11_noYear rfl rfl (Nat.le_of_ble_eq_true rfl) dX11_swap_15 rfl rfl ?_
    refine Rn.if_ne (pc' := 21) (tgt := 37) dX11_swap_18 (by decide) rfl (fun c11 => ?_) (fun c11 => ?_)
    · replace E := (if_of E).2 c11
      exact f_Model_swap_b37_ok hst hd   E
    · replace E := (if_of E).1 c11
      refine Rn.aload_n (pc' := 22) dX11_swap_21 rfl 0 rfl rfl ?_
      refine Rn.iload_n (pc' := 23) dX11_swap_22 rfl 3 rfl rfl ?_
      obtain ⟨g12, E⟩ := gd_of E
      obtain ⟨v13, h14, e15, E⟩ := bI_of E
      refine Rn.callV1 (pc' := 26) (As := [.int x3]) (rest := [.ref x0]) (f_Model_noCistern_ok hst e15) (Nat.le_trans (by decide) hd) rfl kb_X11_284 ki_X11_noCistern rfl g12 rfl rfl (Nat.le_of_ble_eq_true rfl) dX11_swap_23 rfl rfl ?_
      refine Rn.if_ne (pc' := 29) (tgt := 37) dX11_swap_26 (by decide) rfl (fun c16 => ?_) (fun c16 => ?_)
      · replace E := (if_of E).2 c16
        exact f_Model_swap_b37_ok hst hd   E
      · replace E := (if_of E).1 c16
        refine Rn.iload (pc' := 31) dX11_swap_29 4 rfl rfl ?_
        obtain ⟨v17, h18, e19, E⟩ := bI_of E
        refine Rn.callS1 (pc' := 34) (As := [.int x4]) (rest := [.ref x0]) (f_Model_noYear_ok hst e19) (Nat.le_trans (by decide) hd) rfl kb_X11_290 ks_X11_noYear rfl rfl (Nat.le_of_ble_eq_true rfl) dX11_swap_31 rfl rfl ?_
        refine Rn.if_eq (pc' := 37) (tgt := 41) dX11_swap_34 (by decide) rfl (fun c20 => ?_) (fun c20 => ?_)
        · replace E := (if_of E).1 c20
          refine Rn.iconst (pc' := 42) (v := (0 : Int32)) (hv := by decide) dX11_swap_41 rfl ?_
          exact f_Model_swap_b42_ok hst hd   E
        · replace E := (if_of E).2 c20
          exact f_Model_swap_b37_ok hst hd   E
def f_Model_swap (h : Hp) (x0 : Nat) (x1 : Int32) (x2 : Int32) (x3 : Int32) (x4 : Int32) (x5 : Int32) : Option (Int32 × Hp) := f_Model_swap_b0  h x0 x1 x2 x3 x4 x5
theorem f_Model_swap_ok {l : Launch} {X : Nat × (Nat → Int32)} (hst : l.stackTraces = false) {h : Hp} {x0 : Nat} {x1 : Int32} {x2 : Int32} {x3 : Int32} {x4 : Int32} {x5 : Int32} {r : Int32 × Hp} (E : f_Model_swap h x0 x1 x2 x3 x4 x5 = some r) : MC l X yX11_swap mX11_swap 2 [.ref x0, .int x1, .int x2, .int x3, .int x4, .int x5] h (eI r) r.2 :=
  MC.body (by decide +kernel) rfl (by decide) hst (Nat.le_of_ble_eq_true rfl) (f_Model_swap_b0_ok hst (Nat.le_refl _) E)
abbrev mX10_isRowOfDrinks : MI := (RX10, cX10_isRowOfDrinks, 4, (some Jvm.ClassFile.FieldType.boolean), [], false)
theorem ws_X10_isRowOfDrinks : ∀ w ∈ wsM yX10_isRowOfDrinks mX10_isRowOfDrinks, w ∈ gw := List.forall_mem_cons.mpr ⟨gw_at 1290 (by decide +kernel) (by decide +kernel), fun _ h => h⟩
def f_Water_isRowOfDrinks_b16  (k16 : Hp → Nat → Int32 → Option (Int32 × Hp)) (h : Hp) (x0 : Nat) (x1 : Int32)  : Option (Int32 × Hp) :=
if hS h x0 = 10 then (
if hS h (hR h x0 0) = 9 then (
if (hI h (hR h x0 0) 1) ≤ x1 then (
some ((1 : Int32), h)

) else (
bI (f_Tape_byteAt h (hR h x0 0) x1) fun v4 h5 =>
if hS h5 x0 = 10 then (
if hS h5 (hR h5 x0 0) = 9 then (
bI (f_Tape_byteAt h5 (hR h5 x0 0) (x1 + (1 : Int32))) fun v9 h10 =>
if (v4 - (97 : Int32)) < 0 then (
some ((0 : Int32), h10)

) else (
if hS h10 x0 = 10 then (
if hS h10 (hR h10 x0 4) = 4 then (
if (hI h10 (hR h10 x0 4) 1) ≤ (v4 - (97 : Int32)) then (
some ((0 : Int32), h10)

) else (
if (v9 - (48 : Int32)) < 0 then (
some ((0 : Int32), h10)

) else (
if (v9 - (48 : Int32)) < (30 : Int32) then (
k16 h10 x0 (x1 + (2 : Int32))

) else (
some ((0 : Int32), h10)

)

)

)
) else none) else none
)
) else none) else none
)
) else none) else none
set_option maxRecDepth 20000 in
set_option maxHeartbeats 4000000 in
theorem f_Water_isRowOfDrinks_b16_ok {l : Launch} {X : Nat × (Nat → Int32)} (hst : l.stackTraces = false) {d : Nat} (hd : 1 ≤ d)   {k16 : Hp → Nat → Int32 → Option (Int32 × Hp)} (hk16 : ∀ (h : Hp) (x0 : Nat) (x1 : Int32)  (r : Int32 × Hp), k16 h x0 x1 = some r → Rn l X mX10_isRowOfDrinks d 16 [(0, .ref x0), (1, .int x1)] [] h (eI r) r.2) {h : Hp} {x0 : Nat} {x1 : Int32}  {r : Int32 × Hp} (E : f_Water_isRowOfDrinks_b16  k16 h x0 x1 = some r) : Rn l X mX10_isRowOfDrinks d 16 [(0, .ref x0), (1, .int x1)] [] h (eI r) r.2 := by
  unfold f_Water_isRowOfDrinks_b16 at E
  refine Rn.iload_n (pc' := 17) dX10_isRowOfDrinks_16 rfl 1 rfl rfl ?_
  refine Rn.aload_n (pc' := 18) dX10_isRowOfDrinks_17 rfl 0 rfl rfl ?_
  obtain ⟨g1, E⟩ := gd_of E
  refine Rn.getR (pc' := 21) fl_X10_12_9 g1 rfl dX10_isRowOfDrinks_18 rfl ?_
  obtain ⟨g2, E⟩ := gd_of E
  refine Rn.getI (pc' := 24) fl_X10_66_8 g2 rfl dX10_isRowOfDrinks_21 rfl ?_
  refine Rn.icmp_ge (pc' := 27) (tgt := 86) dX10_isRowOfDrinks_24 (by decide) rfl (fun c3 => ?_) (fun c3 => ?_)
  · replace E := (if_of E).1 c3
    refine Rn.iconst (pc' := 87) (v := (1 : Int32)) (hv := by decide) dX10_isRowOfDrinks_86 rfl ?_
    cases E
    exact Rn.zret rfl rfl dX10_isRowOfDrinks_87
  · replace E := (if_of E).2 c3
    refine Rn.aload_n (pc' := 28) dX10_isRowOfDrinks_27 rfl 0 rfl rfl ?_
    refine Rn.getR (pc' := 31) fl_X10_12_9 g1 rfl dX10_isRowOfDrinks_28 rfl ?_
    refine Rn.iload_n (pc' := 32) dX10_isRowOfDrinks_31 rfl 1 rfl rfl ?_
    obtain ⟨v4, h5, e6, E⟩ := bI_of E
    refine Rn.callV1 (pc' := 35) (As := [.int x1]) (rest := []) (f_Tape_byteAt_ok hst e6) (Nat.le_trans (by decide) hd) rfl kb_X10_395 ki_X9_byteAt rfl g2 rfl rfl (Nat.le_of_ble_eq_true rfl) dX10_isRowOfDrinks_32 rfl rfl ?_
    refine Rn.bipush (pc' := 37) (v := (97 : Int32)) (hv := by decide) dX10_isRowOfDrinks_35 rfl ?_
    refine Rn.isub (pc' := 38) dX10_isRowOfDrinks_37 rfl ?_
    refine Rn.istore_n (pc' := 39) (L' := [(2, .int (v4 - (97 : Int32))), (0, .ref x0), (1, .int x1)]) dX10_isRowOfDrinks_38 rfl (by decide) rfl rfl ?_
    refine Rn.aload_n (pc' := 40) dX10_isRowOfDrinks_39 rfl 1 rfl rfl ?_
    obtain ⟨g7, E⟩ := gd_of E
    refine Rn.getR (pc' := 43) fl_X10_12_9 g7 rfl dX10_isRowOfDrinks_40 rfl ?_
    refine Rn.iload_n (pc' := 44) dX10_isRowOfDrinks_43 rfl 2 rfl rfl ?_
    refine Rn.iconst (pc' := 45) (v := (1 : Int32)) (hv := by decide) dX10_isRowOfDrinks_44 rfl ?_
    refine Rn.iadd (pc' := 46) dX10_isRowOfDrinks_45 rfl ?_
    obtain ⟨g8, E⟩ := gd_of E
    obtain ⟨v9, h10, e11, E⟩ := bI_of E
    refine Rn.callV1 (pc' := 49) (As := [.int (x1 + (1 : Int32))]) (rest := []) (f_Tape_byteAt_ok hst e11) (Nat.le_trans (by decide) hd) rfl kb_X10_395 ki_X9_byteAt rfl g8 rfl rfl (Nat.le_of_ble_eq_true rfl) dX10_isRowOfDrinks_46 rfl rfl ?_
    refine Rn.bipush (pc' := 51) (v := (48 : Int32)) (hv := by decide) dX10_isRowOfDrinks_49 rfl ?_
    refine Rn.isub (pc' := 52) dX10_isRowOfDrinks_51 rfl ?_
    refine Rn.istore_n (pc' := 53) (L' := [(3, .int (v9 - (48 : Int32))), (2, .int (v4 - (97 : Int32))), (0, .ref x0), (1, .int x1)]) dX10_isRowOfDrinks_52 rfl (by decide) rfl rfl ?_
    refine Rn.iload_n (pc' := 54) dX10_isRowOfDrinks_53 rfl 1 rfl rfl ?_
    refine Rn.if_lt (pc' := 57) (tgt := 78) dX10_isRowOfDrinks_54 (by decide) rfl (fun c12 => ?_) (fun c12 => ?_)
    · replace E := (if_of E).1 c12
      refine Rn.iconst (pc' := 79) (v := (0 : Int32)) (hv := by decide) dX10_isRowOfDrinks_78 rfl ?_
      cases E
      exact Rn.zret rfl rfl dX10_isRowOfDrinks_79
    · replace E := (if_of E).2 c12
      refine Rn.iload_n (pc' := 58) dX10_isRowOfDrinks_57 rfl 1 rfl rfl ?_
      refine Rn.aload_n (pc' := 59) dX10_isRowOfDrinks_58 rfl 2 rfl rfl ?_
      obtain ⟨g13, E⟩ := gd_of E
      refine Rn.getR (pc' := 62) fl_X10_42_9 g13 rfl dX10_isRowOfDrinks_59 rfl ?_
      obtain ⟨g14, E⟩ := gd_of E
      refine Rn.getI (pc' := 65) fl_X10_76_3 g14 rfl dX10_isRowOfDrinks_62 rfl ?_
      refine Rn.icmp_ge (pc' := 68) (tgt := 78) dX10_isRowOfDrinks_65 (by decide) rfl (fun c15 => ?_) (fun c15 => ?_)
      · replace E := (if_of E).1 c15
        refine Rn.iconst (pc' := 79) (v := (0 : Int32)) (hv := by decide) dX10_isRowOfDrinks_78 rfl ?_
        cases E
        exact Rn.zret rfl rfl dX10_isRowOfDrinks_79
      · replace E := (if_of E).2 c15
        refine Rn.iload_n (pc' := 69) dX10_isRowOfDrinks_68 rfl 0 rfl rfl ?_
        refine Rn.if_lt (pc' := 72) (tgt := 78) dX10_isRowOfDrinks_69 (by decide) rfl (fun c16 => ?_) (fun c16 => ?_)
        · replace E := (if_of E).1 c16
          refine Rn.iconst (pc' := 79) (v := (0 : Int32)) (hv := by decide) dX10_isRowOfDrinks_78 rfl ?_
          cases E
          exact Rn.zret rfl rfl dX10_isRowOfDrinks_79
        · replace E := (if_of E).2 c16
          refine Rn.iload_n (pc' := 73) dX10_isRowOfDrinks_72 rfl 0 rfl rfl ?_
          refine Rn.bipush (pc' := 75) (v := (30 : Int32)) (hv := by decide) dX10_isRowOfDrinks_73 rfl ?_
          refine Rn.icmp_lt (pc' := 78) (tgt := 80) dX10_isRowOfDrinks_75 (by decide) rfl (fun c17 => ?_) (fun c17 => ?_)
          · replace E := (if_of E).1 c17
            refine Rn.iinc (pc' := 83) (v := (x1 + (2 : Int32))) (L' := [(1, .int (x1 + (2 : Int32))), (3, .int (v9 - (48 : Int32))), (2, .int (v4 - (97 : Int32))), (0, .ref x0)]) dX10_isRowOfDrinks_80 3 rfl rfl (by decide) rfl rfl ?_
            refine Rn.goto (pc' := 16) dX10_isRowOfDrinks_83 (by decide) ?_
            refine Rn.sub [3, 0] rfl ?_
            exact hk16 _ _ _ _ E
          · replace E := (if_of E).2 c17
            refine Rn.iconst (pc' := 79) (v := (0 : Int32)) (hv := by decide) dX10_isRowOfDrinks_78 rfl ?_
            cases E
            exact Rn.zret rfl rfl dX10_isRowOfDrinks_79
def f_Water_isRowOfDrinks_L16   (n : Nat) : Hp → Nat → Int32 → Option (Int32 × Hp) := Nat.rec (motive := fun _ => Hp → Nat → Int32 → Option (Int32 × Hp)) (fun _ _ _ => none) (fun _ rec => f_Water_isRowOfDrinks_b16   rec) n
theorem f_Water_isRowOfDrinks_L16_ok {l : Launch} {X : Nat × (Nat → Int32)} (hst : l.stackTraces = false) {d : Nat} (hd : 1 ≤ d)     : ∀ (n : Nat) (h : Hp) (x0 : Nat) (x1 : Int32)  (r : Int32 × Hp), f_Water_isRowOfDrinks_L16   n h x0 x1 = some r → Rn l X mX10_isRowOfDrinks d 16 [(0, .ref x0), (1, .int x1)] [] h (eI r) r.2 := by
  intro n
  induction n with
  | zero => intro h x0 x1 r E; cases E
  | succ n ih => intro h x0 x1 r E; exact f_Water_isRowOfDrinks_b16_ok hst hd   ih E
def f_Water_isRowOfDrinks_b0   (h : Hp) (x0 : Nat)  : Option (Int32 × Hp) :=
if hS h x0 = 10 then (
if hS h (hR h x0 0) = 9 then (
if (jrem (hI h (hR h x0 0) 1) (2 : Int32)) = 0 then (
f_Water_isRowOfDrinks_L16   FU h x0 (0 : Int32)

) else (
some ((0 : Int32), h)

)
) else none) else none
set_option maxRecDepth 20000 in
set_option maxHeartbeats 4000000 in
theorem f_Water_isRowOfDrinks_b0_ok {l : Launch} {X : Nat × (Nat → Int32)} (hst : l.stackTraces = false) {d : Nat} (hd : 1 ≤ d)     {h : Hp} {x0 : Nat}  {r : Int32 × Hp} (E : f_Water_isRowOfDrinks_b0   h x0 = some r) : Rn l X mX10_isRowOfDrinks d 0 [(0, .ref x0)] [] h (eI r) r.2 := by
  unfold f_Water_isRowOfDrinks_b0 at E
  refine Rn.aload_n (pc' := 1) dX10_isRowOfDrinks_0 rfl 0 rfl rfl ?_
  obtain ⟨g1, E⟩ := gd_of E
  refine Rn.getR (pc' := 4) fl_X10_12_9 g1 rfl dX10_isRowOfDrinks_1 rfl ?_
  obtain ⟨g2, E⟩ := gd_of E
  refine Rn.getI (pc' := 7) fl_X10_66_8 g2 rfl dX10_isRowOfDrinks_4 rfl ?_
  refine Rn.iconst (pc' := 8) (v := (2 : Int32)) (hv := by decide) dX10_isRowOfDrinks_7 rfl ?_
  refine Rn.irem (pc' := 9) (hne := (by decide)) dX10_isRowOfDrinks_8 rfl ?_
  refine Rn.if_eq (pc' := 12) (tgt := 14) dX10_isRowOfDrinks_9 (by decide) rfl (fun c3 => ?_) (fun c3 => ?_)
  · replace E := (if_of E).1 c3
    refine Rn.iconst (pc' := 15) (v := (0 : Int32)) (hv := by decide) dX10_isRowOfDrinks_14 rfl ?_
    refine Rn.istore_n (pc' := 16) (L' := [(1, .int (0 : Int32)), (0, .ref x0)]) dX10_isRowOfDrinks_15 rfl (by decide) rfl rfl ?_
    refine Rn.sub [1, 0] rfl ?_
    exact f_Water_isRowOfDrinks_L16_ok hst hd   FU _ _ _ _ E
  · replace E := (if_of E).2 c3
    refine Rn.iconst (pc' := 13) (v := (0 : Int32)) (hv := by decide) dX10_isRowOfDrinks_12 rfl ?_
    cases E
    exact Rn.zret rfl rfl dX10_isRowOfDrinks_13
def f_Water_isRowOfDrinks (h : Hp) (x0 : Nat) : Option (Int32 × Hp) := f_Water_isRowOfDrinks_b0  h x0
theorem f_Water_isRowOfDrinks_ok {l : Launch} {X : Nat × (Nat → Int32)} (hst : l.stackTraces = false) {h : Hp} {x0 : Nat} {r : Int32 × Hp} (E : f_Water_isRowOfDrinks h x0 = some r) : MC l X yX10_isRowOfDrinks mX10_isRowOfDrinks 1 [.ref x0] h (eI r) r.2 :=
  MC.body (by decide +kernel) rfl (by decide) hst (Nat.le_of_ble_eq_true rfl) (f_Water_isRowOfDrinks_b0_ok hst (Nat.le_refl _) E)
abbrev mX3_firstYearIn : MI := (RX3, cX3_firstYearIn, 2, (some Jvm.ClassFile.FieldType.int), [], false)
theorem ws_X3_firstYearIn : ∀ w ∈ wsM yX3_firstYearIn mX3_firstYearIn, w ∈ gw := List.forall_mem_cons.mpr ⟨gw_at 1212 (by decide +kernel) (by decide +kernel), fun _ h => h⟩
def f_Land_firstYearIn_b0   (h : Hp) (x0 : Nat) (x1 : Nat)  : Option (Int32 × Hp) :=
if hS h x0 = 4 then (
bV (f_Land_weighAll h x0 x1) fun h3 =>
if hS h3 x0 = 4 then (
bI (f_Land_firstOfPlaces h3 x0) fun v6 h7 =>
some (v6, h7)
) else none) else none
set_option maxRecDepth 20000 in
set_option maxHeartbeats 4000000 in
theorem f_Land_firstYearIn_b0_ok {l : Launch} {X : Nat × (Nat → Int32)} (hst : l.stackTraces = false) {d : Nat} (hd : 4 ≤ d)     {h : Hp} {x0 : Nat} {x1 : Nat}  {r : Int32 × Hp} (E : f_Land_firstYearIn_b0   h x0 x1 = some r) : Rn l X mX3_firstYearIn d 0 [(0, .ref x0), (1, .ref x1)] [] h (eI r) r.2 := by
  unfold f_Land_firstYearIn_b0 at E
  refine Rn.aload_n (pc' := 1) dX3_firstYearIn_0 rfl 0 rfl rfl ?_
  refine Rn.aload_n (pc' := 2) dX3_firstYearIn_1 rfl 1 rfl rfl ?_
  obtain ⟨g1, E⟩ := gd_of E
  obtain ⟨h3, e4, E⟩ := bV_of E
  refine Rn.callV1 (pc' := 5) (As := [.ref x1]) (rest := []) (f_Land_weighAll_ok hst e4) (Nat.le_trans (by decide) hd) rfl kb_X3_181 ki_X3_weighAll rfl g1 rfl rfl (Nat.le_of_ble_eq_true rfl) dX3_firstYearIn_2 rfl rfl ?_
  refine Rn.aload_n (pc' := 6) dX3_firstYearIn_5 rfl 0 rfl rfl ?_
  obtain ⟨g5, E⟩ := gd_of E
  obtain ⟨v6, h7, e8, E⟩ := bI_of E
  refine Rn.callV1 (pc' := 9) (As := []) (rest := []) (f_Land_firstOfPlaces_ok hst e8) (Nat.le_trans (by decide) hd) rfl kb_X3_184 ki_X3_firstOfPlaces rfl g5 rfl rfl (Nat.le_of_ble_eq_true rfl) dX3_firstYearIn_6 rfl rfl ?_
  cases E
  exact Rn.zret rfl rfl dX3_firstYearIn_9
def f_Land_firstYearIn (h : Hp) (x0 : Nat) (x1 : Nat) : Option (Int32 × Hp) := f_Land_firstYearIn_b0  h x0 x1
theorem f_Land_firstYearIn_ok {l : Launch} {X : Nat × (Nat → Int32)} (hst : l.stackTraces = false) {h : Hp} {x0 : Nat} {x1 : Nat} {r : Int32 × Hp} (E : f_Land_firstYearIn h x0 x1 = some r) : MC l X yX3_firstYearIn mX3_firstYearIn 4 [.ref x0, .ref x1] h (eI r) r.2 :=
  MC.body (by decide +kernel) rfl (by decide) hst (Nat.le_of_ble_eq_true rfl) (f_Land_firstYearIn_b0_ok hst (Nat.le_refl _) E)
abbrev mX3_isDrunkByLaw : MI := (RX3, cX3_isDrunkByLaw, 5, (some Jvm.ClassFile.FieldType.boolean), [], false)
theorem ws_X3_isDrunkByLaw : ∀ w ∈ wsM yX3_isDrunkByLaw mX3_isDrunkByLaw, w ∈ gw := List.forall_mem_cons.mpr ⟨gw_at 1299 (by decide +kernel) (by decide +kernel), fun _ h => h⟩
theorem kb_X3_218 : KB RX3 218 yX3_firstYearIn mX3_firstYearIn 1 := ⟨gw_at 1300 (by decide +kernel) (by decide +kernel), gw_at 113 (by decide +kernel) (by decide +kernel), trivial, ws_X3_firstYearIn, by decide +kernel, by decide +kernel, by decide +kernel, by decide⟩
theorem ki_X3_firstYearIn : Cond.instanceMethod yX3_firstYearIn ∈ gw ∧ Cond.selects yX3_firstYearIn.cls yX3_firstYearIn yX3_firstYearIn ∈ gw := ⟨gw_at 1210 (by decide +kernel) (by decide +kernel), gw_at 1211 (by decide +kernel) (by decide +kernel)⟩
def f_Land_isDrunkByLaw_b0   (h : Hp) (x0 : Nat) (x1 : Int32) (x2 : Int32)  : Option (Int32 × Hp) :=
if hS h x0 = 4 then (
bI (f_Land_hasHouse h x0 x1) fun v2 h3 =>
if v2 = 0 then (
some ((0 : Int32), h3)

) else (
if x2 < 0 then (
some ((0 : Int32), h3)

) else (
if (30 : Int32) ≤ x2 then (
some ((0 : Int32), h3)

) else (
if hS h3 x0 = 4 then (
if hS h3 (hR h3 x0 4) = 24 then (
if ib x1 (hL h3 (hR h3 x0 4)) = true then (
if hS h3 (hR h3 (hR h3 x0 4) (ix x1)) = 3 then (
bI (f_Land_hasCistern h3 x0 (hI h3 (hR h3 (hR h3 x0 4) (ix x1)) 1)) fun v12 h13 =>
if v12 = 0 then (
some ((0 : Int32), h13)

) else (
if hS h13 x0 = 4 then (
if hS h13 (hR h13 x0 4) = 24 then (
if ib x1 (hL h13 (hR h13 x0 4)) = true then (
if hS h13 (hR h13 (hR h13 x0 4) (ix x1)) = 3 then (
if hS h13 (hR h13 x0 3) = 23 then (
if ib (hI h13 (hR h13 (hR h13 x0 4) (ix x1)) 1) (hL h13 (hR h13 x0 3)) = true then (
bI (f_Land_firstYearIn h13 x0 (hR h13 (hR h13 x0 3) (ix (hI h13 (hR h13 (hR h13 x0 4) (ix x1)) 1)))) fun v22 h23 =>
if v22 = x2 then (
if hS h23 x0 = 4 then (
if hS h23 (hR h23 x0 6) = 20 then (
if ib x2 (hL h23 (hR h23 x0 6)) = true then (
if hS h23 (hR h13 (hR h13 x0 4) (ix x1)) = 3 then (
if (hI h23 (hR h23 x0 6) (ix x2)) ≤ (hI h23 (hR h13 (hR h13 x0 4) (ix x1)) 2) then (
if hS h23 (hR h13 (hR h13 x0 3) (ix (hI h13 (hR h13 (hR h13 x0 4) (ix x1)) 1))) = 1 then (
bV (f_Cistern_take h23 (hR h13 (hR h13 x0 3) (ix (hI h13 (hR h13 (hR h13 x0 4) (ix x1)) 1))) x2 (1 : Int32)) fun h33 =>
some ((1 : Int32), h33)
) else none
) else (
some ((0 : Int32), h23)

)
) else none) else none) else none) else none
) else (
some ((0 : Int32), h23)

)
) else none) else none) else none) else none) else none) else none
)
) else none) else none) else none) else none
)

)

)
) else none
set_option maxRecDepth 20000 in
set_option maxHeartbeats 4000000 in
theorem f_Land_isDrunkByLaw_b0_ok {l : Launch} {X : Nat × (Nat → Int32)} (hst : l.stackTraces = false) {d : Nat} (hd : 5 ≤ d)     {h : Hp} {x0 : Nat} {x1 : Int32} {x2 : Int32}  {r : Int32 × Hp} (E : f_Land_isDrunkByLaw_b0   h x0 x1 x2 = some r) : Rn l X mX3_isDrunkByLaw d 0 [(0, .ref x0), (1, .int x1), (2, .int x2)] [] h (eI r) r.2 := by
  unfold f_Land_isDrunkByLaw_b0 at E
  refine Rn.aload_n (pc' := 1) dX3_isDrunkByLaw_0 rfl 0 rfl rfl ?_
  refine Rn.iload_n (pc' := 2) dX3_isDrunkByLaw_1 rfl 1 rfl rfl ?_
  obtain ⟨g1, E⟩ := gd_of E
  obtain ⟨v2, h3, e4, E⟩ := bI_of E
  refine Rn.callV1 (pc' := 5) (As := [.int x1]) (rest := []) (f_Land_hasHouse_ok hst e4) (Nat.le_trans (by decide) hd) rfl kb_X3_167 ki_X3_hasHouse rfl g1 rfl rfl (Nat.le_of_ble_eq_true rfl) dX3_isDrunkByLaw_2 rfl rfl ?_
  refine Rn.if_eq (pc' := 8) (tgt := 34) dX3_isDrunkByLaw_5 (by decide) rfl (fun c5 => ?_) (fun c5 => ?_)
  · replace E := (if_of E).1 c5
    refine Rn.iconst (pc' := 35) (v := (0 : Int32)) (hv := by decide) dX3_isDrunkByLaw_34 rfl ?_
    cases E
    exact Rn.zret rfl rfl dX3_isDrunkByLaw_35
  · replace E := (if_of E).2 c5
    refine Rn.iload_n (pc' := 9) dX3_isDrunkByLaw_8 rfl 2 rfl rfl ?_
    refine Rn.if_lt (pc' := 12) (tgt := 34) dX3_isDrunkByLaw_9 (by decide) rfl (fun c6 => ?_) (fun c6 => ?_)
    · replace E := (if_of E).1 c6
      refine Rn.iconst (pc' := 35) (v := (0 : Int32)) (hv := by decide) dX3_isDrunkByLaw_34 rfl ?_
      cases E
      exact Rn.zret rfl rfl dX3_isDrunkByLaw_35
    · replace E := (if_of E).2 c6
      refine Rn.iload_n (pc' := 13) dX3_isDrunkByLaw_12 rfl 2 rfl rfl ?_
      refine Rn.bipush (pc' := 15) (v := (30 : Int32)) (hv := by decide) dX3_isDrunkByLaw_13 rfl ?_
      refine Rn.icmp_ge (pc' := 18) (tgt := 34) dX3_isDrunkByLaw_15 (by decide) rfl (fun c7 => ?_) (fun c7 => ?_)
      · replace E := (if_of E).1 c7
        refine Rn.iconst (pc' := 35) (v := (0 : Int32)) (hv := by decide) dX3_isDrunkByLaw_34 rfl ?_
        cases E
        exact Rn.zret rfl rfl dX3_isDrunkByLaw_35
      · replace E := (if_of E).2 c7
        refine Rn.aload_n (pc' := 19) dX3_isDrunkByLaw_18 rfl 0 rfl rfl ?_
        refine Rn.aload_n (pc' := 20) dX3_isDrunkByLaw_19 rfl 0 rfl rfl ?_
        obtain ⟨g8, E⟩ := gd_of E
        refine Rn.getR (pc' := 23) fl_X3_19_3 g8 rfl dX3_isDrunkByLaw_20 rfl ?_
        refine Rn.iload_n (pc' := 24) dX3_isDrunkByLaw_23 rfl 1 rfl rfl ?_
        obtain ⟨g9, E⟩ := gd_of E
        obtain ⟨g10, E⟩ := gd_of E
        refine Rn.aald (pc' := 25) g9 (by decide) (by decide) g10 dX3_isDrunkByLaw_24 rfl ?_
        obtain ⟨g11, E⟩ := gd_of E
        refine Rn.getI (pc' := 28) fl_X3_173_2 g11 rfl dX3_isDrunkByLaw_25 rfl ?_
        obtain ⟨v12, h13, e14, E⟩ := bI_of E
        refine Rn.callV1 (pc' := 31) (As := [.int (hI h3 (hR h3 (hR h3 x0 4) (ix x1)) 1)]) (rest := []) (f_Land_hasCistern_ok hst e14) (Nat.le_trans (by decide) hd) rfl kb_X3_106 ki_X3_hasCistern rfl g8 rfl rfl (Nat.le_of_ble_eq_true rfl) dX3_isDrunkByLaw_28 rfl rfl ?_
        refine Rn.if_ne (pc' := 34) (tgt := 36) dX3_isDrunkByLaw_31 (by decide) rfl (fun c15 => ?_) (fun c15 => ?_)
        · replace E := (if_of E).2 c15
          refine Rn.aload_n (pc' := 37) dX3_isDrunkByLaw_36 rfl 0 rfl rfl ?_
          obtain ⟨g16, E⟩ := gd_of E
          refine Rn.getR (pc' := 40) fl_X3_19_3 g16 rfl dX3_isDrunkByLaw_37 rfl ?_
          refine Rn.iload_n (pc' := 41) dX3_isDrunkByLaw_40 rfl 1 rfl rfl ?_
          obtain ⟨g17, E⟩ := gd_of E
          obtain ⟨g18, E⟩ := gd_of E
          refine Rn.aald (pc' := 42) g17 (by decide) (by decide) g18 dX3_isDrunkByLaw_41 rfl ?_
          refine Rn.astore_n (pc' := 43) (L' := [(3, .ref (hR h13 (hR h13 x0 4) (ix x1))), (0, .ref x0), (1, .int x1), (2, .int x2)]) dX3_isDrunkByLaw_42 rfl (by decide) rfl rfl ?_
          refine Rn.aload_n (pc' := 44) dX3_isDrunkByLaw_43 rfl 1 rfl rfl ?_
          refine Rn.getR (pc' := 47) fl_X3_11_3 g16 rfl dX3_isDrunkByLaw_44 rfl ?_
          refine Rn.aload_n (pc' := 48) dX3_isDrunkByLaw_47 rfl 0 rfl rfl ?_
          obtain ⟨g19, E⟩ := gd_of E
          refine Rn.getI (pc' := 51) fl_X3_173_2 g19 rfl dX3_isDrunkByLaw_48 rfl ?_
          obtain ⟨g20, E⟩ := gd_of E
          obtain ⟨g21, E⟩ := gd_of E
          refine Rn.aald (pc' := 52) g20 (by decide) (by decide) g21 dX3_isDrunkByLaw_51 rfl ?_
          refine Rn.astore (pc' := 54) (L' := [(4, .ref (hR h13 (hR h13 x0 3) (ix (hI h13 (hR h13 (hR h13 x0 4) (ix x1)) 1)))), (3, .ref (hR h13 (hR h13 x0 4) (ix x1))), (0, .ref x0), (1, .int x1), (2, .int x2)]) dX3_isDrunkByLaw_52 (by decide) rfl rfl ?_
          refine Rn.aload_n (pc' := 55) dX3_isDrunkByLaw_54 rfl 2 rfl rfl ?_
          refine Rn.aload (pc' := 57) dX3_isDrunkByLaw_55 0 rfl rfl ?_
          obtain ⟨v22, h23, e24, E⟩ := bI_of E
          refine Rn.callV1 (pc' := 60) (As := [.ref (hR h13 (hR h13 x0 3) (ix (hI h13 (hR h13 (hR h13 x0 4) (ix x1)) 1)))]) (rest := []) (f_Land_firstYearIn_ok hst e24) (Nat.le_trans (by decide) hd) rfl kb_X3_218 ki_X3_firstYearIn rfl g16 rfl rfl (Nat.le_of_ble_eq_true rfl) dX3_isDrunkByLaw_57 rfl rfl ?_
          refine Rn.iload_n (pc' := 61) dX3_isDrunkByLaw_60 rfl 4 rfl rfl ?_
          refine Rn.icmp_ne (pc' := 64) (tgt := 77) dX3_isDrunkByLaw_61 (by decide) rfl (fun c25 => ?_) (fun c25 => ?_)
          · replace E := (if_of E).2 c25
            refine Rn.iconst (pc' := 78) (v := (0 : Int32)) (hv := by decide) dX3_isDrunkByLaw_77 rfl ?_
            cases E
            exact Rn.zret rfl rfl dX3_isDrunkByLaw_78
          · replace E := (if_of E).1 c25
            refine Rn.aload_n (pc' := 65) dX3_isDrunkByLaw_64 rfl 2 rfl rfl ?_
            obtain ⟨g26, E⟩ := gd_of E
            refine Rn.getR (pc' := 68) fl_X3_29_3 g26 rfl dX3_isDrunkByLaw_65 rfl ?_
            refine Rn.iload_n (pc' := 69) dX3_isDrunkByLaw_68 rfl 4 rfl rfl ?_
            obtain ⟨g27, E⟩ := gd_of E
            obtain ⟨g28, E⟩ := gd_of E
            refine Rn.iald (pc' := 70) g27 g28 dX3_isDrunkByLaw_69 rfl ?_
            refine Rn.aload_n (pc' := 71) dX3_isDrunkByLaw_70 rfl 1 rfl rfl ?_
            obtain ⟨g29, E⟩ := gd_of E
            refine Rn.getI (pc' := 74) fl_X3_187_2 g29 rfl dX3_isDrunkByLaw_71 rfl ?_
            refine Rn.icmp_le (pc' := 77) (tgt := 79) dX3_isDrunkByLaw_74 (by decide) rfl (fun c30 => ?_) (fun c30 => ?_)
            · replace E := (if_of E).1 c30
              refine Rn.aload (pc' := 81) dX3_isDrunkByLaw_79 0 rfl rfl ?_
              refine Rn.iload_n (pc' := 82) dX3_isDrunkByLaw_81 rfl 4 rfl rfl ?_
              refine Rn.iconst (pc' := 83) (v := (1 : Int32)) (hv := by decide) dX3_isDrunkByLaw_82 rfl ?_
              obtain ⟨g31, E⟩ := gd_of E
              obtain ⟨h33, e34, E⟩ := bV_of E
              refine Rn.callV1 (pc' := 86) (As := [.int x2, .int (1 : Int32)]) (rest := []) (f_Cistern_take_ok hst e34) (Nat.le_trans (by decide) hd) rfl kb_X3_193 ki_X0_take rfl g31 rfl rfl (Nat.le_of_ble_eq_true rfl) dX3_isDrunkByLaw_83 rfl rfl ?_
              refine Rn.iconst (pc' := 87) (v := (1 : Int32)) (hv := by decide) dX3_isDrunkByLaw_86 rfl ?_
              cases E
              exact Rn.zret rfl rfl dX3_isDrunkByLaw_87
            · replace E := (if_of E).2 c30
              refine Rn.iconst (pc' := 78) (v := (0 : Int32)) (hv := by decide) dX3_isDrunkByLaw_77 rfl ?_
              cases E
              exact Rn.zret rfl rfl dX3_isDrunkByLaw_78
        · replace E := (if_of E).1 c15
          refine Rn.iconst (pc' := 35) (v := (0 : Int32)) (hv := by decide) dX3_isDrunkByLaw_34 rfl ?_
          cases E
          exact Rn.zret rfl rfl dX3_isDrunkByLaw_35
def f_Land_isDrunkByLaw (h : Hp) (x0 : Nat) (x1 : Int32) (x2 : Int32) : Option (Int32 × Hp) := f_Land_isDrunkByLaw_b0  h x0 x1 x2
theorem f_Land_isDrunkByLaw_ok {l : Launch} {X : Nat × (Nat → Int32)} (hst : l.stackTraces = false) {h : Hp} {x0 : Nat} {x1 : Int32} {x2 : Int32} {r : Int32 × Hp} (E : f_Land_isDrunkByLaw h x0 x1 x2 = some r) : MC l X yX3_isDrunkByLaw mX3_isDrunkByLaw 5 [.ref x0, .int x1, .int x2] h (eI r) r.2 :=
  MC.body (by decide +kernel) rfl (by decide) hst (Nat.le_of_ble_eq_true rfl) (f_Land_isDrunkByLaw_b0_ok hst (Nat.le_refl _) E)
abbrev mX10_firstUnlawful : MI := (RX10, cX10_firstUnlawful, 4, (some Jvm.ClassFile.FieldType.int), [], false)
theorem ws_X10_firstUnlawful : ∀ w ∈ wsM yX10_firstUnlawful mX10_firstUnlawful, w ∈ gw := List.forall_mem_cons.mpr ⟨gw_at 1295 (by decide +kernel) (by decide +kernel), fun _ h => h⟩
theorem kb_X10_398 : KB RX10 398 yX3_isDrunkByLaw mX3_isDrunkByLaw 2 := ⟨gw_at 1296 (by decide +kernel) (by decide +kernel), gw_at 113 (by decide +kernel) (by decide +kernel), trivial, ws_X3_isDrunkByLaw, by decide +kernel, by decide +kernel, by decide +kernel, by decide⟩
theorem ki_X3_isDrunkByLaw : Cond.instanceMethod yX3_isDrunkByLaw ∈ gw ∧ Cond.selects yX3_isDrunkByLaw.cls yX3_isDrunkByLaw yX3_isDrunkByLaw ∈ gw := ⟨gw_at 1297 (by decide +kernel) (by decide +kernel), gw_at 1298 (by decide +kernel) (by decide +kernel)⟩
def f_Water_firstUnlawful_b13  (k13 : Hp → Nat → Int32 → Option (Int32 × Hp)) (h : Hp) (x0 : Nat) (x1 : Int32)  : Option (Int32 × Hp) :=
if hS h x0 = 10 then (
if hS h (hR h x0 0) = 9 then (
if (hI h (hR h x0 0) 1) ≤ x1 then (
some ((-1 : Int32), h)

) else (
bI (f_Tape_byteAt h (hR h x0 0) x1) fun v4 h5 =>
if hS h5 x0 = 10 then (
if hS h5 (hR h5 x0 0) = 9 then (
bI (f_Tape_byteAt h5 (hR h5 x0 0) (x1 + (1 : Int32))) fun v9 h10 =>
if hS h10 x0 = 10 then (
if hS h10 (hR h10 x0 5) = 4 then (
bI (f_Land_isDrunkByLaw h10 (hR h10 x0 5) (v4 - (97 : Int32)) (v9 - (48 : Int32))) fun v14 h15 =>
if v14 = 0 then (
some ((x1 / (2 : Int32)), h15)

) else (
k13 h15 x0 (x1 + (2 : Int32))

)
) else none) else none) else none) else none
)
) else none) else none
set_option maxRecDepth 20000 in
set_option maxHeartbeats 4000000 in
theorem f_Water_firstUnlawful_b13_ok {l : Launch} {X : Nat × (Nat → Int32)} (hst : l.stackTraces = false) {d : Nat} (hd : 6 ≤ d)   {k13 : Hp → Nat → Int32 → Option (Int32 × Hp)} (hk13 : ∀ (h : Hp) (x0 : Nat) (x1 : Int32)  (r : Int32 × Hp), k13 h x0 x1 = some r → Rn l X mX10_firstUnlawful d 13 [(0, .ref x0), (1, .int x1)] [] h (eI r) r.2) {h : Hp} {x0 : Nat} {x1 : Int32}  {r : Int32 × Hp} (E : f_Water_firstUnlawful_b13  k13 h x0 x1 = some r) : Rn l X mX10_firstUnlawful d 13 [(0, .ref x0), (1, .int x1)] [] h (eI r) r.2 := by
  unfold f_Water_firstUnlawful_b13 at E
  refine Rn.iload_n (pc' := 14) dX10_firstUnlawful_13 rfl 1 rfl rfl ?_
  refine Rn.aload_n (pc' := 15) dX10_firstUnlawful_14 rfl 0 rfl rfl ?_
  obtain ⟨g1, E⟩ := gd_of E
  refine Rn.getR (pc' := 18) fl_X10_12_9 g1 rfl dX10_firstUnlawful_15 rfl ?_
  obtain ⟨g2, E⟩ := gd_of E
  refine Rn.getI (pc' := 21) fl_X10_66_8 g2 rfl dX10_firstUnlawful_18 rfl ?_
  refine Rn.icmp_ge (pc' := 24) (tgt := 72) dX10_firstUnlawful_21 (by decide) rfl (fun c3 => ?_) (fun c3 => ?_)
  · replace E := (if_of E).1 c3
    refine Rn.iconst (pc' := 73) (v := (-1 : Int32)) (hv := by decide) dX10_firstUnlawful_72 rfl ?_
    cases E
    exact Rn.zret rfl rfl dX10_firstUnlawful_73
  · replace E := (if_of E).2 c3
    refine Rn.aload_n (pc' := 25) dX10_firstUnlawful_24 rfl 0 rfl rfl ?_
    refine Rn.getR (pc' := 28) fl_X10_12_9 g1 rfl dX10_firstUnlawful_25 rfl ?_
    refine Rn.iload_n (pc' := 29) dX10_firstUnlawful_28 rfl 1 rfl rfl ?_
    obtain ⟨v4, h5, e6, E⟩ := bI_of E
    refine Rn.callV1 (pc' := 32) (As := [.int x1]) (rest := []) (f_Tape_byteAt_ok hst e6) (Nat.le_trans (by decide) hd) rfl kb_X10_395 ki_X9_byteAt rfl g2 rfl rfl (Nat.le_of_ble_eq_true rfl) dX10_firstUnlawful_29 rfl rfl ?_
    refine Rn.bipush (pc' := 34) (v := (97 : Int32)) (hv := by decide) dX10_firstUnlawful_32 rfl ?_
    refine Rn.isub (pc' := 35) dX10_firstUnlawful_34 rfl ?_
    refine Rn.istore_n (pc' := 36) (L' := [(2, .int (v4 - (97 : Int32))), (0, .ref x0), (1, .int x1)]) dX10_firstUnlawful_35 rfl (by decide) rfl rfl ?_
    refine Rn.aload_n (pc' := 37) dX10_firstUnlawful_36 rfl 1 rfl rfl ?_
    obtain ⟨g7, E⟩ := gd_of E
    refine Rn.getR (pc' := 40) fl_X10_12_9 g7 rfl dX10_firstUnlawful_37 rfl ?_
    refine Rn.iload_n (pc' := 41) dX10_firstUnlawful_40 rfl 2 rfl rfl ?_
    refine Rn.iconst (pc' := 42) (v := (1 : Int32)) (hv := by decide) dX10_firstUnlawful_41 rfl ?_
    refine Rn.iadd (pc' := 43) dX10_firstUnlawful_42 rfl ?_
    obtain ⟨g8, E⟩ := gd_of E
    obtain ⟨v9, h10, e11, E⟩ := bI_of E
    refine Rn.callV1 (pc' := 46) (As := [.int (x1 + (1 : Int32))]) (rest := []) (f_Tape_byteAt_ok hst e11) (Nat.le_trans (by decide) hd) rfl kb_X10_395 ki_X9_byteAt rfl g8 rfl rfl (Nat.le_of_ble_eq_true rfl) dX10_firstUnlawful_43 rfl rfl ?_
    refine Rn.bipush (pc' := 48) (v := (48 : Int32)) (hv := by decide) dX10_firstUnlawful_46 rfl ?_
    refine Rn.isub (pc' := 49) dX10_firstUnlawful_48 rfl ?_
    refine Rn.istore_n (pc' := 50) (L' := [(3, .int (v9 - (48 : Int32))), (2, .int (v4 - (97 : Int32))), (0, .ref x0), (1, .int x1)]) dX10_firstUnlawful_49 rfl (by decide) rfl rfl ?_
    refine Rn.aload_n (pc' := 51) dX10_firstUnlawful_50 rfl 2 rfl rfl ?_
    obtain ⟨g12, E⟩ := gd_of E
    refine Rn.getR (pc' := 54) fl_X10_46_9 g12 rfl dX10_firstUnlawful_51 rfl ?_
    refine Rn.iload_n (pc' := 55) dX10_firstUnlawful_54 rfl 1 rfl rfl ?_
    refine Rn.iload_n (pc' := 56) dX10_firstUnlawful_55 rfl 0 rfl rfl ?_
    obtain ⟨g13, E⟩ := gd_of E
    obtain ⟨v14, h15, e16, E⟩ := bI_of E
    refine Rn.callV1 (pc' := 59) (As := [.int (v4 - (97 : Int32)), .int (v9 - (48 : Int32))]) (rest := []) (f_Land_isDrunkByLaw_ok hst e16) (Nat.le_trans (by decide) hd) rfl kb_X10_398 ki_X3_isDrunkByLaw rfl g13 rfl rfl (Nat.le_of_ble_eq_true rfl) dX10_firstUnlawful_56 rfl rfl ?_
    refine Rn.if_ne (pc' := 62) (tgt := 66) dX10_firstUnlawful_59 (by decide) rfl (fun c17 => ?_) (fun c17 => ?_)
    · replace E := (if_of E).2 c17
      refine Rn.iinc (pc' := 69) (v := (x1 + (2 : Int32))) (L' := [(1, .int (x1 + (2 : Int32))), (3, .int (v9 - (48 : Int32))), (2, .int (v4 - (97 : Int32))), (0, .ref x0)]) dX10_firstUnlawful_66 3 rfl rfl (by decide) rfl rfl ?_
      refine Rn.goto (pc' := 13) dX10_firstUnlawful_69 (by decide) ?_
      refine Rn.sub [3, 0] rfl ?_
      exact hk13 _ _ _ _ E
    · replace E := (if_of E).1 c17
      refine Rn.iload_n (pc' := 63) dX10_firstUnlawful_62 rfl 3 rfl rfl ?_
      refine Rn.iconst (pc' := 64) (v := (2 : Int32)) (hv := by decide) dX10_firstUnlawful_63 rfl ?_
      refine Rn.idiv (pc' := 65) (hne := (by decide)) dX10_firstUnlawful_64 rfl ?_
      cases E
      exact Rn.zret rfl rfl dX10_firstUnlawful_65
def f_Water_firstUnlawful_L13   (n : Nat) : Hp → Nat → Int32 → Option (Int32 × Hp) := Nat.rec (motive := fun _ => Hp → Nat → Int32 → Option (Int32 × Hp)) (fun _ _ _ => none) (fun _ rec => f_Water_firstUnlawful_b13   rec) n
theorem f_Water_firstUnlawful_L13_ok {l : Launch} {X : Nat × (Nat → Int32)} (hst : l.stackTraces = false) {d : Nat} (hd : 6 ≤ d)     : ∀ (n : Nat) (h : Hp) (x0 : Nat) (x1 : Int32)  (r : Int32 × Hp), f_Water_firstUnlawful_L13   n h x0 x1 = some r → Rn l X mX10_firstUnlawful d 13 [(0, .ref x0), (1, .int x1)] [] h (eI r) r.2 := by
  intro n
  induction n with
  | zero => intro h x0 x1 r E; cases E
  | succ n ih => intro h x0 x1 r E; exact f_Water_firstUnlawful_b13_ok hst hd   ih E
def f_Water_firstUnlawful_b0   (h : Hp) (x0 : Nat)  : Option (Int32 × Hp) :=
if hS h x0 = 10 then (
if hS h (hR h x0 5) = 4 then (
bV (f_Land_copyFrom h (hR h x0 5) (hR h x0 4)) fun h4 =>
f_Water_firstUnlawful_L13   FU h4 x0 (0 : Int32)
) else none) else none
set_option maxRecDepth 20000 in
set_option maxHeartbeats 4000000 in
theorem f_Water_firstUnlawful_b0_ok {l : Launch} {X : Nat × (Nat → Int32)} (hst : l.stackTraces = false) {d : Nat} (hd : 6 ≤ d)     {h : Hp} {x0 : Nat}  {r : Int32 × Hp} (E : f_Water_firstUnlawful_b0   h x0 = some r) : Rn l X mX10_firstUnlawful d 0 [(0, .ref x0)] [] h (eI r) r.2 := by
  unfold f_Water_firstUnlawful_b0 at E
  refine Rn.aload_n (pc' := 1) dX10_firstUnlawful_0 rfl 0 rfl rfl ?_
  obtain ⟨g1, E⟩ := gd_of E
  refine Rn.getR (pc' := 4) fl_X10_46_9 g1 rfl dX10_firstUnlawful_1 rfl ?_
  refine Rn.aload_n (pc' := 5) dX10_firstUnlawful_4 rfl 0 rfl rfl ?_
  refine Rn.getR (pc' := 8) fl_X10_42_9 g1 rfl dX10_firstUnlawful_5 rfl ?_
  obtain ⟨g2, E⟩ := gd_of E
  obtain ⟨h4, e5, E⟩ := bV_of E
  refine Rn.callV1 (pc' := 11) (As := [.ref (hR h x0 4)]) (rest := []) (f_Land_copyFrom_ok hst e5) (Nat.le_trans (by decide) hd) rfl kb_X10_219 ki_X3_copyFrom rfl g2 rfl rfl (Nat.le_of_ble_eq_true rfl) dX10_firstUnlawful_8 rfl rfl ?_
  refine Rn.iconst (pc' := 12) (v := (0 : Int32)) (hv := by decide) dX10_firstUnlawful_11 rfl ?_
  refine Rn.istore_n (pc' := 13) (L' := [(1, .int (0 : Int32)), (0, .ref x0)]) dX10_firstUnlawful_12 rfl (by decide) rfl rfl ?_
  refine Rn.sub [1, 0] rfl ?_
  exact f_Water_firstUnlawful_L13_ok hst hd   FU _ _ _ _ E
def f_Water_firstUnlawful (h : Hp) (x0 : Nat) : Option (Int32 × Hp) := f_Water_firstUnlawful_b0  h x0
theorem f_Water_firstUnlawful_ok {l : Launch} {X : Nat × (Nat → Int32)} (hst : l.stackTraces = false) {h : Hp} {x0 : Nat} {r : Int32 × Hp} (E : f_Water_firstUnlawful h x0 = some r) : MC l X yX10_firstUnlawful mX10_firstUnlawful 6 [.ref x0] h (eI r) r.2 :=
  MC.body (by decide +kernel) rfl (by decide) hst (Nat.le_of_ble_eq_true rfl) (f_Water_firstUnlawful_b0_ok hst (Nat.le_refl _) E)
abbrev mX10_judge : MI := (RX10, cX10_judge, 3, (some Jvm.ClassFile.FieldType.int), [], false)
theorem ws_X10_judge : ∀ w ∈ wsM yX10_judge mX10_judge, w ∈ gw := List.forall_mem_cons.mpr ⟨gw_at 1286 (by decide +kernel) (by decide +kernel), fun _ h => h⟩
def f_Water_judge_b17   (h : Hp) (x0 : Nat) (x1 : Int32) (s0 : Int32) : Option ((Int32 ⊕ Nat) × Hp) :=
if hS h x0 = 10 then (
if hS h (hR h x0 0) = 9 then (
wr (sI h (hR h x0 0) 1 (0 : Int32)) fun h3 =>
if x1 = 0 then (
some (.inr 2, hA h3 0 0 6)

) else (
some (.inl s0, h3)

)
) else none) else none
set_option maxRecDepth 20000 in
set_option maxHeartbeats 4000000 in
theorem f_Water_judge_b17_ok {l : Launch} {X : Nat × (Nat → Int32)} (hst : l.stackTraces = false) {d : Nat} (hd : 7 ≤ d)     {h : Hp} {x0 : Nat} {x1 : Int32} {s0 : Int32} {r : (Int32 ⊕ Nat) × Hp} (E : f_Water_judge_b17   h x0 x1 s0 = some r) : Rn l X mX10_judge d 17 [(0, .ref x0), (1, .int x1)] [.int s0] h (xI r) r.2 := by
  unfold f_Water_judge_b17 at E
  refine Rn.istore_n (pc' := 18) (L' := [(2, .int s0), (0, .ref x0), (1, .int x1)]) dX10_judge_17 rfl (by decide) rfl rfl ?_
  refine Rn.aload_n (pc' := 19) dX10_judge_18 rfl 1 rfl rfl ?_
  obtain ⟨g1, E⟩ := gd_of E
  refine Rn.getR (pc' := 22) fl_X10_12_9 g1 rfl dX10_judge_19 rfl ?_
  refine Rn.iconst (pc' := 23) (v := (0 : Int32)) (hv := by decide) dX10_judge_22 rfl ?_
  obtain ⟨g2, E⟩ := gd_of E
  refine Rn.putI (pc' := 26) fl_X10_66_8 (fun q hq => by cases hq; decide) g2 rfl rfl rfl dX10_judge_23 rfl ?_
  replace E := wr_of E
  generalize eh4 : sI h (hR h x0 0) 1 (0 : Int32) = h3 at E ⊢
  refine Rn.iload_n (pc' := 27) dX10_judge_26 rfl 2 rfl rfl ?_
  refine Rn.if_ne (pc' := 30) (tgt := 41) dX10_judge_27 (by decide) rfl (fun c5 => ?_) (fun c5 => ?_)
  · replace E := (if_of E).2 c5
    refine Rn.iload_n (pc' := 42) dX10_judge_41 rfl 0 rfl rfl ?_
    cases E
    exact Rn.zret rfl rfl dX10_judge_42
  · replace E := (if_of E).1 c5
    cases E
    exact Rn.throwSW (x := 2) (i := 12) kt_X10_88_92 rfl rfl dX10_judge_30 dX10_judge_33 dX10_judge_34 dX10_judge_37 dX10_judge_40 (Nat.le_of_ble_eq_true rfl)
theorem kb_X10_257 : KB RX10 257 yX10_isRowOfDrinks mX10_isRowOfDrinks 0 := ⟨gw_at 1287 (by decide +kernel) (by decide +kernel), gw_at 107 (by decide +kernel) (by decide +kernel), trivial, ws_X10_isRowOfDrinks, by decide +kernel, by decide +kernel, by decide +kernel, by decide⟩
theorem ki_X10_isRowOfDrinks : Cond.instanceMethod yX10_isRowOfDrinks ∈ gw ∧ Cond.selects yX10_isRowOfDrinks.cls yX10_isRowOfDrinks yX10_isRowOfDrinks ∈ gw := ⟨gw_at 1289 (by decide +kernel) (by decide +kernel), gw_at 35 (by decide +kernel) (by decide +kernel)⟩
theorem kb_X10_260 : KB RX10 260 yX10_firstUnlawful mX10_firstUnlawful 0 := ⟨gw_at 1292 (by decide +kernel) (by decide +kernel), gw_at 107 (by decide +kernel) (by decide +kernel), trivial, ws_X10_firstUnlawful, by decide +kernel, by decide +kernel, by decide +kernel, by decide⟩
theorem ki_X10_firstUnlawful : Cond.instanceMethod yX10_firstUnlawful ∈ gw ∧ Cond.selects yX10_firstUnlawful.cls yX10_firstUnlawful yX10_firstUnlawful ∈ gw := ⟨gw_at 1294 (by decide +kernel) (by decide +kernel), gw_at 36 (by decide +kernel) (by decide +kernel)⟩
def f_Water_judge_b0   (h : Hp) (x0 : Nat)  : Option ((Int32 ⊕ Nat) × Hp) :=
if hS h x0 = 10 then (
bI (f_Water_isRowOfDrinks h x0) fun v2 h3 =>
if v2 = 0 then (
f_Water_judge_b17   h3 x0 v2 (-1 : Int32)

) else (
if hS h3 x0 = 10 then (
bI (f_Water_firstUnlawful h3 x0) fun v7 h8 =>
f_Water_judge_b17   h8 x0 v2 v7
) else none
)
) else none
set_option maxRecDepth 20000 in
set_option maxHeartbeats 4000000 in
theorem f_Water_judge_b0_ok {l : Launch} {X : Nat × (Nat → Int32)} (hst : l.stackTraces = false) {d : Nat} (hd : 7 ≤ d)     {h : Hp} {x0 : Nat}  {r : (Int32 ⊕ Nat) × Hp} (E : f_Water_judge_b0   h x0 = some r) : Rn l X mX10_judge d 0 [(0, .ref x0)] [] h (xI r) r.2 := by
  unfold f_Water_judge_b0 at E
  refine Rn.aload_n (pc' := 1) dX10_judge_0 rfl 0 rfl rfl ?_
  obtain ⟨g1, E⟩ := gd_of E
  obtain ⟨v2, h3, e4, E⟩ := bI_of E
  refine Rn.callV1 (pc' := 4) (As := []) (rest := []) (f_Water_isRowOfDrinks_ok hst e4) (Nat.le_trans (by decide) hd) rfl kb_X10_257 ki_X10_isRowOfDrinks rfl g1 rfl rfl (Nat.le_of_ble_eq_true rfl) dX10_judge_1 rfl rfl ?_
  refine Rn.istore_n (pc' := 5) (L' := [(1, .int v2), (0, .ref x0)]) dX10_judge_4 rfl (by decide) rfl rfl ?_
  refine Rn.iload_n (pc' := 6) dX10_judge_5 rfl 0 rfl rfl ?_
  refine Rn.if_eq (pc' := 9) (tgt := 16) dX10_judge_6 (by decide) rfl (fun c5 => ?_) (fun c5 => ?_)
  · replace E := (if_of E).1 c5
    refine Rn.iconst (pc' := 17) (v := (-1 : Int32)) (hv := by decide) dX10_judge_16 rfl ?_
    refine Rn.sub [1, 0] rfl ?_
    exact f_Water_judge_b17_ok hst hd   E
  · replace E := (if_of E).2 c5
    refine Rn.aload_n (pc' := 10) dX10_judge_9 rfl 1 rfl rfl ?_
    obtain ⟨g6, E⟩ := gd_of E
    obtain ⟨v7, h8, e9, E⟩ := bI_of E
    refine Rn.callV1 (pc' := 13) (As := []) (rest := []) (f_Water_firstUnlawful_ok hst e9) (Nat.le_trans (by decide) hd) rfl kb_X10_260 ki_X10_firstUnlawful rfl g6 rfl rfl (Nat.le_of_ble_eq_true rfl) dX10_judge_10 rfl rfl ?_
    refine Rn.goto (pc' := 17) dX10_judge_13 (by decide) ?_
    refine Rn.sub [1, 0] rfl ?_
    exact f_Water_judge_b17_ok hst hd   E
def f_Water_judge (h : Hp) (x0 : Nat) : Option ((Int32 ⊕ Nat) × Hp) := f_Water_judge_b0  h x0
theorem f_Water_judge_ok {l : Launch} {X : Nat × (Nat → Int32)} (hst : l.stackTraces = false) {h : Hp} {x0 : Nat} {r : (Int32 ⊕ Nat) × Hp} (E : f_Water_judge h x0 = some r) : MC l X yX10_judge mX10_judge 7 [.ref x0] h (xI r) r.2 :=
  MC.body (by decide +kernel) rfl (by decide) hst (Nat.le_of_ble_eq_true rfl) (f_Water_judge_b0_ok hst (Nat.le_refl _) E)
abbrev mL_judge : MI := (RL, cL_judge, 3, (some Jvm.ClassFile.FieldType.int), [(0, 8, 11, 13)], false)
theorem ws_L_judge : ∀ w ∈ wsM yL_judge mL_judge, w ∈ gw := List.forall_mem_cons.mpr ⟨gw_at 1282 (by decide +kernel) (by decide +kernel), fun _ h => h⟩
theorem kb_L_64 : KB RL 64 yX10_judge mX10_judge 0 := ⟨gw_at 1283 (by decide +kernel) (by decide +kernel), gw_at 107 (by decide +kernel) (by decide +kernel), trivial, ws_X10_judge, by decide +kernel, by decide +kernel, by decide +kernel, by decide⟩
theorem ki_X10_judge : Cond.instanceMethod yX10_judge ∈ gw ∧ Cond.selects yX10_judge.cls yX10_judge yX10_judge ∈ gw := ⟨gw_at 1284 (by decide +kernel) (by decide +kernel), gw_at 1285 (by decide +kernel) (by decide +kernel)⟩
def f_Lw_judge_b0   (h : Hp) (x0 : Nat) (x1 : Nat)  : Option (Int32 × Hp) :=
if hS h x0 = 10 then (
bC (f_Water_judge h x0) (fun v2 h3 =>
if hS h3 x1 = 22 then (
if ib (0 : Int32) (hL h3 x1) = true then (
wr (sJ h3 x1 (ix (0 : Int32)) (Int32.toInt64 v2)) fun h7 =>
some ((0 : Int32), h7)
) else none) else none
) (fun x_ h3 =>
if x_ = 2 then (
some ((1 : Int32), h3)

) else (
none))
) else none
set_option maxRecDepth 20000 in
set_option maxHeartbeats 4000000 in
theorem f_Lw_judge_b0_ok {l : Launch} {X : Nat × (Nat → Int32)} (hst : l.stackTraces = false) {d : Nat} (hd : 8 ≤ d)     {h : Hp} {x0 : Nat} {x1 : Nat}  {r : Int32 × Hp} (E : f_Lw_judge_b0   h x0 x1 = some r) : Rn l X mL_judge d 0 [(0, .ref x0), (1, .ref x1)] [] h (eI r) r.2 := by
  unfold f_Lw_judge_b0 at E
  refine Rn.aload_n (pc' := 1) dL_judge_0 rfl 1 rfl rfl ?_
  refine Rn.iconst (pc' := 2) (v := (0 : Int32)) (hv := by decide) dL_judge_1 rfl ?_
  refine Rn.aload_n (pc' := 3) dL_judge_2 rfl 0 rfl rfl ?_
  obtain ⟨g1, E⟩ := gd_of E
  rcases bC_of E with ⟨v2, h3, e4, E⟩ | ⟨x_, h3, e4, E⟩
  · refine Rn.callV1 (pc' := 6) (As := []) (rest := [.int (0 : Int32), .ref x1]) (f_Water_judge_ok hst e4) (Nat.le_trans (by decide) hd) rfl kb_L_64 ki_X10_judge rfl g1 rfl rfl (Nat.le_of_ble_eq_true rfl) dL_judge_3 rfl rfl ?_
    refine Rn.i2l (pc' := 7) dL_judge_6 rfl ?_
    obtain ⟨g5, E⟩ := gd_of E
    obtain ⟨g6, E⟩ := gd_of E
    refine Rn.last (pc' := 8) g5 g6 dL_judge_7 rfl ?_
    replace E := wr_of E
    generalize eh8 : sJ h3 x1 (ix (0 : Int32)) (Int32.toInt64 v2) = h7 at E ⊢
    refine Rn.goto (pc' := 14) dL_judge_8 (by decide) ?_
    refine Rn.iconst (pc' := 15) (v := (0 : Int32)) (hv := by decide) dL_judge_14 rfl ?_
    cases E
    exact Rn.zret rfl rfl dL_judge_15
  · refine Rn.callVX (As := []) (rest := [.int (0 : Int32), .ref x1]) (f_Water_judge_ok hst e4) (Nat.le_trans (by decide) hd) rfl kb_L_64 ki_X10_judge rfl g1 rfl rfl (Nat.le_of_ble_eq_true rfl) dL_judge_3 ?_
    by_cases c9 : x_ = 2
    · replace E := (if_of E).1 c9
      subst c9
      refine RnX.catch (x := 2) (i := 2) (pch := 12) 0 rfl (pre0) (by decide) (by decide) kk_L_13 (by decide) (Or.inl ⟨2, rfl, dL_judge_11, rfl⟩) (by decide) ?_
      change Rn _ _ _ _ _ [(0, .ref x0), (1, .ref x1)] _ _ _ _
      refine Rn.iconst (pc' := 13) (v := (1 : Int32)) (hv := by decide) dL_judge_12 rfl ?_
      cases E
      exact Rn.zret rfl rfl dL_judge_13
    replace E := (if_of E).2 c9
    cases E
def f_Lw_judge (h : Hp) (x0 : Nat) (x1 : Nat) : Option (Int32 × Hp) := f_Lw_judge_b0  h x0 x1
theorem f_Lw_judge_ok {l : Launch} {X : Nat × (Nat → Int32)} (hst : l.stackTraces = false) {h : Hp} {x0 : Nat} {x1 : Nat} {r : Int32 × Hp} (E : f_Lw_judge h x0 x1 = some r) : MC l X yL_judge mL_judge 8 [.ref x0, .ref x1] h (eI r) r.2 :=
  MC.body (by decide +kernel) rfl (by decide) hst (Nat.le_of_ble_eq_true rfl) (f_Lw_judge_b0_ok hst (Nat.le_refl _) E)
abbrev mX11_isLawful : MI := (RX11, cX11_isLawful, 4, (some Jvm.ClassFile.FieldType.boolean), [], false)
theorem ws_X11_isLawful : ∀ w ∈ wsM yX11_isLawful mX11_isLawful, w ∈ gw := List.forall_mem_cons.mpr ⟨gw_at 1864 (by decide +kernel) (by decide +kernel), fun _ h => h⟩
def f_Model_isLawful_b0   (h : Hp) (x0 : Nat) (x1 : Int32) (x2 : Int32)  : Option (Int32 × Hp) :=
if hS h x0 = 11 then (
bI (f_Model_ofHouse h x0 x1 (1 : Int32)) fun v2 h3 =>
if hS h3 x0 = 11 then (
bI (f_Model_nextOf h3 x0 v2) fun v6 h7 =>
if v6 = x2 then (
if hS h7 x0 = 11 then (
if hS h7 (hR h7 x0 1) = 20 then (
if ib ((35 : Int32) + x2) (hL h7 (hR h7 x0 1)) = true then (
bI (f_Model_ofHouse h7 x0 x1 (2 : Int32)) fun v13 h14 =>
if v13 < (hI h7 (hR h7 x0 1) (ix ((35 : Int32) + x2))) then (
some ((0 : Int32), h14)

) else (
some ((1 : Int32), h14)

)
) else none) else none) else none
) else (
some ((0 : Int32), h7)

)
) else none) else none
set_option maxRecDepth 20000 in
set_option maxHeartbeats 4000000 in
theorem f_Model_isLawful_b0_ok {l : Launch} {X : Nat × (Nat → Int32)} (hst : l.stackTraces = false) {d : Nat} (hd : 6 ≤ d)     {h : Hp} {x0 : Nat} {x1 : Int32} {x2 : Int32}  {r : Int32 × Hp} (E : f_Model_isLawful_b0   h x0 x1 x2 = some r) : Rn l X mX11_isLawful d 0 [(0, .ref x0), (1, .int x1), (2, .int x2)] [] h (eI r) r.2 := by
  unfold f_Model_isLawful_b0 at E
  refine Rn.aload_n (pc' := 1) dX11_isLawful_0 rfl 0 rfl rfl ?_
  refine Rn.iload_n (pc' := 2) dX11_isLawful_1 rfl 1 rfl rfl ?_
  refine Rn.iconst (pc' := 3) (v := (1 : Int32)) (hv := by decide) dX11_isLawful_2 rfl ?_
  obtain ⟨g1, E⟩ := gd_of E
  obtain ⟨v2, h3, e4, E⟩ := bI_of E
  refine Rn.callV1 (pc' := 6) (As := [.int x1, .int (1 : Int32)]) (rest := []) (f_Model_ofHouse_ok hst e4) (Nat.le_trans (by decide) hd) rfl kb_X11_151 ki_X11_ofHouse rfl g1 rfl rfl (Nat.le_of_ble_eq_true rfl) dX11_isLawful_3 rfl rfl ?_
  refine Rn.istore_n (pc' := 7) (L' := [(3, .int v2), (0, .ref x0), (1, .int x1), (2, .int x2)]) dX11_isLawful_6 rfl (by decide) rfl rfl ?_
  refine Rn.aload_n (pc' := 8) dX11_isLawful_7 rfl 1 rfl rfl ?_
  refine Rn.iload_n (pc' := 9) dX11_isLawful_8 rfl 0 rfl rfl ?_
  obtain ⟨g5, E⟩ := gd_of E
  obtain ⟨v6, h7, e8, E⟩ := bI_of E
  refine Rn.callV1 (pc' := 12) (As := [.int v2]) (rest := []) (f_Model_nextOf_ok hst e8) (Nat.le_trans (by decide) hd) rfl kb_X11_299 ki_X11_nextOf rfl g5 rfl rfl (Nat.le_of_ble_eq_true rfl) dX11_isLawful_9 rfl rfl ?_
  refine Rn.iload_n (pc' := 13) dX11_isLawful_12 rfl 3 rfl rfl ?_
  refine Rn.icmp_ne (pc' := 16) (tgt := 38) dX11_isLawful_13 (by decide) rfl (fun c9 => ?_) (fun c9 => ?_)
  · replace E := (if_of E).2 c9
    refine Rn.iconst (pc' := 39) (v := (0 : Int32)) (hv := by decide) dX11_isLawful_38 rfl ?_
    cases E
    exact Rn.zret rfl rfl dX11_isLawful_39
  · replace E := (if_of E).1 c9
    refine Rn.aload_n (pc' := 17) dX11_isLawful_16 rfl 1 rfl rfl ?_
    obtain ⟨g10, E⟩ := gd_of E
    refine Rn.getR (pc' := 20) fl_X11_13_10 g10 rfl dX11_isLawful_17 rfl ?_
    refine Rn.bipush (pc' := 22) (v := (35 : Int32)) (hv := by decide) dX11_isLawful_20 rfl ?_
    refine Rn.iload_n (pc' := 23) dX11_isLawful_22 rfl 3 rfl rfl ?_
    refine Rn.iadd (pc' := 24) dX11_isLawful_23 rfl ?_
    obtain ⟨g11, E⟩ := gd_of E
    obtain ⟨g12, E⟩ := gd_of E
    refine Rn.iald (pc' := 25) g11 g12 dX11_isLawful_24 rfl ?_
    refine Rn.aload_n (pc' := 26) dX11_isLawful_25 rfl 1 rfl rfl ?_
    refine Rn.iload_n (pc' := 27) dX11_isLawful_26 rfl 2 rfl rfl ?_
    refine Rn.iconst (pc' := 28) (v := (2 : Int32)) (hv := by decide) dX11_isLawful_27 rfl ?_
    obtain ⟨v13, h14, e15, E⟩ := bI_of E
    refine Rn.callV1 (pc' := 31) (As := [.int x1, .int (2 : Int32)]) (rest := [.int (hI h7 (hR h7 x0 1) (ix ((35 : Int32) + x2)))]) (f_Model_ofHouse_ok hst e15) (Nat.le_trans (by decide) hd) rfl kb_X11_151 ki_X11_ofHouse rfl g10 rfl rfl (Nat.le_of_ble_eq_true rfl) dX11_isLawful_28 rfl rfl ?_
    refine Rn.icmp_gt (pc' := 34) (tgt := 38) dX11_isLawful_31 (by decide) rfl (fun c16 => ?_) (fun c16 => ?_)
    · replace E := (if_of E).1 c16
      refine Rn.iconst (pc' := 39) (v := (0 : Int32)) (hv := by decide) dX11_isLawful_38 rfl ?_
      cases E
      exact Rn.zret rfl rfl dX11_isLawful_39
    · replace E := (if_of E).2 c16
      refine Rn.iconst (pc' := 35) (v := (1 : Int32)) (hv := by decide) dX11_isLawful_34 rfl ?_
      refine Rn.goto (pc' := 39) dX11_isLawful_35 (by decide) ?_
      cases E
      exact Rn.zret rfl rfl dX11_isLawful_39
def f_Model_isLawful (h : Hp) (x0 : Nat) (x1 : Int32) (x2 : Int32) : Option (Int32 × Hp) := f_Model_isLawful_b0  h x0 x1 x2
theorem f_Model_isLawful_ok {l : Launch} {X : Nat × (Nat → Int32)} (hst : l.stackTraces = false) {h : Hp} {x0 : Nat} {x1 : Int32} {x2 : Int32} {r : Int32 × Hp} (E : f_Model_isLawful h x0 x1 x2 = some r) : MC l X yX11_isLawful mX11_isLawful 6 [.ref x0, .int x1, .int x2] h (eI r) r.2 :=
  MC.body (by decide +kernel) rfl (by decide) hst (Nat.le_of_ble_eq_true rfl) (f_Model_isLawful_b0_ok hst (Nat.le_refl _) E)
abbrev mX11_judge : MI := (RX11, cX11_judge, 6, (some Jvm.ClassFile.FieldType.int), [], false)
theorem ws_X11_judge : ∀ w ∈ wsM yX11_judge mX11_judge, w ∈ gw := List.forall_mem_cons.mpr ⟨gw_at 1860 (by decide +kernel) (by decide +kernel), fun _ h => h⟩
def f_Model_judge_b79  (k22 : Hp → Nat → Int32 → Int32 → Option (Int32 × Hp)) (h : Hp) (x0 : Nat) (x2 : Int32) (s0 : Int32) : Option (Int32 × Hp) :=
k22 h x0 s0 (x2 + (1 : Int32))

set_option maxRecDepth 20000 in
set_option maxHeartbeats 4000000 in
theorem f_Model_judge_b79_ok {l : Launch} {X : Nat × (Nat → Int32)} (hst : l.stackTraces = false) {d : Nat} (hd : 7 ≤ d)   {k22 : Hp → Nat → Int32 → Int32 → Option (Int32 × Hp)} (hk22 : ∀ (h : Hp) (x0 : Nat) (x1 : Int32) (x2 : Int32)  (r : Int32 × Hp), k22 h x0 x1 x2 = some r → Rn l X mX11_judge d 22 [(0, .ref x0), (1, .int x1), (2, .int x2)] [] h (eI r) r.2) {h : Hp} {x0 : Nat} {x2 : Int32} {s0 : Int32} {r : Int32 × Hp} (E : f_Model_judge_b79  k22 h x0 x2 s0 = some r) : Rn l X mX11_judge d 79 [(0, .ref x0), (2, .int x2)] [.int s0] h (eI r) r.2 := by
  unfold f_Model_judge_b79 at E
  refine Rn.istore_n (pc' := 80) (L' := [(1, .int s0), (0, .ref x0), (2, .int x2)]) dX11_judge_79 rfl (by decide) rfl rfl ?_
  refine Rn.iinc (pc' := 83) (v := (x2 + (1 : Int32))) (L' := [(2, .int (x2 + (1 : Int32))), (1, .int s0), (0, .ref x0)]) dX11_judge_80 2 rfl rfl (by decide) rfl rfl ?_
  refine Rn.goto (pc' := 22) dX11_judge_83 (by decide) ?_
  refine Rn.sub [2, 1, 0] rfl ?_
  exact hk22 _ _ _ _ _ E
def f_Model_judge_b74  (k22 : Hp → Nat → Int32 → Int32 → Option (Int32 × Hp)) (h : Hp) (x0 : Nat) (x2 : Int32)  : Option (Int32 × Hp) :=
f_Model_judge_b79  k22 h x0 x2 (1 : Int32)

set_option maxRecDepth 20000 in
set_option maxHeartbeats 4000000 in
theorem f_Model_judge_b74_ok {l : Launch} {X : Nat × (Nat → Int32)} (hst : l.stackTraces = false) {d : Nat} (hd : 7 ≤ d)   {k22 : Hp → Nat → Int32 → Int32 → Option (Int32 × Hp)} (hk22 : ∀ (h : Hp) (x0 : Nat) (x1 : Int32) (x2 : Int32)  (r : Int32 × Hp), k22 h x0 x1 x2 = some r → Rn l X mX11_judge d 22 [(0, .ref x0), (1, .int x1), (2, .int x2)] [] h (eI r) r.2) {h : Hp} {x0 : Nat} {x2 : Int32}  {r : Int32 × Hp} (E : f_Model_judge_b74  k22 h x0 x2 = some r) : Rn l X mX11_judge d 74 [(0, .ref x0), (2, .int x2)] [] h (eI r) r.2 := by
  unfold f_Model_judge_b74 at E
  refine Rn.iconst (pc' := 75) (v := (1 : Int32)) (hv := by decide) dX11_judge_74 rfl ?_
  refine Rn.goto (pc' := 79) dX11_judge_75 (by decide) ?_
  exact f_Model_judge_b79_ok hst hd  hk22 E
def f_Model_judge_b78  (k22 : Hp → Nat → Int32 → Int32 → Option (Int32 × Hp)) (h : Hp) (x0 : Nat) (x2 : Int32)  : Option (Int32 × Hp) :=
f_Model_judge_b79  k22 h x0 x2 (0 : Int32)

set_option maxRecDepth 20000 in
set_option maxHeartbeats 4000000 in
theorem f_Model_judge_b78_ok {l : Launch} {X : Nat × (Nat → Int32)} (hst : l.stackTraces = false) {d : Nat} (hd : 7 ≤ d)   {k22 : Hp → Nat → Int32 → Int32 → Option (Int32 × Hp)} (hk22 : ∀ (h : Hp) (x0 : Nat) (x1 : Int32) (x2 : Int32)  (r : Int32 × Hp), k22 h x0 x1 x2 = some r → Rn l X mX11_judge d 22 [(0, .ref x0), (1, .int x1), (2, .int x2)] [] h (eI r) r.2) {h : Hp} {x0 : Nat} {x2 : Int32}  {r : Int32 × Hp} (E : f_Model_judge_b78  k22 h x0 x2 = some r) : Rn l X mX11_judge d 78 [(0, .ref x0), (2, .int x2)] [] h (eI r) r.2 := by
  unfold f_Model_judge_b78 at E
  refine Rn.iconst (pc' := 79) (v := (0 : Int32)) (hv := by decide) dX11_judge_78 rfl ?_
  exact f_Model_judge_b79_ok hst hd  hk22 E
def f_Model_judge_b177  (k105 : Hp → Nat → Int32 → Int32 → Option (Int32 × Hp)) (h : Hp) (x0 : Nat) (x2 : Int32) (x3 : Int32)  : Option (Int32 × Hp) :=
k105 h x0 x2 (x3 + (1 : Int32))

set_option maxRecDepth 20000 in
set_option maxHeartbeats 4000000 in
theorem f_Model_judge_b177_ok {l : Launch} {X : Nat × (Nat → Int32)} (hst : l.stackTraces = false) {d : Nat} (hd : 7 ≤ d)   {k105 : Hp → Nat → Int32 → Int32 → Option (Int32 × Hp)} (hk105 : ∀ (h : Hp) (x0 : Nat) (x2 : Int32) (x3 : Int32)  (r : Int32 × Hp), k105 h x0 x2 x3 = some r → Rn l X mX11_judge d 105 [(0, .ref x0), (2, .int x2), (3, .int x3)] [] h (eI r) r.2) {h : Hp} {x0 : Nat} {x2 : Int32} {x3 : Int32}  {r : Int32 × Hp} (E : f_Model_judge_b177  k105 h x0 x2 x3 = some r) : Rn l X mX11_judge d 177 [(0, .ref x0), (2, .int x2), (3, .int x3)] [] h (eI r) r.2 := by
  unfold f_Model_judge_b177 at E
  refine Rn.iinc (pc' := 180) (v := (x3 + (1 : Int32))) (L' := [(3, .int (x3 + (1 : Int32))), (0, .ref x0), (2, .int x2)]) dX11_judge_177 2 rfl rfl (by decide) rfl rfl ?_
  refine Rn.goto (pc' := 105) dX11_judge_180 (by decide) ?_
  refine Rn.sub [1, 2, 0] rfl ?_
  exact hk105 _ _ _ _ _ E
def f_Model_judge_b183   (h : Hp) (x0 : Nat) (x2 : Int32)  : Option (Int32 × Hp) :=
if hS h x0 = 11 then (
bV (f_Model_laysBack h x0) fun h3 =>
some (x2, h3)
) else none
set_option maxRecDepth 20000 in
set_option maxHeartbeats 4000000 in
theorem f_Model_judge_b183_ok {l : Launch} {X : Nat × (Nat → Int32)} (hst : l.stackTraces = false) {d : Nat} (hd : 7 ≤ d)     {h : Hp} {x0 : Nat} {x2 : Int32}  {r : Int32 × Hp} (E : f_Model_judge_b183   h x0 x2 = some r) : Rn l X mX11_judge d 183 [(0, .ref x0), (2, .int x2)] [] h (eI r) r.2 := by
  unfold f_Model_judge_b183 at E
  refine Rn.aload_n (pc' := 184) dX11_judge_183 rfl 0 rfl rfl ?_
  obtain ⟨g1, E⟩ := gd_of E
  obtain ⟨h3, e4, E⟩ := bV_of E
  refine Rn.callV1 (pc' := 187) (As := []) (rest := []) (f_Model_laysBack_ok hst e4) (Nat.le_trans (by decide) hd) rfl kb_X11_335 ki_X11_laysBack rfl g1 rfl rfl (Nat.le_of_ble_eq_true rfl) dX11_judge_184 rfl rfl ?_
  refine Rn.iload_n (pc' := 188) dX11_judge_187 rfl 1 rfl rfl ?_
  cases E
  exact Rn.zret rfl rfl dX11_judge_188
theorem kb_X11_341 : KB RX11 341 yX11_isLawful mX11_isLawful 2 := ⟨gw_at 1861 (by decide +kernel) (by decide +kernel), gw_at 117 (by decide +kernel) (by decide +kernel), trivial, ws_X11_isLawful, by decide +kernel, by decide +kernel, by decide +kernel, by decide⟩
theorem ki_X11_isLawful : Cond.instanceMethod yX11_isLawful ∈ gw ∧ Cond.selects yX11_isLawful.cls yX11_isLawful yX11_isLawful ∈ gw := ⟨gw_at 1863 (by decide +kernel) (by decide +kernel), gw_at 100 (by decide +kernel) (by decide +kernel)⟩
def f_Model_judge_b105  (k105 : Hp → Nat → Int32 → Int32 → Option (Int32 × Hp)) (h : Hp) (x0 : Nat) (x2 : Int32) (x3 : Int32)  : Option (Int32 × Hp) :=
if hS h x0 = 11 then (
if ((hI h x0 11) / (2 : Int32)) ≤ x3 then (
f_Model_judge_b183   h x0 x2

) else (
if 0 ≤ x2 then (
f_Model_judge_b183   h x0 x2

) else (
if hS h (hR h x0 8) = 21 then (
if ib ((2 : Int32) * x3) (hL h (hR h x0 8)) = true then (
if ib (((2 : Int32) * x3) + (1 : Int32)) (hL h (hR h x0 8)) = true then (
bI (f_Model_isLawful h x0 ((hI h (hR h x0 8) (ix ((2 : Int32) * x3))) - (97 : Int32)) ((hI h (hR h x0 8) (ix (((2 : Int32) * x3) + (1 : Int32)))) - (48 : Int32))) fun v7 h8 =>
if v7 = 0 then (
f_Model_judge_b177  k105 h8 x0 x3 x3

) else (
if hS h8 x0 = 11 then (
bI (f_Model_ofHouse h8 x0 ((hI h (hR h x0 8) (ix ((2 : Int32) * x3))) - (97 : Int32)) (1 : Int32)) fun v12 h13 =>
if hS h13 x0 = 11 then (
bV (f_Model_adds h13 x0 v12 ((hI h (hR h x0 8) (ix (((2 : Int32) * x3) + (1 : Int32)))) - (48 : Int32)) (-1 : Int32)) fun h17 =>
f_Model_judge_b177  k105 h17 x0 x2 x3
) else none) else none
)
) else none) else none) else none
)

)
) else none
set_option maxRecDepth 20000 in
set_option maxHeartbeats 4000000 in
theorem f_Model_judge_b105_ok {l : Launch} {X : Nat × (Nat → Int32)} (hst : l.stackTraces = false) {d : Nat} (hd : 7 ≤ d)   {k105 : Hp → Nat → Int32 → Int32 → Option (Int32 × Hp)} (hk105 : ∀ (h : Hp) (x0 : Nat) (x2 : Int32) (x3 : Int32)  (r : Int32 × Hp), k105 h x0 x2 x3 = some r → Rn l X mX11_judge d 105 [(0, .ref x0), (2, .int x2), (3, .int x3)] [] h (eI r) r.2) {h : Hp} {x0 : Nat} {x2 : Int32} {x3 : Int32}  {r : Int32 × Hp} (E : f_Model_judge_b105  k105 h x0 x2 x3 = some r) : Rn l X mX11_judge d 105 [(0, .ref x0), (2, .int x2), (3, .int x3)] [] h (eI r) r.2 := by
  unfold f_Model_judge_b105 at E
  refine Rn.iload_n (pc' := 106) dX11_judge_105 rfl 2 rfl rfl ?_
  refine Rn.aload_n (pc' := 107) dX11_judge_106 rfl 0 rfl rfl ?_
  obtain ⟨g1, E⟩ := gd_of E
  refine Rn.getI (pc' := 110) fl_X11_92_10 g1 rfl dX11_judge_107 rfl ?_
  refine Rn.iconst (pc' := 111) (v := (2 : Int32)) (hv := by decide) dX11_judge_110 rfl ?_
  refine Rn.idiv (pc' := 112) (hne := (by decide)) dX11_judge_111 rfl ?_
  refine Rn.icmp_ge (pc' := 115) (tgt := 183) dX11_judge_112 (by decide) rfl (fun c2 => ?_) (fun c2 => ?_)
  · replace E := (if_of E).1 c2
    refine Rn.sub [0, 1] rfl ?_
    exact f_Model_judge_b183_ok hst hd   E
  · replace E := (if_of E).2 c2
    refine Rn.iload_n (pc' := 116) dX11_judge_115 rfl 1 rfl rfl ?_
    refine Rn.if_ge (pc' := 119) (tgt := 183) dX11_judge_116 (by decide) rfl (fun c3 => ?_) (fun c3 => ?_)
    · replace E := (if_of E).1 c3
      refine Rn.sub [0, 1] rfl ?_
      exact f_Model_judge_b183_ok hst hd   E
    · replace E := (if_of E).2 c3
      refine Rn.aload_n (pc' := 120) dX11_judge_119 rfl 0 rfl rfl ?_
      refine Rn.getR (pc' := 123) fl_X11_29_10 g1 rfl dX11_judge_120 rfl ?_
      refine Rn.iconst (pc' := 124) (v := (2 : Int32)) (hv := by decide) dX11_judge_123 rfl ?_
      refine Rn.iload_n (pc' := 125) dX11_judge_124 rfl 2 rfl rfl ?_
      refine Rn.imul (pc' := 126) dX11_judge_125 rfl ?_
      obtain ⟨g4, E⟩ := gd_of E
      obtain ⟨g5, E⟩ := gd_of E
      refine Rn.bald (pc' := 127) g4 g5 dX11_judge_126 rfl ?_
      refine Rn.bipush (pc' := 129) (v := (97 : Int32)) (hv := by decide) dX11_judge_127 rfl ?_
      refine Rn.isub (pc' := 130) dX11_judge_129 rfl ?_
      refine Rn.istore (pc' := 132) (L' := [(4, .int ((hI h (hR h x0 8) (ix ((2 : Int32) * x3))) - (97 : Int32))), (0, .ref x0), (2, .int x2), (3, .int x3)]) dX11_judge_130 (by decide) rfl rfl ?_
      refine Rn.aload_n (pc' := 133) dX11_judge_132 rfl 1 rfl rfl ?_
      refine Rn.getR (pc' := 136) fl_X11_29_10 g1 rfl dX11_judge_133 rfl ?_
      refine Rn.iconst (pc' := 137) (v := (2 : Int32)) (hv := by decide) dX11_judge_136 rfl ?_
      refine Rn.iload_n (pc' := 138) dX11_judge_137 rfl 3 rfl rfl ?_
      refine Rn.imul (pc' := 139) dX11_judge_138 rfl ?_
      refine Rn.iconst (pc' := 140) (v := (1 : Int32)) (hv := by decide) dX11_judge_139 rfl ?_
      refine Rn.iadd (pc' := 141) dX11_judge_140 rfl ?_
      obtain ⟨g6, E⟩ := gd_of E
      refine Rn.bald (pc' := 142) g4 g6 dX11_judge_141 rfl ?_
      refine Rn.bipush (pc' := 144) (v := (48 : Int32)) (hv := by decide) dX11_judge_142 rfl ?_
      refine Rn.isub (pc' := 145) dX11_judge_144 rfl ?_
      refine Rn.istore (pc' := 147) (L' := [(5, .int ((hI h (hR h x0 8) (ix (((2 : Int32) * x3) + (1 : Int32)))) - (48 : Int32))), (4, .int ((hI h (hR h x0 8) (ix ((2 : Int32) * x3))) - (97 : Int32))), (0, .ref x0), (2, .int x2), (3, .int x3)]) dX11_judge_145 (by decide) rfl rfl ?_
      refine Rn.aload_n (pc' := 148) dX11_judge_147 rfl 2 rfl rfl ?_
      refine Rn.iload (pc' := 150) dX11_judge_148 1 rfl rfl ?_
      refine Rn.iload (pc' := 152) dX11_judge_150 0 rfl rfl ?_
      obtain ⟨v7, h8, e9, E⟩ := bI_of E
      refine Rn.callV1 (pc' := 155) (As := [.int ((hI h (hR h x0 8) (ix ((2 : Int32) * x3))) - (97 : Int32)), .int ((hI h (hR h x0 8) (ix (((2 : Int32) * x3) + (1 : Int32)))) - (48 : Int32))]) (rest := []) (f_Model_isLawful_ok hst e9) (Nat.le_trans (by decide) hd) rfl kb_X11_341 ki_X11_isLawful rfl g1 rfl rfl (Nat.le_of_ble_eq_true rfl) dX11_judge_152 rfl rfl ?_
      refine Rn.if_eq (pc' := 158) (tgt := 175) dX11_judge_155 (by decide) rfl (fun c10 => ?_) (fun c10 => ?_)
      · replace E := (if_of E).1 c10
        refine Rn.iload_n (pc' := 176) dX11_judge_175 rfl 4 rfl rfl ?_
        refine Rn.istore_n (pc' := 177) (L' := [(2, .int x3), (5, .int ((hI h (hR h x0 8) (ix (((2 : Int32) * x3) + (1 : Int32)))) - (48 : Int32))), (4, .int ((hI h (hR h x0 8) (ix ((2 : Int32) * x3))) - (97 : Int32))), (0, .ref x0), (3, .int x3)]) dX11_judge_176 rfl (by decide) rfl rfl ?_
        refine Rn.sub [3, 0, 4] rfl ?_
        exact f_Model_judge_b177_ok hst hd  hk105 E
      · replace E := (if_of E).2 c10
        refine Rn.aload_n (pc' := 159) dX11_judge_158 rfl 2 rfl rfl ?_
        refine Rn.aload_n (pc' := 160) dX11_judge_159 rfl 2 rfl rfl ?_
        refine Rn.iload (pc' := 162) dX11_judge_160 1 rfl rfl ?_
        refine Rn.iconst (pc' := 163) (v := (1 : Int32)) (hv := by decide) dX11_judge_162 rfl ?_
        obtain ⟨g11, E⟩ := gd_of E
        obtain ⟨v12, h13, e14, E⟩ := bI_of E
        refine Rn.callV1 (pc' := 166) (As := [.int ((hI h (hR h x0 8) (ix ((2 : Int32) * x3))) - (97 : Int32)), .int (1 : Int32)]) (rest := [.ref x0]) (f_Model_ofHouse_ok hst e14) (Nat.le_trans (by decide) hd) rfl kb_X11_151 ki_X11_ofHouse rfl g11 rfl rfl (Nat.le_of_ble_eq_true rfl) dX11_judge_163 rfl rfl ?_
        refine Rn.iload (pc' := 168) dX11_judge_166 0 rfl rfl ?_
        refine Rn.iconst (pc' := 169) (v := (-1 : Int32)) (hv := by decide) dX11_judge_168 rfl ?_
        obtain ⟨g15, E⟩ := gd_of E
        obtain ⟨h17, e18, E⟩ := bV_of E
        refine Rn.callV1 (pc' := 172) (As := [.int v12, .int ((hI h (hR h x0 8) (ix (((2 : Int32) * x3) + (1 : Int32)))) - (48 : Int32)), .int (-1 : Int32)]) (rest := []) (f_Model_adds_ok hst e18) (Nat.le_trans (by decide) hd) rfl kb_X11_82 ki_X11_adds rfl g15 rfl rfl (Nat.le_of_ble_eq_true rfl) dX11_judge_169 rfl rfl ?_
        refine Rn.goto (pc' := 177) dX11_judge_172 (by decide) ?_
        refine Rn.sub [2, 3, 4] rfl ?_
        exact f_Model_judge_b177_ok hst hd  hk105 E
def f_Model_judge_L105   (n : Nat) : Hp → Nat → Int32 → Int32 → Option (Int32 × Hp) := Nat.rec (motive := fun _ => Hp → Nat → Int32 → Int32 → Option (Int32 × Hp)) (fun _ _ _ _ => none) (fun _ rec => f_Model_judge_b105   rec) n
theorem f_Model_judge_L105_ok {l : Launch} {X : Nat × (Nat → Int32)} (hst : l.stackTraces = false) {d : Nat} (hd : 7 ≤ d)     : ∀ (n : Nat) (h : Hp) (x0 : Nat) (x2 : Int32) (x3 : Int32)  (r : Int32 × Hp), f_Model_judge_L105   n h x0 x2 x3 = some r → Rn l X mX11_judge d 105 [(0, .ref x0), (2, .int x2), (3, .int x3)] [] h (eI r) r.2 := by
  intro n
  induction n with
  | zero => intro h x0 x2 x3 r E; cases E
  | succ n ih => intro h x0 x2 x3 r E; exact f_Model_judge_b105_ok hst hd   ih E
def f_Model_judge_b22  (k22 : Hp → Nat → Int32 → Int32 → Option (Int32 × Hp)) (h : Hp) (x0 : Nat) (x1 : Int32) (x2 : Int32)  : Option (Int32 × Hp) :=
if hS h x0 = 11 then (
if (hI h x0 11) ≤ x2 then (
bI (f_Model_throwsIf h x0 x1 (1 : Int32)) fun v3 h4 =>
if v3 = 0 then (
if hS h4 x0 = 11 then (
bV (f_Model_keeps h4 x0) fun h9 =>
f_Model_judge_L105   FU h9 x0 (-1 : Int32) (0 : Int32)
) else none
) else (
some ((0 : Int32), h4)

)

) else (
if x1 = 0 then (
if (jrem x2 (2 : Int32)) = 0 then (
if hS h (hR h x0 8) = 21 then (
if ib x2 (hL h (hR h x0 8)) = true then (
bI (f_Model_noHouse h x0 ((hI h (hR h x0 8) (ix x2)) - (97 : Int32))) fun v15 h16 =>
if v15 = 0 then (
f_Model_judge_b78  k22 h16 x0 x2

) else (
f_Model_judge_b74  k22 h16 x0 x2

)
) else none) else none
) else (
if hS h (hR h x0 8) = 21 then (
if ib x2 (hL h (hR h x0 8)) = true then (
bI (f_Model_noYear h ((hI h (hR h x0 8) (ix x2)) - (48 : Int32))) fun v21 h22 =>
if v21 = 0 then (
f_Model_judge_b78  k22 h22 x0 x2

) else (
f_Model_judge_b74  k22 h22 x0 x2

)
) else none) else none
)

) else (
f_Model_judge_b74  k22 h x0 x2

)

)
) else none
set_option maxRecDepth 20000 in
set_option maxHeartbeats 4000000 in
theorem f_Model_judge_b22_ok {l : Launch} {X : Nat × (Nat → Int32)} (hst : l.stackTraces = false) {d : Nat} (hd : 7 ≤ d)   {k22 : Hp → Nat → Int32 → Int32 → Option (Int32 × Hp)} (hk22 : ∀ (h : Hp) (x0 : Nat) (x1 : Int32) (x2 : Int32)  (r : Int32 × Hp), k22 h x0 x1 x2 = some r → Rn l X mX11_judge d 22 [(0, .ref x0), (1, .int x1), (2, .int x2)] [] h (eI r) r.2) {h : Hp} {x0 : Nat} {x1 : Int32} {x2 : Int32}  {r : Int32 × Hp} (E : f_Model_judge_b22  k22 h x0 x1 x2 = some r) : Rn l X mX11_judge d 22 [(0, .ref x0), (1, .int x1), (2, .int x2)] [] h (eI r) r.2 := by
  unfold f_Model_judge_b22 at E
  refine Rn.iload_n (pc' := 23) dX11_judge_22 rfl 2 rfl rfl ?_
  refine Rn.aload_n (pc' := 24) dX11_judge_23 rfl 0 rfl rfl ?_
  obtain ⟨g1, E⟩ := gd_of E
  refine Rn.getI (pc' := 27) fl_X11_92_10 g1 rfl dX11_judge_24 rfl ?_
  refine Rn.icmp_ge (pc' := 30) (tgt := 86) dX11_judge_27 (by decide) rfl (fun c2 => ?_) (fun c2 => ?_)
  · replace E := (if_of E).1 c2
    refine Rn.aload_n (pc' := 87) dX11_judge_86 rfl 0 rfl rfl ?_
    refine Rn.iload_n (pc' := 88) dX11_judge_87 rfl 1 rfl rfl ?_
    refine Rn.iconst (pc' := 89) (v := (1 : Int32)) (hv := by decide) dX11_judge_88 rfl ?_
    obtain ⟨v3, h4, e5, E⟩ := bI_of E
    refine Rn.callV1 (pc' := 92) (As := [.int x1, .int (1 : Int32)]) (rest := []) (f_Model_throwsIf_ok hst e5) (Nat.le_trans (by decide) hd) rfl kb_X11_265 ki_X11_throwsIf rfl g1 rfl rfl (Nat.le_of_ble_eq_true rfl) dX11_judge_89 rfl rfl ?_
    refine Rn.if_eq (pc' := 95) (tgt := 97) dX11_judge_92 (by decide) rfl (fun c6 => ?_) (fun c6 => ?_)
    · replace E := (if_of E).1 c6
      refine Rn.aload_n (pc' := 98) dX11_judge_97 rfl 0 rfl rfl ?_
      obtain ⟨g7, E⟩ := gd_of E
      obtain ⟨h9, e10, E⟩ := bV_of E
      refine Rn.callV1 (pc' := 101) (As := []) (rest := []) (f_Model_keeps_ok hst e10) (Nat.le_trans (by decide) hd) rfl kb_X11_332 ki_X11_keeps rfl g7 rfl rfl (Nat.le_of_ble_eq_true rfl) dX11_judge_98 rfl rfl ?_
      refine Rn.iconst (pc' := 102) (v := (-1 : Int32)) (hv := by decide) dX11_judge_101 rfl ?_
      refine Rn.istore_n (pc' := 103) (L' := [(2, .int (-1 : Int32)), (0, .ref x0), (1, .int x1)]) dX11_judge_102 rfl (by decide) rfl rfl ?_
      refine Rn.iconst (pc' := 104) (v := (0 : Int32)) (hv := by decide) dX11_judge_103 rfl ?_
      refine Rn.istore_n (pc' := 105) (L' := [(3, .int (0 : Int32)), (2, .int (-1 : Int32)), (0, .ref x0), (1, .int x1)]) dX11_judge_104 rfl (by decide) rfl rfl ?_
      refine Rn.sub [2, 1, 0] rfl ?_
      exact f_Model_judge_L105_ok hst hd   FU _ _ _ _ _ E
    · replace E := (if_of E).2 c6
      refine Rn.iconst (pc' := 96) (v := (0 : Int32)) (hv := by decide) dX11_judge_95 rfl ?_
      cases E
      exact Rn.zret rfl rfl dX11_judge_96
  · replace E := (if_of E).2 c2
    refine Rn.iload_n (pc' := 31) dX11_judge_30 rfl 1 rfl rfl ?_
    refine Rn.if_ne (pc' := 34) (tgt := 74) dX11_judge_31 (by decide) rfl (fun c11 => ?_) (fun c11 => ?_)
    · replace E := (if_of E).2 c11
      refine Rn.sub [0, 2] rfl ?_
      exact f_Model_judge_b74_ok hst hd  hk22 E
    · replace E := (if_of E).1 c11
      refine Rn.iload_n (pc' := 35) dX11_judge_34 rfl 2 rfl rfl ?_
      refine Rn.iconst (pc' := 36) (v := (2 : Int32)) (hv := by decide) dX11_judge_35 rfl ?_
      refine Rn.irem (pc' := 37) (hne := (by decide)) dX11_judge_36 rfl ?_
      refine Rn.if_ne (pc' := 40) (tgt := 59) dX11_judge_37 (by decide) rfl (fun c12 => ?_) (fun c12 => ?_)
      · replace E := (if_of E).2 c12
        refine Rn.aload_n (pc' := 60) dX11_judge_59 rfl 0 rfl rfl ?_
        refine Rn.getR (pc' := 63) fl_X11_29_10 g1 rfl dX11_judge_60 rfl ?_
        refine Rn.iload_n (pc' := 64) dX11_judge_63 rfl 2 rfl rfl ?_
        obtain ⟨g19, E⟩ := gd_of E
        obtain ⟨g20, E⟩ := gd_of E
        refine Rn.bald (pc' := 65) g19 g20 dX11_judge_64 rfl ?_
        refine Rn.bipush (pc' := 67) (v := (48 : Int32)) (hv := by decide) dX11_judge_65 rfl ?_
        refine Rn.isub (pc' := 68) dX11_judge_67 rfl ?_
        obtain ⟨v21, h22, e23, E⟩ := bI_of E
        refine Rn.callS1 (pc' := 71) (As := [.int ((hI h (hR h x0 8) (ix x2)) - (48 : Int32))]) (rest := []) (f_Model_noYear_ok hst e23) (Nat.le_trans (by decide) hd) rfl kb_X11_290 ks_X11_noYear rfl rfl (Nat.le_of_ble_eq_true rfl) dX11_judge_68 rfl rfl ?_
        refine Rn.if_eq (pc' := 74) (tgt := 78) dX11_judge_71 (by decide) rfl (fun c24 => ?_) (fun c24 => ?_)
        · replace E := (if_of E).1 c24
          refine Rn.sub [0, 2] rfl ?_
          exact f_Model_judge_b78_ok hst hd  hk22 E
        · replace E := (if_of E).2 c24
          refine Rn.sub [0, 2] rfl ?_
          exact f_Model_judge_b74_ok hst hd  hk22 E
      · replace E := (if_of E).1 c12
        refine Rn.aload_n (pc' := 41) dX11_judge_40 rfl 0 rfl rfl ?_
        refine Rn.aload_n (pc' := 42) dX11_judge_41 rfl 0 rfl rfl ?_
        refine Rn.getR (pc' := 45) fl_X11_29_10 g1 rfl dX11_judge_42 rfl ?_
        refine Rn.iload_n (pc' := 46) dX11_judge_45 rfl 2 rfl rfl ?_
        obtain ⟨g13, E⟩ := gd_of E
        obtain ⟨g14, E⟩ := gd_of E
        refine Rn.bald (pc' := 47) g13 g14 dX11_judge_46 rfl ?_
        refine Rn.bipush (pc' := 49) (v := (97 : Int32)) (hv := by decide) dX11_judge_47 rfl ?_
        refine Rn.isub (pc' := 50) dX11_judge_49 rfl ?_
        obtain ⟨v15, h16, e17, E⟩ := bI_of E
        refine Rn.callV1 (pc' := 53) (As := [.int ((hI h (hR h x0 8) (ix x2)) - (97 : Int32))]) (rest := []) (f_Model_noHouse_ok hst e17) (Nat.le_trans (by decide) hd) rfl kb_X11_293 ki_X11_noHouse rfl g1 rfl rfl (Nat.le_of_ble_eq_true rfl) dX11_judge_50 rfl rfl ?_
        refine Rn.if_eq (pc' := 56) (tgt := 78) dX11_judge_53 (by decide) rfl (fun c18 => ?_) (fun c18 => ?_)
        · replace E := (if_of E).1 c18
          refine Rn.sub [0, 2] rfl ?_
          exact f_Model_judge_b78_ok hst hd  hk22 E
        · replace E := (if_of E).2 c18
          refine Rn.goto (pc' := 74) dX11_judge_56 (by decide) ?_
          refine Rn.sub [0, 2] rfl ?_
          exact f_Model_judge_b74_ok hst hd  hk22 E
def f_Model_judge_L22   (n : Nat) : Hp → Nat → Int32 → Int32 → Option (Int32 × Hp) := Nat.rec (motive := fun _ => Hp → Nat → Int32 → Int32 → Option (Int32 × Hp)) (fun _ _ _ _ => none) (fun _ rec => f_Model_judge_b22   rec) n
theorem f_Model_judge_L22_ok {l : Launch} {X : Nat × (Nat → Int32)} (hst : l.stackTraces = false) {d : Nat} (hd : 7 ≤ d)     : ∀ (n : Nat) (h : Hp) (x0 : Nat) (x1 : Int32) (x2 : Int32)  (r : Int32 × Hp), f_Model_judge_L22   n h x0 x1 x2 = some r → Rn l X mX11_judge d 22 [(0, .ref x0), (1, .int x1), (2, .int x2)] [] h (eI r) r.2 := by
  intro n
  induction n with
  | zero => intro h x0 x1 x2 r E; cases E
  | succ n ih => intro h x0 x1 x2 r E; exact f_Model_judge_b22_ok hst hd   ih E
def f_Model_judge_b19   (h : Hp) (x0 : Nat) (s0 : Int32) : Option (Int32 × Hp) :=
f_Model_judge_L22   FU h x0 s0 (0 : Int32)

set_option maxRecDepth 20000 in
set_option maxHeartbeats 4000000 in
theorem f_Model_judge_b19_ok {l : Launch} {X : Nat × (Nat → Int32)} (hst : l.stackTraces = false) {d : Nat} (hd : 7 ≤ d)     {h : Hp} {x0 : Nat} {s0 : Int32} {r : Int32 × Hp} (E : f_Model_judge_b19   h x0 s0 = some r) : Rn l X mX11_judge d 19 [(0, .ref x0)] [.int s0] h (eI r) r.2 := by
  unfold f_Model_judge_b19 at E
  refine Rn.istore_n (pc' := 20) (L' := [(1, .int s0), (0, .ref x0)]) dX11_judge_19 rfl (by decide) rfl rfl ?_
  refine Rn.iconst (pc' := 21) (v := (0 : Int32)) (hv := by decide) dX11_judge_20 rfl ?_
  refine Rn.istore_n (pc' := 22) (L' := [(2, .int (0 : Int32)), (1, .int s0), (0, .ref x0)]) dX11_judge_21 rfl (by decide) rfl rfl ?_
  refine Rn.sub [2, 1, 0] rfl ?_
  exact f_Model_judge_L22_ok hst hd   FU _ _ _ _ _ E
def f_Model_judge_b0   (h : Hp) (x0 : Nat)  : Option (Int32 × Hp) :=
if hS h x0 = 11 then (
bV (f_Model_uses h x0) fun h3 =>
if hS h3 x0 = 11 then (
if (jrem (hI h3 x0 11) (2 : Int32)) = (1 : Int32) then (
f_Model_judge_b19   h3 x0 (1 : Int32)

) else (
f_Model_judge_b19   h3 x0 (0 : Int32)

)
) else none) else none
set_option maxRecDepth 20000 in
set_option maxHeartbeats 4000000 in
theorem f_Model_judge_b0_ok {l : Launch} {X : Nat × (Nat → Int32)} (hst : l.stackTraces = false) {d : Nat} (hd : 7 ≤ d)     {h : Hp} {x0 : Nat}  {r : Int32 × Hp} (E : f_Model_judge_b0   h x0 = some r) : Rn l X mX11_judge d 0 [(0, .ref x0)] [] h (eI r) r.2 := by
  unfold f_Model_judge_b0 at E
  refine Rn.aload_n (pc' := 1) dX11_judge_0 rfl 0 rfl rfl ?_
  obtain ⟨g1, E⟩ := gd_of E
  obtain ⟨h3, e4, E⟩ := bV_of E
  refine Rn.callV1 (pc' := 4) (As := []) (rest := []) (f_Model_uses_ok hst e4) (Nat.le_trans (by decide) hd) rfl kb_X11_254 ki_X11_uses rfl g1 rfl rfl (Nat.le_of_ble_eq_true rfl) dX11_judge_1 rfl rfl ?_
  refine Rn.aload_n (pc' := 5) dX11_judge_4 rfl 0 rfl rfl ?_
  obtain ⟨g5, E⟩ := gd_of E
  refine Rn.getI (pc' := 8) fl_X11_92_10 g5 rfl dX11_judge_5 rfl ?_
  refine Rn.iconst (pc' := 9) (v := (2 : Int32)) (hv := by decide) dX11_judge_8 rfl ?_
  refine Rn.irem (pc' := 10) (hne := (by decide)) dX11_judge_9 rfl ?_
  refine Rn.iconst (pc' := 11) (v := (1 : Int32)) (hv := by decide) dX11_judge_10 rfl ?_
  refine Rn.icmp_ne (pc' := 14) (tgt := 18) dX11_judge_11 (by decide) rfl (fun c6 => ?_) (fun c6 => ?_)
  · replace E := (if_of E).2 c6
    refine Rn.iconst (pc' := 19) (v := (0 : Int32)) (hv := by decide) dX11_judge_18 rfl ?_
    exact f_Model_judge_b19_ok hst hd   E
  · replace E := (if_of E).1 c6
    refine Rn.iconst (pc' := 15) (v := (1 : Int32)) (hv := by decide) dX11_judge_14 rfl ?_
    refine Rn.goto (pc' := 19) dX11_judge_15 (by decide) ?_
    exact f_Model_judge_b19_ok hst hd   E
def f_Model_judge (h : Hp) (x0 : Nat) : Option (Int32 × Hp) := f_Model_judge_b0  h x0
theorem f_Model_judge_ok {l : Launch} {X : Nat × (Nat → Int32)} (hst : l.stackTraces = false) {h : Hp} {x0 : Nat} {r : Int32 × Hp} (E : f_Model_judge h x0 = some r) : MC l X yX11_judge mX11_judge 7 [.ref x0] h (eI r) r.2 :=
  MC.body (by decide +kernel) rfl (by decide) hst (Nat.le_of_ble_eq_true rfl) (f_Model_judge_b0_ok hst (Nat.le_refl _) E)
abbrev mX3_firstThirsty : MI := (RX3, cX3_firstThirsty, 2, (some Jvm.ClassFile.FieldType.int), [], false)
theorem ws_X3_firstThirsty : ∀ w ∈ wsM yX3_firstThirsty mX3_firstThirsty, w ∈ gw := List.forall_mem_cons.mpr ⟨gw_at 638 (by decide +kernel) (by decide +kernel), fun _ h => h⟩
def f_Land_firstThirsty_b2  (k2 : Hp → Nat → Int32 → Option (Int32 × Hp)) (h : Hp) (x0 : Nat) (x1 : Int32)  : Option (Int32 × Hp) :=
if hS h x0 = 4 then (
if (hI h x0 1) ≤ x1 then (
some ((-1 : Int32), h)

) else (
if hS h (hR h x0 4) = 24 then (
if ib x1 (hL h (hR h x0 4)) = true then (
if hS h (hR h (hR h x0 4) (ix x1)) = 3 then (
if (hI h (hR h (hR h x0 4) (ix x1)) 4) ≤ 0 then (
k2 h x0 (x1 + (1 : Int32))

) else (
some (x1, h)

)
) else none) else none) else none
)
) else none
set_option maxRecDepth 20000 in
set_option maxHeartbeats 4000000 in
theorem f_Land_firstThirsty_b2_ok {l : Launch} {X : Nat × (Nat → Int32)} (hst : l.stackTraces = false) {d : Nat} (hd : 0 ≤ d)   {k2 : Hp → Nat → Int32 → Option (Int32 × Hp)} (hk2 : ∀ (h : Hp) (x0 : Nat) (x1 : Int32)  (r : Int32 × Hp), k2 h x0 x1 = some r → Rn l X mX3_firstThirsty d 2 [(0, .ref x0), (1, .int x1)] [] h (eI r) r.2) {h : Hp} {x0 : Nat} {x1 : Int32}  {r : Int32 × Hp} (E : f_Land_firstThirsty_b2  k2 h x0 x1 = some r) : Rn l X mX3_firstThirsty d 2 [(0, .ref x0), (1, .int x1)] [] h (eI r) r.2 := by
  unfold f_Land_firstThirsty_b2 at E
  refine Rn.iload_n (pc' := 3) dX3_firstThirsty_2 rfl 1 rfl rfl ?_
  refine Rn.aload_n (pc' := 4) dX3_firstThirsty_3 rfl 0 rfl rfl ?_
  obtain ⟨g1, E⟩ := gd_of E
  refine Rn.getI (pc' := 7) fl_X3_46_3 g1 rfl dX3_firstThirsty_4 rfl ?_
  refine Rn.icmp_ge (pc' := 10) (tgt := 30) dX3_firstThirsty_7 (by decide) rfl (fun c2 => ?_) (fun c2 => ?_)
  · replace E := (if_of E).1 c2
    refine Rn.iconst (pc' := 31) (v := (-1 : Int32)) (hv := by decide) dX3_firstThirsty_30 rfl ?_
    cases E
    exact Rn.zret rfl rfl dX3_firstThirsty_31
  · replace E := (if_of E).2 c2
    refine Rn.aload_n (pc' := 11) dX3_firstThirsty_10 rfl 0 rfl rfl ?_
    refine Rn.getR (pc' := 14) fl_X3_19_3 g1 rfl dX3_firstThirsty_11 rfl ?_
    refine Rn.iload_n (pc' := 15) dX3_firstThirsty_14 rfl 1 rfl rfl ?_
    obtain ⟨g3, E⟩ := gd_of E
    obtain ⟨g4, E⟩ := gd_of E
    refine Rn.aald (pc' := 16) g3 (by decide) (by decide) g4 dX3_firstThirsty_15 rfl ?_
    obtain ⟨g5, E⟩ := gd_of E
    refine Rn.getI (pc' := 19) fl_X3_147_2 g5 rfl dX3_firstThirsty_16 rfl ?_
    refine Rn.if_le (pc' := 22) (tgt := 24) dX3_firstThirsty_19 (by decide) rfl (fun c6 => ?_) (fun c6 => ?_)
    · replace E := (if_of E).1 c6
      refine Rn.iinc (pc' := 27) (v := (x1 + (1 : Int32))) (L' := [(1, .int (x1 + (1 : Int32))), (0, .ref x0)]) dX3_firstThirsty_24 1 rfl rfl (by decide) rfl rfl ?_
      refine Rn.goto (pc' := 2) dX3_firstThirsty_27 (by decide) ?_
      refine Rn.sub [1, 0] rfl ?_
      exact hk2 _ _ _ _ E
    · replace E := (if_of E).2 c6
      refine Rn.iload_n (pc' := 23) dX3_firstThirsty_22 rfl 1 rfl rfl ?_
      cases E
      exact Rn.zret rfl rfl dX3_firstThirsty_23
def f_Land_firstThirsty_L2   (n : Nat) : Hp → Nat → Int32 → Option (Int32 × Hp) := Nat.rec (motive := fun _ => Hp → Nat → Int32 → Option (Int32 × Hp)) (fun _ _ _ => none) (fun _ rec => f_Land_firstThirsty_b2   rec) n
theorem f_Land_firstThirsty_L2_ok {l : Launch} {X : Nat × (Nat → Int32)} (hst : l.stackTraces = false) {d : Nat} (hd : 0 ≤ d)     : ∀ (n : Nat) (h : Hp) (x0 : Nat) (x1 : Int32)  (r : Int32 × Hp), f_Land_firstThirsty_L2   n h x0 x1 = some r → Rn l X mX3_firstThirsty d 2 [(0, .ref x0), (1, .int x1)] [] h (eI r) r.2 := by
  intro n
  induction n with
  | zero => intro h x0 x1 r E; cases E
  | succ n ih => intro h x0 x1 r E; exact f_Land_firstThirsty_b2_ok hst hd   ih E
def f_Land_firstThirsty_b0   (h : Hp) (x0 : Nat)  : Option (Int32 × Hp) :=
f_Land_firstThirsty_L2   FU h x0 (0 : Int32)

set_option maxRecDepth 20000 in
set_option maxHeartbeats 4000000 in
theorem f_Land_firstThirsty_b0_ok {l : Launch} {X : Nat × (Nat → Int32)} (hst : l.stackTraces = false) {d : Nat} (hd : 0 ≤ d)     {h : Hp} {x0 : Nat}  {r : Int32 × Hp} (E : f_Land_firstThirsty_b0   h x0 = some r) : Rn l X mX3_firstThirsty d 0 [(0, .ref x0)] [] h (eI r) r.2 := by
  unfold f_Land_firstThirsty_b0 at E
  refine Rn.iconst (pc' := 1) (v := (0 : Int32)) (hv := by decide) dX3_firstThirsty_0 rfl ?_
  refine Rn.istore_n (pc' := 2) (L' := [(1, .int (0 : Int32)), (0, .ref x0)]) dX3_firstThirsty_1 rfl (by decide) rfl rfl ?_
  refine Rn.sub [1, 0] rfl ?_
  exact f_Land_firstThirsty_L2_ok hst hd   FU _ _ _ _ E
def f_Land_firstThirsty (h : Hp) (x0 : Nat) : Option (Int32 × Hp) := f_Land_firstThirsty_b0  h x0
theorem f_Land_firstThirsty_ok {l : Launch} {X : Nat × (Nat → Int32)} (hst : l.stackTraces = false) {h : Hp} {x0 : Nat} {r : Int32 × Hp} (E : f_Land_firstThirsty h x0 = some r) : MC l X yX3_firstThirsty mX3_firstThirsty 0 [.ref x0] h (eI r) r.2 :=
  MC.body (by decide +kernel) rfl (by decide) hst (Nat.le_of_ble_eq_true rfl) (f_Land_firstThirsty_b0_ok hst (Nat.le_refl _) E)
abbrev mX10_worst : MI := (RX10, cX10_worst, 1, (some Jvm.ClassFile.FieldType.int), [], false)
theorem ws_X10_worst : ∀ w ∈ wsM yX10_worst mX10_worst, w ∈ gw := List.forall_mem_cons.mpr ⟨gw_at 634 (by decide +kernel) (by decide +kernel), fun _ h => h⟩
theorem kb_X10_254 : KB RX10 254 yX3_firstThirsty mX3_firstThirsty 0 := ⟨gw_at 635 (by decide +kernel) (by decide +kernel), gw_at 113 (by decide +kernel) (by decide +kernel), trivial, ws_X3_firstThirsty, by decide +kernel, by decide +kernel, by decide +kernel, by decide⟩
theorem ki_X3_firstThirsty : Cond.instanceMethod yX3_firstThirsty ∈ gw ∧ Cond.selects yX3_firstThirsty.cls yX3_firstThirsty yX3_firstThirsty ∈ gw := ⟨gw_at 636 (by decide +kernel) (by decide +kernel), gw_at 637 (by decide +kernel) (by decide +kernel)⟩
def f_Water_worst_b0   (h : Hp) (x0 : Nat)  : Option (Int32 × Hp) :=
if hS h x0 = 10 then (
if hS h (hR h x0 5) = 4 then (
bV (f_Land_copyFrom h (hR h x0 5) (hR h x0 4)) fun h4 =>
if hS h4 x0 = 10 then (
if hS h4 (hR h4 x0 5) = 4 then (
bI (f_Land_passQuietMonths h4 (hR h4 x0 5) (60 : Int32)) fun v8 h9 =>
if v8 = (60 : Int32) then (
some ((-1 : Int32), h9)

) else (
if hS h9 x0 = 10 then (
if hS h9 (hR h9 x0 5) = 4 then (
bI (f_Land_firstThirsty h9 (hR h9 x0 5)) fun v14 h15 =>
some (v14, h15)
) else none) else none
)
) else none) else none) else none) else none
set_option maxRecDepth 20000 in
set_option maxHeartbeats 4000000 in
theorem f_Water_worst_b0_ok {l : Launch} {X : Nat × (Nat → Int32)} (hst : l.stackTraces = false) {d : Nat} (hd : 7 ≤ d)     {h : Hp} {x0 : Nat}  {r : Int32 × Hp} (E : f_Water_worst_b0   h x0 = some r) : Rn l X mX10_worst d 0 [(0, .ref x0)] [] h (eI r) r.2 := by
  unfold f_Water_worst_b0 at E
  refine Rn.aload_n (pc' := 1) dX10_worst_0 rfl 0 rfl rfl ?_
  obtain ⟨g1, E⟩ := gd_of E
  refine Rn.getR (pc' := 4) fl_X10_46_9 g1 rfl dX10_worst_1 rfl ?_
  refine Rn.aload_n (pc' := 5) dX10_worst_4 rfl 0 rfl rfl ?_
  refine Rn.getR (pc' := 8) fl_X10_42_9 g1 rfl dX10_worst_5 rfl ?_
  obtain ⟨g2, E⟩ := gd_of E
  obtain ⟨h4, e5, E⟩ := bV_of E
  refine Rn.callV1 (pc' := 11) (As := [.ref (hR h x0 4)]) (rest := []) (f_Land_copyFrom_ok hst e5) (Nat.le_trans (by decide) hd) rfl kb_X10_219 ki_X3_copyFrom rfl g2 rfl rfl (Nat.le_of_ble_eq_true rfl) dX10_worst_8 rfl rfl ?_
  refine Rn.aload_n (pc' := 12) dX10_worst_11 rfl 0 rfl rfl ?_
  obtain ⟨g6, E⟩ := gd_of E
  refine Rn.getR (pc' := 15) fl_X10_46_9 g6 rfl dX10_worst_12 rfl ?_
  refine Rn.bipush (pc' := 17) (v := (60 : Int32)) (hv := by decide) dX10_worst_15 rfl ?_
  obtain ⟨g7, E⟩ := gd_of E
  obtain ⟨v8, h9, e10, E⟩ := bI_of E
  refine Rn.callV1 (pc' := 20) (As := [.int (60 : Int32)]) (rest := []) (f_Land_passQuietMonths_ok hst e10) (Nat.le_trans (by decide) hd) rfl kb_X10_251 ki_X3_passQuietMonths rfl g7 rfl rfl (Nat.le_of_ble_eq_true rfl) dX10_worst_17 rfl rfl ?_
  refine Rn.bipush (pc' := 22) (v := (60 : Int32)) (hv := by decide) dX10_worst_20 rfl ?_
  refine Rn.icmp_ne (pc' := 25) (tgt := 27) dX10_worst_22 (by decide) rfl (fun c11 => ?_) (fun c11 => ?_)
  · replace E := (if_of E).2 c11
    refine Rn.aload_n (pc' := 28) dX10_worst_27 rfl 0 rfl rfl ?_
    obtain ⟨g12, E⟩ := gd_of E
    refine Rn.getR (pc' := 31) fl_X10_46_9 g12 rfl dX10_worst_28 rfl ?_
    obtain ⟨g13, E⟩ := gd_of E
    obtain ⟨v14, h15, e16, E⟩ := bI_of E
    refine Rn.callV1 (pc' := 34) (As := []) (rest := []) (f_Land_firstThirsty_ok hst e16) (Nat.le_trans (by decide) hd) rfl kb_X10_254 ki_X3_firstThirsty rfl g13 rfl rfl (Nat.le_of_ble_eq_true rfl) dX10_worst_31 rfl rfl ?_
    cases E
    exact Rn.zret rfl rfl dX10_worst_34
  · replace E := (if_of E).1 c11
    refine Rn.iconst (pc' := 26) (v := (-1 : Int32)) (hv := by decide) dX10_worst_25 rfl ?_
    cases E
    exact Rn.zret rfl rfl dX10_worst_26
def f_Water_worst (h : Hp) (x0 : Nat) : Option (Int32 × Hp) := f_Water_worst_b0  h x0
theorem f_Water_worst_ok {l : Launch} {X : Nat × (Nat → Int32)} (hst : l.stackTraces = false) {h : Hp} {x0 : Nat} {r : Int32 × Hp} (E : f_Water_worst h x0 = some r) : MC l X yX10_worst mX10_worst 7 [.ref x0] h (eI r) r.2 :=
  MC.body (by decide +kernel) rfl (by decide) hst (Nat.le_of_ble_eq_true rfl) (f_Water_worst_b0_ok hst (Nat.le_refl _) E)
