/-! ===== by program out of the bytecode (wip/whole/gen/emit.py) ===== -/
abbrev mX9_takes : MI := (RX9, cX9_takes, 2, (some Jvm.ClassFile.FieldType.boolean), [], false)
theorem ws_X9_takes : ∀ w ∈ wsM yX9_takes mX9_takes, w ∈ gw := List.forall_mem_cons.mpr ⟨gw_at 871 (by decide +kernel) (by decide +kernel), fun _ h => h⟩
theorem kb_X9_75 : KB RX9 75 yX9_is mX9_is 1 := ⟨gw_at 872 (by decide +kernel) (by decide +kernel), gw_at 108 (by decide +kernel) (by decide +kernel), trivial, ws_X9_is, by decide +kernel, by decide +kernel, by decide +kernel, by decide⟩
theorem kb_X9_78 : KB RX9 78 yX9_fail mX9_fail 0 := ⟨gw_at 861 (by decide +kernel) (by decide +kernel), gw_at 108 (by decide +kernel) (by decide +kernel), trivial, ws_X9_fail, by decide +kernel, by decide +kernel, by decide +kernel, by decide⟩
theorem kb_X9_82 : KB RX9 82 yX9_step mX9_step 0 := ⟨gw_at 862 (by decide +kernel) (by decide +kernel), gw_at 108 (by decide +kernel) (by decide +kernel), trivial, ws_X9_step, by decide +kernel, by decide +kernel, by decide +kernel, by decide⟩
def f_Tape_takes_b0   (h : Hp) (x0 : Nat) (x1 : Int32)  : Option (Int32 × Hp) :=
if hS h x0 = 9 then (
bI (f_Tape_is h x0 x1) fun v2 h3 =>
if v2 = 0 then (
if hS h3 x0 = 9 then (
bI (f_Tape_fail h3 x0) fun v7 h8 =>
if v7 = 0 ∨ v7 = 1 then (
some (v7, h8)
) else none) else none
) else (
if hS h3 x0 = 9 then (
bV (f_Tape_step h3 x0) fun h13 =>
some ((1 : Int32), h13)
) else none
)
) else none
set_option maxRecDepth 20000 in
set_option maxHeartbeats 4000000 in
theorem f_Tape_takes_b0_ok {l : Launch} {X : Nat × (Nat → Int32)} (hst : l.stackTraces = false) {d : Nat} (hd : 1 ≤ d)     {h : Hp} {x0 : Nat} {x1 : Int32}  {r : Int32 × Hp} (E : f_Tape_takes_b0   h x0 x1 = some r) : Rn l X mX9_takes d 0 [(0, .ref x0), (1, .int x1)] [] h (eI r) r.2 := by
  unfold f_Tape_takes_b0 at E
  refine Rn.aload_n (pc' := 1) dX9_takes_0 rfl 0 rfl rfl ?_
  refine Rn.iload_n (pc' := 2) dX9_takes_1 rfl 1 rfl rfl ?_
  obtain ⟨g1, E⟩ := gd_of E
  obtain ⟨v2, h3, e4, E⟩ := bI_of E
  refine Rn.callV1 (pc' := 5) (As := [.int x1]) (rest := []) (f_Tape_is_ok hst e4) (Nat.le_trans (by decide) hd) rfl kb_X9_75 ki_X9_is rfl g1 rfl rfl (Nat.le_of_ble_eq_true rfl) dX9_takes_2 rfl rfl ?_
  refine Rn.if_ne (pc' := 8) (tgt := 13) dX9_takes_5 (by decide) rfl (fun c5 => ?_) (fun c5 => ?_)
  · replace E := (if_of E).2 c5
    refine Rn.aload_n (pc' := 14) dX9_takes_13 rfl 0 rfl rfl ?_
    obtain ⟨g11, E⟩ := gd_of E
    obtain ⟨h13, e14, E⟩ := bV_of E
    refine Rn.callV1 (pc' := 17) (As := []) (rest := []) (f_Tape_step_ok hst e14) (Nat.le_trans (by decide) hd) rfl kb_X9_82 ki_X9_step rfl g11 rfl rfl (Nat.le_of_ble_eq_true rfl) dX9_takes_14 rfl rfl ?_
    refine Rn.iconst (pc' := 18) (v := (1 : Int32)) (hv := by decide) dX9_takes_17 rfl ?_
    cases E
    exact Rn.zret rfl rfl dX9_takes_18
  · replace E := (if_of E).1 c5
    refine Rn.aload_n (pc' := 9) dX9_takes_8 rfl 0 rfl rfl ?_
    obtain ⟨g6, E⟩ := gd_of E
    obtain ⟨v7, h8, e9, E⟩ := bI_of E
    refine Rn.callV1 (pc' := 12) (As := []) (rest := []) (f_Tape_fail_ok hst e9) (Nat.le_trans (by decide) hd) rfl kb_X9_78 ki_X9_fail rfl g6 rfl rfl (Nat.le_of_ble_eq_true rfl) dX9_takes_9 rfl rfl ?_
    obtain ⟨g10, E⟩ := gd_of E
    cases E
    exact Rn.zret rfl (nar_b g10) dX9_takes_12
def f_Tape_takes (h : Hp) (x0 : Nat) (x1 : Int32) : Option (Int32 × Hp) := f_Tape_takes_b0  h x0 x1
theorem f_Tape_takes_ok {l : Launch} {X : Nat × (Nat → Int32)} (hst : l.stackTraces = false) {h : Hp} {x0 : Nat} {x1 : Int32} {r : Int32 × Hp} (E : f_Tape_takes h x0 x1 = some r) : MC l X yX9_takes mX9_takes 1 [.ref x0, .int x1] h (eI r) r.2 :=
  MC.body (by decide +kernel) rfl (by decide) hst (Nat.le_of_ble_eq_true rfl) (f_Tape_takes_b0_ok hst (Nat.le_refl _) E)
abbrev mX6_isCondition : MI := (RX6, cX6_isCondition, 5, (some Jvm.ClassFile.FieldType.boolean), [], false)
theorem ws_X6_isCondition : ∀ w ∈ wsM yX6_isCondition mX6_isCondition, w ∈ gw := List.forall_mem_cons.mpr ⟨gw_at 895 (by decide +kernel) (by decide +kernel), fun _ h => h⟩
abbrev mX6_isAtom : MI := (RX6, cX6_isAtom, 3, (some Jvm.ClassFile.FieldType.boolean), [], false)
theorem ws_X6_isAtom : ∀ w ∈ wsM yX6_isAtom mX6_isAtom, w ∈ gw := List.forall_mem_cons.mpr ⟨gw_at 899 (by decide +kernel) (by decide +kernel), fun _ h => h⟩
def f_LawText_isCondition_b94 (q_X6_isAtom : Hp → Nat → Int32 → Option (Int32 × Hp)) (k7 : Hp → Nat → Int32 → Int32 → Int32 → Int32 → Option (Int32 × Hp)) (h : Hp) (x0 : Nat) (x1 : Int32) (x2 : Int32) (x4 : Int32) (s0 : Int32) (s1 : Int32) : Option (Int32 × Hp) :=
if hS h x0 = 7 then (
if hS h (hR h x0 0) = 9 then (
bV (f_Tape_step h (hR h x0 0)) fun h4 =>
k7 h4 x0 x1 x2 (s0 ||| s1) (x4 + (1 : Int32))
) else none) else none
set_option maxRecDepth 20000 in
set_option maxHeartbeats 4000000 in
theorem f_LawText_isCondition_b94_ok {l : Launch} {X : Nat × (Nat → Int32)} (hst : l.stackTraces = false) {d : Nat} (hd : 3 ≤ d) {q_X6_isAtom : Hp → Nat → Int32 → Option (Int32 × Hp)} {dq : Nat} (hdq : dq + 1 ≤ d) (hq_X6_isAtom : ∀ (h : Hp) (x0 : Nat) (x1 : Int32) (r : Int32 × Hp), q_X6_isAtom h x0 x1 = some r → MC l X yX6_isAtom mX6_isAtom dq [.ref x0, .int x1] h (eI r) r.2) {k7 : Hp → Nat → Int32 → Int32 → Int32 → Int32 → Option (Int32 × Hp)} (hk7 : ∀ (h : Hp) (x0 : Nat) (x1 : Int32) (x2 : Int32) (x3 : Int32) (x4 : Int32)  (r : Int32 × Hp), k7 h x0 x1 x2 x3 x4 = some r → Rn l X mX6_isCondition d 7 [(0, .ref x0), (1, .int x1), (2, .int x2), (3, .int x3), (4, .int x4)] [] h (eI r) r.2) {h : Hp} {x0 : Nat} {x1 : Int32} {x2 : Int32} {x4 : Int32} {s0 : Int32} {s1 : Int32} {r : Int32 × Hp} (E : f_LawText_isCondition_b94 q_X6_isAtom k7 h x0 x1 x2 x4 s0 s1 = some r) : Rn l X mX6_isCondition d 94 [(0, .ref x0), (1, .int x1), (2, .int x2), (4, .int x4)] [.int s1, .int s0] h (eI r) r.2 := by
  unfold f_LawText_isCondition_b94 at E
  refine Rn.ior (pc' := 95) dX6_isCondition_94 rfl ?_
  refine Rn.istore_n (pc' := 96) (L' := [(3, .int (s0 ||| s1)), (0, .ref x0), (1, .int x1), (2, .int x2), (4, .int x4)]) dX6_isCondition_95 rfl (by decide) rfl rfl ?_
  refine Rn.aload_n (pc' := 97) dX6_isCondition_96 rfl 1 rfl rfl ?_
  obtain ⟨g1, E⟩ := gd_of E
  refine Rn.getR (pc' := 100) fl_X6_45_6 g1 rfl dX6_isCondition_97 rfl ?_
  obtain ⟨g2, E⟩ := gd_of E
  obtain ⟨h4, e5, E⟩ := bV_of E
  refine Rn.callV1 (pc' := 103) (As := []) (rest := []) (f_Tape_step_ok hst e5) (Nat.le_trans (by decide) hd) rfl kb_X6_55 ki_X9_step rfl g2 rfl rfl (Nat.le_of_ble_eq_true rfl) dX6_isCondition_100 rfl rfl ?_
  refine Rn.iinc (pc' := 106) (v := (x4 + (1 : Int32))) (L' := [(4, .int (x4 + (1 : Int32))), (3, .int (s0 ||| s1)), (0, .ref x0), (1, .int x1), (2, .int x2)]) dX6_isCondition_103 4 rfl rfl (by decide) rfl rfl ?_
  refine Rn.goto (pc' := 7) dX6_isCondition_106 (by decide) ?_
  refine Rn.sub [2, 3, 4, 1, 0] rfl ?_
  exact hk7 _ _ _ _ _ _ _ E
def f_LawText_isCondition_b81 (q_X6_isAtom : Hp → Nat → Int32 → Option (Int32 × Hp)) (k7 : Hp → Nat → Int32 → Int32 → Int32 → Int32 → Option (Int32 × Hp)) (h : Hp) (x0 : Nat) (x1 : Int32) (x2 : Int32) (x3 : Int32) (x4 : Int32)  : Option (Int32 × Hp) :=
if x2 = (1011 : Int32) then (
f_LawText_isCondition_b94 q_X6_isAtom k7 h x0 x1 x2 x4 x3 (1 : Int32)

) else (
f_LawText_isCondition_b94 q_X6_isAtom k7 h x0 x1 x2 x4 x3 (0 : Int32)

)

set_option maxRecDepth 20000 in
set_option maxHeartbeats 4000000 in
theorem f_LawText_isCondition_b81_ok {l : Launch} {X : Nat × (Nat → Int32)} (hst : l.stackTraces = false) {d : Nat} (hd : 3 ≤ d) {q_X6_isAtom : Hp → Nat → Int32 → Option (Int32 × Hp)} {dq : Nat} (hdq : dq + 1 ≤ d) (hq_X6_isAtom : ∀ (h : Hp) (x0 : Nat) (x1 : Int32) (r : Int32 × Hp), q_X6_isAtom h x0 x1 = some r → MC l X yX6_isAtom mX6_isAtom dq [.ref x0, .int x1] h (eI r) r.2) {k7 : Hp → Nat → Int32 → Int32 → Int32 → Int32 → Option (Int32 × Hp)} (hk7 : ∀ (h : Hp) (x0 : Nat) (x1 : Int32) (x2 : Int32) (x3 : Int32) (x4 : Int32)  (r : Int32 × Hp), k7 h x0 x1 x2 x3 x4 = some r → Rn l X mX6_isCondition d 7 [(0, .ref x0), (1, .int x1), (2, .int x2), (3, .int x3), (4, .int x4)] [] h (eI r) r.2) {h : Hp} {x0 : Nat} {x1 : Int32} {x2 : Int32} {x3 : Int32} {x4 : Int32}  {r : Int32 × Hp} (E : f_LawText_isCondition_b81 q_X6_isAtom k7 h x0 x1 x2 x3 x4 = some r) : Rn l X mX6_isCondition d 81 [(0, .ref x0), (1, .int x1), (2, .int x2), (3, .int x3), (4, .int x4)] [] h (eI r) r.2 := by
  unfold f_LawText_isCondition_b81 at E
  refine Rn.iload_n (pc' := 82) dX6_isCondition_81 rfl 3 rfl rfl ?_
  refine Rn.iload_n (pc' := 83) dX6_isCondition_82 rfl 2 rfl rfl ?_
  refine Rn.sipush (pc' := 86) (v := (1011 : Int32)) (hv := by decide) dX6_isCondition_83 rfl ?_
  refine Rn.icmp_ne (pc' := 89) (tgt := 93) dX6_isCondition_86 (by decide) rfl (fun c1 => ?_) (fun c1 => ?_)
  · replace E := (if_of E).2 c1
    refine Rn.iconst (pc' := 94) (v := (0 : Int32)) (hv := by decide) dX6_isCondition_93 rfl ?_
    refine Rn.sub [0, 1, 2, 4] rfl ?_
    exact f_LawText_isCondition_b94_ok hst hd hdq hq_X6_isAtom hk7 E
  · replace E := (if_of E).1 c1
    refine Rn.iconst (pc' := 90) (v := (1 : Int32)) (hv := by decide) dX6_isCondition_89 rfl ?_
    refine Rn.goto (pc' := 94) dX6_isCondition_90 (by decide) ?_
    refine Rn.sub [0, 1, 2, 4] rfl ?_
    exact f_LawText_isCondition_b94_ok hst hd hdq hq_X6_isAtom hk7 E
def f_LawText_isCondition_b65 (q_X6_isAtom : Hp → Nat → Int32 → Option (Int32 × Hp)) (k7 : Hp → Nat → Int32 → Int32 → Int32 → Int32 → Option (Int32 × Hp)) (h : Hp) (x0 : Nat) (x1 : Int32) (x2 : Int32) (x3 : Int32) (x4 : Int32)  : Option (Int32 × Hp) :=
if x2 = (1010 : Int32) then (
f_LawText_isCondition_b81 q_X6_isAtom k7 h x0 x1 x2 x3 x4

) else (
if x2 = (1011 : Int32) then (
f_LawText_isCondition_b81 q_X6_isAtom k7 h x0 x1 x2 x3 x4

) else (
some ((1 : Int32), h)

)

)

set_option maxRecDepth 20000 in
set_option maxHeartbeats 4000000 in
theorem f_LawText_isCondition_b65_ok {l : Launch} {X : Nat × (Nat → Int32)} (hst : l.stackTraces = false) {d : Nat} (hd : 3 ≤ d) {q_X6_isAtom : Hp → Nat → Int32 → Option (Int32 × Hp)} {dq : Nat} (hdq : dq + 1 ≤ d) (hq_X6_isAtom : ∀ (h : Hp) (x0 : Nat) (x1 : Int32) (r : Int32 × Hp), q_X6_isAtom h x0 x1 = some r → MC l X yX6_isAtom mX6_isAtom dq [.ref x0, .int x1] h (eI r) r.2) {k7 : Hp → Nat → Int32 → Int32 → Int32 → Int32 → Option (Int32 × Hp)} (hk7 : ∀ (h : Hp) (x0 : Nat) (x1 : Int32) (x2 : Int32) (x3 : Int32) (x4 : Int32)  (r : Int32 × Hp), k7 h x0 x1 x2 x3 x4 = some r → Rn l X mX6_isCondition d 7 [(0, .ref x0), (1, .int x1), (2, .int x2), (3, .int x3), (4, .int x4)] [] h (eI r) r.2) {h : Hp} {x0 : Nat} {x1 : Int32} {x2 : Int32} {x3 : Int32} {x4 : Int32}  {r : Int32 × Hp} (E : f_LawText_isCondition_b65 q_X6_isAtom k7 h x0 x1 x2 x3 x4 = some r) : Rn l X mX6_isCondition d 65 [(0, .ref x0), (1, .int x1), (2, .int x2), (3, .int x3), (4, .int x4)] [] h (eI r) r.2 := by
  unfold f_LawText_isCondition_b65 at E
  refine Rn.iload_n (pc' := 66) dX6_isCondition_65 rfl 2 rfl rfl ?_
  refine Rn.sipush (pc' := 69) (v := (1010 : Int32)) (hv := by decide) dX6_isCondition_66 rfl ?_
  refine Rn.icmp_eq (pc' := 72) (tgt := 81) dX6_isCondition_69 (by decide) rfl (fun c1 => ?_) (fun c1 => ?_)
  · replace E := (if_of E).1 c1
    exact f_LawText_isCondition_b81_ok hst hd hdq hq_X6_isAtom hk7 E
  · replace E := (if_of E).2 c1
    refine Rn.iload_n (pc' := 73) dX6_isCondition_72 rfl 2 rfl rfl ?_
    refine Rn.sipush (pc' := 76) (v := (1011 : Int32)) (hv := by decide) dX6_isCondition_73 rfl ?_
    refine Rn.icmp_eq (pc' := 79) (tgt := 81) dX6_isCondition_76 (by decide) rfl (fun c2 => ?_) (fun c2 => ?_)
    · replace E := (if_of E).1 c2
      exact f_LawText_isCondition_b81_ok hst hd hdq hq_X6_isAtom hk7 E
    · replace E := (if_of E).2 c2
      refine Rn.iconst (pc' := 80) (v := (1 : Int32)) (hv := by decide) dX6_isCondition_79 rfl ?_
      cases E
      exact Rn.zret rfl rfl dX6_isCondition_80
def f_LawText_isCondition_b39 (q_X6_isAtom : Hp → Nat → Int32 → Option (Int32 × Hp)) (k7 : Hp → Nat → Int32 → Int32 → Int32 → Int32 → Option (Int32 × Hp)) (h : Hp) (x0 : Nat) (x1 : Int32) (x3 : Int32) (x4 : Int32)  : Option (Int32 × Hp) :=
if hS h x0 = 7 then (
if hS h (hR h x0 0) = 9 then (
bI (f_Tape_code h (hR h x0 0)) fun v3 h4 =>
if v3 = (1010 : Int32) then (
f_LawText_isCondition_b65 q_X6_isAtom k7 h4 x0 x1 v3 x3 x4

) else (
if x3 = 0 then (
f_LawText_isCondition_b65 q_X6_isAtom k7 h4 x0 x1 v3 x3 x4

) else (
if hS h4 x0 = 7 then (
bV (f_LawText_emit h4 x0 (1011 : Int32)) fun h10 =>
f_LawText_isCondition_b65 q_X6_isAtom k7 h10 x0 x1 v3 x3 x4
) else none
)

)
) else none) else none
set_option maxRecDepth 20000 in
set_option maxHeartbeats 4000000 in
theorem f_LawText_isCondition_b39_ok {l : Launch} {X : Nat × (Nat → Int32)} (hst : l.stackTraces = false) {d : Nat} (hd : 3 ≤ d) {q_X6_isAtom : Hp → Nat → Int32 → Option (Int32 × Hp)} {dq : Nat} (hdq : dq + 1 ≤ d) (hq_X6_isAtom : ∀ (h : Hp) (x0 : Nat) (x1 : Int32) (r : Int32 × Hp), q_X6_isAtom h x0 x1 = some r → MC l X yX6_isAtom mX6_isAtom dq [.ref x0, .int x1] h (eI r) r.2) {k7 : Hp → Nat → Int32 → Int32 → Int32 → Int32 → Option (Int32 × Hp)} (hk7 : ∀ (h : Hp) (x0 : Nat) (x1 : Int32) (x2 : Int32) (x3 : Int32) (x4 : Int32)  (r : Int32 × Hp), k7 h x0 x1 x2 x3 x4 = some r → Rn l X mX6_isCondition d 7 [(0, .ref x0), (1, .int x1), (2, .int x2), (3, .int x3), (4, .int x4)] [] h (eI r) r.2) {h : Hp} {x0 : Nat} {x1 : Int32} {x3 : Int32} {x4 : Int32}  {r : Int32 × Hp} (E : f_LawText_isCondition_b39 q_X6_isAtom k7 h x0 x1 x3 x4 = some r) : Rn l X mX6_isCondition d 39 [(0, .ref x0), (1, .int x1), (3, .int x3), (4, .int x4)] [] h (eI r) r.2 := by
  unfold f_LawText_isCondition_b39 at E
  refine Rn.aload_n (pc' := 40) dX6_isCondition_39 rfl 0 rfl rfl ?_
  obtain ⟨g1, E⟩ := gd_of E
  refine Rn.getR (pc' := 43) fl_X6_45_6 g1 rfl dX6_isCondition_40 rfl ?_
  obtain ⟨g2, E⟩ := gd_of E
  obtain ⟨v3, h4, e5, E⟩ := bI_of E
  refine Rn.callV1 (pc' := 46) (As := []) (rest := []) (f_Tape_code_ok hst e5) (Nat.le_trans (by decide) hd) rfl kb_X6_75 ki_X9_code rfl g2 rfl rfl (Nat.le_of_ble_eq_true rfl) dX6_isCondition_43 rfl rfl ?_
  refine Rn.istore_n (pc' := 47) (L' := [(2, .int v3), (0, .ref x0), (1, .int x1), (3, .int x3), (4, .int x4)]) dX6_isCondition_46 rfl (by decide) rfl rfl ?_
  refine Rn.iload_n (pc' := 48) dX6_isCondition_47 rfl 0 rfl rfl ?_
  refine Rn.sipush (pc' := 51) (v := (1010 : Int32)) (hv := by decide) dX6_isCondition_48 rfl ?_
  refine Rn.icmp_eq (pc' := 54) (tgt := 65) dX6_isCondition_51 (by decide) rfl (fun c6 => ?_) (fun c6 => ?_)
  · replace E := (if_of E).1 c6
    refine Rn.sub [1, 2, 0, 3, 4] rfl ?_
    exact f_LawText_isCondition_b65_ok hst hd hdq hq_X6_isAtom hk7 E
  · replace E := (if_of E).2 c6
    refine Rn.iload_n (pc' := 55) dX6_isCondition_54 rfl 3 rfl rfl ?_
    refine Rn.if_eq (pc' := 58) (tgt := 65) dX6_isCondition_55 (by decide) rfl (fun c7 => ?_) (fun c7 => ?_)
    · replace E := (if_of E).1 c7
      refine Rn.sub [1, 2, 0, 3, 4] rfl ?_
      exact f_LawText_isCondition_b65_ok hst hd hdq hq_X6_isAtom hk7 E
    · replace E := (if_of E).2 c7
      refine Rn.aload_n (pc' := 59) dX6_isCondition_58 rfl 1 rfl rfl ?_
      refine Rn.sipush (pc' := 62) (v := (1011 : Int32)) (hv := by decide) dX6_isCondition_59 rfl ?_
      obtain ⟨g8, E⟩ := gd_of E
      obtain ⟨h10, e11, E⟩ := bV_of E
      refine Rn.callV1 (pc' := 65) (As := [.int (1011 : Int32)]) (rest := []) (f_LawText_emit_ok hst e11) (Nat.le_trans (by decide) hd) rfl kb_X6_71 ki_X6_emit rfl g8 rfl rfl (Nat.le_of_ble_eq_true rfl) dX6_isCondition_62 rfl rfl ?_
      refine Rn.sub [1, 2, 0, 3, 4] rfl ?_
      exact f_LawText_isCondition_b65_ok hst hd hdq hq_X6_isAtom hk7 E
theorem kb_X6_68 : KB RX6 68 yX6_isAtom mX6_isAtom 1 := ⟨gw_at 896 (by decide +kernel) (by decide +kernel), gw_at 111 (by decide +kernel) (by decide +kernel), trivial, ws_X6_isAtom, by decide +kernel, by decide +kernel, by decide +kernel, by decide⟩
theorem ki_X6_isAtom : Cond.instanceMethod yX6_isAtom ∈ gw ∧ Cond.selects yX6_isAtom.cls yX6_isAtom yX6_isAtom ∈ gw := ⟨gw_at 898 (by decide +kernel) (by decide +kernel), gw_at 26 (by decide +kernel) (by decide +kernel)⟩
def f_LawText_isCondition_b7 (q_X6_isAtom : Hp → Nat → Int32 → Option (Int32 × Hp)) (k7 : Hp → Nat → Int32 → Int32 → Int32 → Int32 → Option (Int32 × Hp)) (h : Hp) (x0 : Nat) (x1 : Int32) (x2 : Int32) (x3 : Int32) (x4 : Int32)  : Option (Int32 × Hp) :=
if (400 : Int32) ≤ x4 then (
if hS h x0 = 7 then (
if hS h (hR h x0 0) = 9 then (
bI (f_Tape_fail h (hR h x0 0)) fun v4 h5 =>
if v4 = 0 ∨ v4 = 1 then (
some (v4, h5)
) else none) else none) else none
) else (
if hS h x0 = 7 then (
bI (q_X6_isAtom h x0 x1) fun v9 h10 =>
if v9 = 0 then (
some ((0 : Int32), h10)

) else (
if x2 = (1010 : Int32) then (
if hS h10 x0 = 7 then (
bV (f_LawText_emit h10 x0 (1010 : Int32)) fun h16 =>
f_LawText_isCondition_b39 q_X6_isAtom k7 h16 x0 x1 x3 x4
) else none
) else (
f_LawText_isCondition_b39 q_X6_isAtom k7 h10 x0 x1 x3 x4

)

)
) else none
)

set_option maxRecDepth 20000 in
set_option maxHeartbeats 4000000 in
theorem f_LawText_isCondition_b7_ok {l : Launch} {X : Nat × (Nat → Int32)} (hst : l.stackTraces = false) {d : Nat} (hd : 3 ≤ d) {q_X6_isAtom : Hp → Nat → Int32 → Option (Int32 × Hp)} {dq : Nat} (hdq : dq + 1 ≤ d) (hq_X6_isAtom : ∀ (h : Hp) (x0 : Nat) (x1 : Int32) (r : Int32 × Hp), q_X6_isAtom h x0 x1 = some r → MC l X yX6_isAtom mX6_isAtom dq [.ref x0, .int x1] h (eI r) r.2) {k7 : Hp → Nat → Int32 → Int32 → Int32 → Int32 → Option (Int32 × Hp)} (hk7 : ∀ (h : Hp) (x0 : Nat) (x1 : Int32) (x2 : Int32) (x3 : Int32) (x4 : Int32)  (r : Int32 × Hp), k7 h x0 x1 x2 x3 x4 = some r → Rn l X mX6_isCondition d 7 [(0, .ref x0), (1, .int x1), (2, .int x2), (3, .int x3), (4, .int x4)] [] h (eI r) r.2) {h : Hp} {x0 : Nat} {x1 : Int32} {x2 : Int32} {x3 : Int32} {x4 : Int32}  {r : Int32 × Hp} (E : f_LawText_isCondition_b7 q_X6_isAtom k7 h x0 x1 x2 x3 x4 = some r) : Rn l X mX6_isCondition d 7 [(0, .ref x0), (1, .int x1), (2, .int x2), (3, .int x3), (4, .int x4)] [] h (eI r) r.2 := by
  unfold f_LawText_isCondition_b7 at E
  refine Rn.iload (pc' := 9) dX6_isCondition_7 4 rfl rfl ?_
  refine Rn.sipush (pc' := 12) (v := (400 : Int32)) (hv := by decide) dX6_isCondition_9 rfl ?_
  refine Rn.icmp_ge (pc' := 15) (tgt := 109) dX6_isCondition_12 (by decide) rfl (fun c1 => ?_) (fun c1 => ?_)
  · replace E := (if_of E).1 c1
    refine Rn.aload_n (pc' := 110) dX6_isCondition_109 rfl 0 rfl rfl ?_
    obtain ⟨g2, E⟩ := gd_of E
    refine Rn.getR (pc' := 113) fl_X6_45_6 g2 rfl dX6_isCondition_110 rfl ?_
    obtain ⟨g3, E⟩ := gd_of E
    obtain ⟨v4, h5, e6, E⟩ := bI_of E
    refine Rn.callV1 (pc' := 116) (As := []) (rest := []) (f_Tape_fail_ok hst e6) (Nat.le_trans (by decide) hd) rfl kb_X6_79 ki_X9_fail rfl g3 rfl rfl (Nat.le_of_ble_eq_true rfl) dX6_isCondition_113 rfl rfl ?_
    obtain ⟨g7, E⟩ := gd_of E
    cases E
    exact Rn.zret rfl (nar_b g7) dX6_isCondition_116
  · replace E := (if_of E).2 c1
    refine Rn.aload_n (pc' := 16) dX6_isCondition_15 rfl 0 rfl rfl ?_
    refine Rn.iload_n (pc' := 17) dX6_isCondition_16 rfl 1 rfl rfl ?_
    obtain ⟨g8, E⟩ := gd_of E
    obtain ⟨v9, h10, e11, E⟩ := bI_of E
    refine Rn.callV1 (pc' := 20) (As := [.int x1]) (rest := []) (hq_X6_isAtom _ _ _ _ e11) hdq rfl kb_X6_68 ki_X6_isAtom rfl g8 rfl rfl (Nat.le_of_ble_eq_true rfl) dX6_isCondition_17 rfl rfl ?_
    refine Rn.if_ne (pc' := 23) (tgt := 25) dX6_isCondition_20 (by decide) rfl (fun c12 => ?_) (fun c12 => ?_)
    · replace E := (if_of E).2 c12
      refine Rn.iload_n (pc' := 26) dX6_isCondition_25 rfl 2 rfl rfl ?_
      refine Rn.sipush (pc' := 29) (v := (1010 : Int32)) (hv := by decide) dX6_isCondition_26 rfl ?_
      refine Rn.icmp_ne (pc' := 32) (tgt := 39) dX6_isCondition_29 (by decide) rfl (fun c13 => ?_) (fun c13 => ?_)
      · replace E := (if_of E).2 c13
        refine Rn.sub [0, 1, 3, 4] rfl ?_
        exact f_LawText_isCondition_b39_ok hst hd hdq hq_X6_isAtom hk7 E
      · replace E := (if_of E).1 c13
        refine Rn.aload_n (pc' := 33) dX6_isCondition_32 rfl 0 rfl rfl ?_
        refine Rn.sipush (pc' := 36) (v := (1010 : Int32)) (hv := by decide) dX6_isCondition_33 rfl ?_
        obtain ⟨g14, E⟩ := gd_of E
        obtain ⟨h16, e17, E⟩ := bV_of E
        refine Rn.callV1 (pc' := 39) (As := [.int (1010 : Int32)]) (rest := []) (f_LawText_emit_ok hst e17) (Nat.le_trans (by decide) hd) rfl kb_X6_71 ki_X6_emit rfl g14 rfl rfl (Nat.le_of_ble_eq_true rfl) dX6_isCondition_36 rfl rfl ?_
        refine Rn.sub [0, 1, 3, 4] rfl ?_
        exact f_LawText_isCondition_b39_ok hst hd hdq hq_X6_isAtom hk7 E
    · replace E := (if_of E).1 c12
      refine Rn.iconst (pc' := 24) (v := (0 : Int32)) (hv := by decide) dX6_isCondition_23 rfl ?_
      cases E
      exact Rn.zret rfl rfl dX6_isCondition_24
def f_LawText_isCondition_L7 (q_X6_isAtom : Hp → Nat → Int32 → Option (Int32 × Hp))  (n : Nat) : Hp → Nat → Int32 → Int32 → Int32 → Int32 → Option (Int32 × Hp) := Nat.rec (motive := fun _ => Hp → Nat → Int32 → Int32 → Int32 → Int32 → Option (Int32 × Hp)) (fun _ _ _ _ _ _ => none) (fun _ rec => f_LawText_isCondition_b7 q_X6_isAtom  rec) n
theorem f_LawText_isCondition_L7_ok {l : Launch} {X : Nat × (Nat → Int32)} (hst : l.stackTraces = false) {d : Nat} (hd : 3 ≤ d) {q_X6_isAtom : Hp → Nat → Int32 → Option (Int32 × Hp)} {dq : Nat} (hdq : dq + 1 ≤ d) (hq_X6_isAtom : ∀ (h : Hp) (x0 : Nat) (x1 : Int32) (r : Int32 × Hp), q_X6_isAtom h x0 x1 = some r → MC l X yX6_isAtom mX6_isAtom dq [.ref x0, .int x1] h (eI r) r.2)   : ∀ (n : Nat) (h : Hp) (x0 : Nat) (x1 : Int32) (x2 : Int32) (x3 : Int32) (x4 : Int32)  (r : Int32 × Hp), f_LawText_isCondition_L7 q_X6_isAtom  n h x0 x1 x2 x3 x4 = some r → Rn l X mX6_isCondition d 7 [(0, .ref x0), (1, .int x1), (2, .int x2), (3, .int x3), (4, .int x4)] [] h (eI r) r.2 := by
  intro n
  induction n with
  | zero => intro h x0 x1 x2 x3 x4 r E; cases E
  | succ n ih => intro h x0 x1 x2 x3 x4 r E; exact f_LawText_isCondition_b7_ok hst hd hdq hq_X6_isAtom  ih E
def f_LawText_isCondition_b0 (q_X6_isAtom : Hp → Nat → Int32 → Option (Int32 × Hp))  (h : Hp) (x0 : Nat) (x1 : Int32)  : Option (Int32 × Hp) :=
f_LawText_isCondition_L7 q_X6_isAtom  FU h x0 x1 (-1 : Int32) (0 : Int32) (0 : Int32)

set_option maxRecDepth 20000 in
set_option maxHeartbeats 4000000 in
theorem f_LawText_isCondition_b0_ok {l : Launch} {X : Nat × (Nat → Int32)} (hst : l.stackTraces = false) {d : Nat} (hd : 3 ≤ d) {q_X6_isAtom : Hp → Nat → Int32 → Option (Int32 × Hp)} {dq : Nat} (hdq : dq + 1 ≤ d) (hq_X6_isAtom : ∀ (h : Hp) (x0 : Nat) (x1 : Int32) (r : Int32 × Hp), q_X6_isAtom h x0 x1 = some r → MC l X yX6_isAtom mX6_isAtom dq [.ref x0, .int x1] h (eI r) r.2)   {h : Hp} {x0 : Nat} {x1 : Int32}  {r : Int32 × Hp} (E : f_LawText_isCondition_b0 q_X6_isAtom  h x0 x1 = some r) : Rn l X mX6_isCondition d 0 [(0, .ref x0), (1, .int x1)] [] h (eI r) r.2 := by
  unfold f_LawText_isCondition_b0 at E
  refine Rn.iconst (pc' := 1) (v := (-1 : Int32)) (hv := by decide) dX6_isCondition_0 rfl ?_
  refine Rn.istore_n (pc' := 2) (L' := [(2, .int (-1 : Int32)), (0, .ref x0), (1, .int x1)]) dX6_isCondition_1 rfl (by decide) rfl rfl ?_
  refine Rn.iconst (pc' := 3) (v := (0 : Int32)) (hv := by decide) dX6_isCondition_2 rfl ?_
  refine Rn.istore_n (pc' := 4) (L' := [(3, .int (0 : Int32)), (2, .int (-1 : Int32)), (0, .ref x0), (1, .int x1)]) dX6_isCondition_3 rfl (by decide) rfl rfl ?_
  refine Rn.iconst (pc' := 5) (v := (0 : Int32)) (hv := by decide) dX6_isCondition_4 rfl ?_
  refine Rn.istore (pc' := 7) (L' := [(4, .int (0 : Int32)), (3, .int (0 : Int32)), (2, .int (-1 : Int32)), (0, .ref x0), (1, .int x1)]) dX6_isCondition_5 (by decide) rfl rfl ?_
  refine Rn.sub [3, 4, 2, 1, 0] rfl ?_
  exact f_LawText_isCondition_L7_ok hst hd hdq hq_X6_isAtom  FU _ _ _ _ _ _ _ E
def f_LawText_isCondition_B (q_X6_isAtom : Hp → Nat → Int32 → Option (Int32 × Hp)) (h : Hp) (x0 : Nat) (x1 : Int32) : Option (Int32 × Hp) := f_LawText_isCondition_b0 q_X6_isAtom h x0 x1
theorem f_LawText_isCondition_B_ok {l : Launch} {X : Nat × (Nat → Int32)} (hst : l.stackTraces = false) {d : Nat} (hd : 3 ≤ d) {q_X6_isAtom : Hp → Nat → Int32 → Option (Int32 × Hp)} {dq : Nat} (hdq : dq + 1 ≤ d) (hq_X6_isAtom : ∀ (h : Hp) (x0 : Nat) (x1 : Int32) (r : Int32 × Hp), q_X6_isAtom h x0 x1 = some r → MC l X yX6_isAtom mX6_isAtom dq [.ref x0, .int x1] h (eI r) r.2) {h : Hp} {x0 : Nat} {x1 : Int32} {r : Int32 × Hp} (E : f_LawText_isCondition_B q_X6_isAtom h x0 x1 = some r) : MC l X yX6_isCondition mX6_isCondition d [.ref x0, .int x1] h (eI r) r.2 :=
  MC.body (by decide +kernel) rfl (by decide) hst (Nat.le_of_ble_eq_true rfl) (f_LawText_isCondition_b0_ok hst hd hdq hq_X6_isAtom E)
theorem kb_X6_65 : KB RX6 65 yX6_isCondition mX6_isCondition 1 := ⟨gw_at 892 (by decide +kernel) (by decide +kernel), gw_at 111 (by decide +kernel) (by decide +kernel), trivial, ws_X6_isCondition, by decide +kernel, by decide +kernel, by decide +kernel, by decide⟩
theorem ki_X6_isCondition : Cond.instanceMethod yX6_isCondition ∈ gw ∧ Cond.selects yX6_isCondition.cls yX6_isCondition yX6_isCondition ∈ gw := ⟨gw_at 894 (by decide +kernel) (by decide +kernel), gw_at 25 (by decide +kernel) (by decide +kernel)⟩
theorem kb_X6_59 : KB RX6 59 yX9_takes mX9_takes 1 := ⟨gw_at 890 (by decide +kernel) (by decide +kernel), gw_at 108 (by decide +kernel) (by decide +kernel), trivial, ws_X9_takes, by decide +kernel, by decide +kernel, by decide +kernel, by decide⟩
theorem ki_X9_takes : Cond.instanceMethod yX9_takes ∈ gw ∧ Cond.selects yX9_takes.cls yX9_takes yX9_takes ∈ gw := ⟨gw_at 869 (by decide +kernel) (by decide +kernel), gw_at 870 (by decide +kernel) (by decide +kernel)⟩
def f_LawText_isAtom_b55 (q_X6_isCondition : Hp → Nat → Int32 → Option (Int32 × Hp)) (q_X6_isAtom : Hp → Nat → Int32 → Option (Int32 × Hp))  (h : Hp) (x0 : Nat) (x1 : Int32) (x2 : Int32)  : Option (Int32 × Hp) :=
if x1 < (6 : Int32) then (
if hS h x0 = 7 then (
if hS h (hR h x0 0) = 9 then (
bV (f_Tape_step h (hR h x0 0)) fun h5 =>
if x2 = (2040 : Int32) then (
if hS h5 x0 = 7 then (
bI (q_X6_isCondition h5 x0 (x1 + (1 : Int32))) fun v9 h10 =>
if v9 = 0 then (
some ((0 : Int32), h10)

) else (
if hS h10 x0 = 7 then (
if hS h10 (hR h10 x0 0) = 9 then (
bI (f_Tape_takes h10 (hR h10 x0 0) (2041 : Int32)) fun v15 h16 =>
if v15 = 0 then (
some ((0 : Int32), h16)

) else (
some ((1 : Int32), h16)

)
) else none) else none
)
) else none
) else (
if hS h5 x0 = 7 then (
bI (q_X6_isAtom h5 x0 (x1 + (1 : Int32))) fun v20 h21 =>
if v20 = 0 then (
some ((0 : Int32), h21)

) else (
if hS h21 x0 = 7 then (
bV (f_LawText_emit h21 x0 (1009 : Int32)) fun h26 =>
some ((1 : Int32), h26)
) else none
)
) else none
)
) else none) else none
) else (
if hS h x0 = 7 then (
if hS h (hR h x0 0) = 9 then (
bI (f_Tape_fail h (hR h x0 0)) fun v30 h31 =>
if v30 = 0 ∨ v30 = 1 then (
some (v30, h31)
) else none) else none) else none
)

set_option maxRecDepth 20000 in
set_option maxHeartbeats 4000000 in
theorem f_LawText_isAtom_b55_ok {l : Launch} {X : Nat × (Nat → Int32)} (hst : l.stackTraces = false) {d : Nat} (hd : 3 ≤ d) {q_X6_isCondition : Hp → Nat → Int32 → Option (Int32 × Hp)} {q_X6_isAtom : Hp → Nat → Int32 → Option (Int32 × Hp)} {dq : Nat} (hdq : dq + 1 ≤ d) (hq_X6_isCondition : ∀ (h : Hp) (x0 : Nat) (x1 : Int32) (r : Int32 × Hp), q_X6_isCondition h x0 x1 = some r → MC l X yX6_isCondition mX6_isCondition dq [.ref x0, .int x1] h (eI r) r.2) (hq_X6_isAtom : ∀ (h : Hp) (x0 : Nat) (x1 : Int32) (r : Int32 × Hp), q_X6_isAtom h x0 x1 = some r → MC l X yX6_isAtom mX6_isAtom dq [.ref x0, .int x1] h (eI r) r.2)   {h : Hp} {x0 : Nat} {x1 : Int32} {x2 : Int32}  {r : Int32 × Hp} (E : f_LawText_isAtom_b55 q_X6_isCondition q_X6_isAtom  h x0 x1 x2 = some r) : Rn l X mX6_isAtom d 55 [(0, .ref x0), (1, .int x1), (2, .int x2)] [] h (eI r) r.2 := by
  unfold f_LawText_isAtom_b55 at E
  refine Rn.iload_n (pc' := 56) dX6_isAtom_55 rfl 1 rfl rfl ?_
  refine Rn.bipush (pc' := 58) (v := (6 : Int32)) (hv := by decide) dX6_isAtom_56 rfl ?_
  refine Rn.icmp_lt (pc' := 61) (tgt := 69) dX6_isAtom_58 (by decide) rfl (fun c1 => ?_) (fun c1 => ?_)
  · replace E := (if_of E).1 c1
    refine Rn.aload_n (pc' := 70) dX6_isAtom_69 rfl 0 rfl rfl ?_
    obtain ⟨g2, E⟩ := gd_of E
    refine Rn.getR (pc' := 73) fl_X6_45_6 g2 rfl dX6_isAtom_70 rfl ?_
    obtain ⟨g3, E⟩ := gd_of E
    obtain ⟨h5, e6, E⟩ := bV_of E
    refine Rn.callV1 (pc' := 76) (As := []) (rest := []) (f_Tape_step_ok hst e6) (Nat.le_trans (by decide) hd) rfl kb_X6_55 ki_X9_step rfl g3 rfl rfl (Nat.le_of_ble_eq_true rfl) dX6_isAtom_73 rfl rfl ?_
    refine Rn.iload_n (pc' := 77) dX6_isAtom_76 rfl 2 rfl rfl ?_
    refine Rn.sipush (pc' := 80) (v := (2040 : Int32)) (hv := by decide) dX6_isAtom_77 rfl ?_
    refine Rn.icmp_ne (pc' := 83) (tgt := 112) dX6_isAtom_80 (by decide) rfl (fun c7 => ?_) (fun c7 => ?_)
    · replace E := (if_of E).2 c7
      refine Rn.aload_n (pc' := 113) dX6_isAtom_112 rfl 0 rfl rfl ?_
      refine Rn.iload_n (pc' := 114) dX6_isAtom_113 rfl 1 rfl rfl ?_
      refine Rn.iconst (pc' := 115) (v := (1 : Int32)) (hv := by decide) dX6_isAtom_114 rfl ?_
      refine Rn.iadd (pc' := 116) dX6_isAtom_115 rfl ?_
      obtain ⟨g19, E⟩ := gd_of E
      obtain ⟨v20, h21, e22, E⟩ := bI_of E
      refine Rn.callV1 (pc' := 119) (As := [.int (x1 + (1 : Int32))]) (rest := []) (hq_X6_isAtom _ _ _ _ e22) hdq rfl kb_X6_68 ki_X6_isAtom rfl g19 rfl rfl (Nat.le_of_ble_eq_true rfl) dX6_isAtom_116 rfl rfl ?_
      refine Rn.if_ne (pc' := 122) (tgt := 124) dX6_isAtom_119 (by decide) rfl (fun c23 => ?_) (fun c23 => ?_)
      · replace E := (if_of E).2 c23
        refine Rn.aload_n (pc' := 125) dX6_isAtom_124 rfl 0 rfl rfl ?_
        refine Rn.sipush (pc' := 128) (v := (1009 : Int32)) (hv := by decide) dX6_isAtom_125 rfl ?_
        obtain ⟨g24, E⟩ := gd_of E
        obtain ⟨h26, e27, E⟩ := bV_of E
        refine Rn.callV1 (pc' := 131) (As := [.int (1009 : Int32)]) (rest := []) (f_LawText_emit_ok hst e27) (Nat.le_trans (by decide) hd) rfl kb_X6_71 ki_X6_emit rfl g24 rfl rfl (Nat.le_of_ble_eq_true rfl) dX6_isAtom_128 rfl rfl ?_
        refine Rn.iconst (pc' := 132) (v := (1 : Int32)) (hv := by decide) dX6_isAtom_131 rfl ?_
        cases E
        exact Rn.zret rfl rfl dX6_isAtom_132
      · replace E := (if_of E).1 c23
        refine Rn.iconst (pc' := 123) (v := (0 : Int32)) (hv := by decide) dX6_isAtom_122 rfl ?_
        cases E
        exact Rn.zret rfl rfl dX6_isAtom_123
    · replace E := (if_of E).1 c7
      refine Rn.aload_n (pc' := 84) dX6_isAtom_83 rfl 0 rfl rfl ?_
      refine Rn.iload_n (pc' := 85) dX6_isAtom_84 rfl 1 rfl rfl ?_
      refine Rn.iconst (pc' := 86) (v := (1 : Int32)) (hv := by decide) dX6_isAtom_85 rfl ?_
      refine Rn.iadd (pc' := 87) dX6_isAtom_86 rfl ?_
      obtain ⟨g8, E⟩ := gd_of E
      obtain ⟨v9, h10, e11, E⟩ := bI_of E
      refine Rn.callV1 (pc' := 90) (As := [.int (x1 + (1 : Int32))]) (rest := []) (hq_X6_isCondition _ _ _ _ e11) hdq rfl kb_X6_65 ki_X6_isCondition rfl g8 rfl rfl (Nat.le_of_ble_eq_true rfl) dX6_isAtom_87 rfl rfl ?_
      refine Rn.if_eq (pc' := 93) (tgt := 110) dX6_isAtom_90 (by decide) rfl (fun c12 => ?_) (fun c12 => ?_)
      · replace E := (if_of E).1 c12
        refine Rn.iconst (pc' := 111) (v := (0 : Int32)) (hv := by decide) dX6_isAtom_110 rfl ?_
        cases E
        exact Rn.zret rfl rfl dX6_isAtom_111
      · replace E := (if_of E).2 c12
        refine Rn.aload_n (pc' := 94) dX6_isAtom_93 rfl 0 rfl rfl ?_
        obtain ⟨g13, E⟩ := gd_of E
        refine Rn.getR (pc' := 97) fl_X6_45_6 g13 rfl dX6_isAtom_94 rfl ?_
        refine Rn.sipush (pc' := 100) (v := (2041 : Int32)) (hv := by decide) dX6_isAtom_97 rfl ?_
        obtain ⟨g14, E⟩ := gd_of E
        obtain ⟨v15, h16, e17, E⟩ := bI_of E
        refine Rn.callV1 (pc' := 103) (As := [.int (2041 : Int32)]) (rest := []) (f_Tape_takes_ok hst e17) (Nat.le_trans (by decide) hd) rfl kb_X6_59 ki_X9_takes rfl g14 rfl rfl (Nat.le_of_ble_eq_true rfl) dX6_isAtom_100 rfl rfl ?_
        refine Rn.if_eq (pc' := 106) (tgt := 110) dX6_isAtom_103 (by decide) rfl (fun c18 => ?_) (fun c18 => ?_)
        · replace E := (if_of E).1 c18
          refine Rn.iconst (pc' := 111) (v := (0 : Int32)) (hv := by decide) dX6_isAtom_110 rfl ?_
          cases E
          exact Rn.zret rfl rfl dX6_isAtom_111
        · replace E := (if_of E).2 c18
          refine Rn.iconst (pc' := 107) (v := (1 : Int32)) (hv := by decide) dX6_isAtom_106 rfl ?_
          refine Rn.goto (pc' := 111) dX6_isAtom_107 (by decide) ?_
          cases E
          exact Rn.zret rfl rfl dX6_isAtom_111
  · replace E := (if_of E).2 c1
    refine Rn.aload_n (pc' := 62) dX6_isAtom_61 rfl 0 rfl rfl ?_
    obtain ⟨g28, E⟩ := gd_of E
    refine Rn.getR (pc' := 65) fl_X6_45_6 g28 rfl dX6_isAtom_62 rfl ?_
    obtain ⟨g29, E⟩ := gd_of E
    obtain ⟨v30, h31, e32, E⟩ := bI_of E
    refine Rn.callV1 (pc' := 68) (As := []) (rest := []) (f_Tape_fail_ok hst e32) (Nat.le_trans (by decide) hd) rfl kb_X6_79 ki_X9_fail rfl g29 rfl rfl (Nat.le_of_ble_eq_true rfl) dX6_isAtom_65 rfl rfl ?_
    obtain ⟨g33, E⟩ := gd_of E
    cases E
    exact Rn.zret rfl (nar_b g33) dX6_isAtom_68
theorem kb_X6_83 : KB RX6 83 yX6_isComparison mX6_isComparison 0 := ⟨gw_at 905 (by decide +kernel) (by decide +kernel), gw_at 111 (by decide +kernel) (by decide +kernel), trivial, ws_X6_isComparison, by decide +kernel, by decide +kernel, by decide +kernel, by decide⟩
theorem ki_X6_isComparison : Cond.instanceMethod yX6_isComparison ∈ gw ∧ Cond.selects yX6_isComparison.cls yX6_isComparison yX6_isComparison ∈ gw := ⟨gw_at 907 (by decide +kernel) (by decide +kernel), gw_at 28 (by decide +kernel) (by decide +kernel)⟩
def f_LawText_isAtom_b36 (q_X6_isCondition : Hp → Nat → Int32 → Option (Int32 × Hp)) (q_X6_isAtom : Hp → Nat → Int32 → Option (Int32 × Hp))  (h : Hp) (x0 : Nat) (x1 : Int32) (x2 : Int32)  : Option (Int32 × Hp) :=
if x2 = (1009 : Int32) then (
f_LawText_isAtom_b55 q_X6_isCondition q_X6_isAtom  h x0 x1 x2

) else (
if x2 = (2040 : Int32) then (
f_LawText_isAtom_b55 q_X6_isCondition q_X6_isAtom  h x0 x1 x2

) else (
if hS h x0 = 7 then (
bI (f_LawText_isComparison h x0) fun v4 h5 =>
if v4 = 0 ∨ v4 = 1 then (
some (v4, h5)
) else none) else none
)

)

set_option maxRecDepth 20000 in
set_option maxHeartbeats 4000000 in
theorem f_LawText_isAtom_b36_ok {l : Launch} {X : Nat × (Nat → Int32)} (hst : l.stackTraces = false) {d : Nat} (hd : 3 ≤ d) {q_X6_isCondition : Hp → Nat → Int32 → Option (Int32 × Hp)} {q_X6_isAtom : Hp → Nat → Int32 → Option (Int32 × Hp)} {dq : Nat} (hdq : dq + 1 ≤ d) (hq_X6_isCondition : ∀ (h : Hp) (x0 : Nat) (x1 : Int32) (r : Int32 × Hp), q_X6_isCondition h x0 x1 = some r → MC l X yX6_isCondition mX6_isCondition dq [.ref x0, .int x1] h (eI r) r.2) (hq_X6_isAtom : ∀ (h : Hp) (x0 : Nat) (x1 : Int32) (r : Int32 × Hp), q_X6_isAtom h x0 x1 = some r → MC l X yX6_isAtom mX6_isAtom dq [.ref x0, .int x1] h (eI r) r.2)   {h : Hp} {x0 : Nat} {x1 : Int32} {x2 : Int32}  {r : Int32 × Hp} (E : f_LawText_isAtom_b36 q_X6_isCondition q_X6_isAtom  h x0 x1 x2 = some r) : Rn l X mX6_isAtom d 36 [(0, .ref x0), (1, .int x1), (2, .int x2)] [] h (eI r) r.2 := by
  unfold f_LawText_isAtom_b36 at E
  refine Rn.iload_n (pc' := 37) dX6_isAtom_36 rfl 2 rfl rfl ?_
  refine Rn.sipush (pc' := 40) (v := (1009 : Int32)) (hv := by decide) dX6_isAtom_37 rfl ?_
  refine Rn.icmp_eq (pc' := 43) (tgt := 55) dX6_isAtom_40 (by decide) rfl (fun c1 => ?_) (fun c1 => ?_)
  · replace E := (if_of E).1 c1
    exact f_LawText_isAtom_b55_ok hst hd hdq hq_X6_isCondition hq_X6_isAtom  E
  · replace E := (if_of E).2 c1
    refine Rn.iload_n (pc' := 44) dX6_isAtom_43 rfl 2 rfl rfl ?_
    refine Rn.sipush (pc' := 47) (v := (2040 : Int32)) (hv := by decide) dX6_isAtom_44 rfl ?_
    refine Rn.icmp_eq (pc' := 50) (tgt := 55) dX6_isAtom_47 (by decide) rfl (fun c2 => ?_) (fun c2 => ?_)
    · replace E := (if_of E).1 c2
      exact f_LawText_isAtom_b55_ok hst hd hdq hq_X6_isCondition hq_X6_isAtom  E
    · replace E := (if_of E).2 c2
      refine Rn.aload_n (pc' := 51) dX6_isAtom_50 rfl 0 rfl rfl ?_
      obtain ⟨g3, E⟩ := gd_of E
      obtain ⟨v4, h5, e6, E⟩ := bI_of E
      refine Rn.callV1 (pc' := 54) (As := []) (rest := []) (f_LawText_isComparison_ok hst e6) (Nat.le_trans (by decide) hd) rfl kb_X6_83 ki_X6_isComparison rfl g3 rfl rfl (Nat.le_of_ble_eq_true rfl) dX6_isAtom_51 rfl rfl ?_
      obtain ⟨g7, E⟩ := gd_of E
      cases E
      exact Rn.zret rfl (nar_b g7) dX6_isAtom_54
def f_LawText_isAtom_b0 (q_X6_isCondition : Hp → Nat → Int32 → Option (Int32 × Hp)) (q_X6_isAtom : Hp → Nat → Int32 → Option (Int32 × Hp))  (h : Hp) (x0 : Nat) (x1 : Int32)  : Option (Int32 × Hp) :=
if hS h x0 = 7 then (
if hS h (hR h x0 0) = 9 then (
bI (f_Tape_code h (hR h x0 0)) fun v3 h4 =>
if v3 < (1005 : Int32) then (
f_LawText_isAtom_b36 q_X6_isCondition q_X6_isAtom  h4 x0 x1 v3

) else (
if (1008 : Int32) < v3 then (
f_LawText_isAtom_b36 q_X6_isCondition q_X6_isAtom  h4 x0 x1 v3

) else (
if hS h4 x0 = 7 then (
bV (f_LawText_emit h4 x0 v3) fun h10 =>
if hS h10 x0 = 7 then (
if hS h10 (hR h10 x0 0) = 9 then (
bV (f_Tape_step h10 (hR h10 x0 0)) fun h15 =>
some ((1 : Int32), h15)
) else none) else none) else none
)

)
) else none) else none
set_option maxRecDepth 20000 in
set_option maxHeartbeats 4000000 in
theorem f_LawText_isAtom_b0_ok {l : Launch} {X : Nat × (Nat → Int32)} (hst : l.stackTraces = false) {d : Nat} (hd : 3 ≤ d) {q_X6_isCondition : Hp → Nat → Int32 → Option (Int32 × Hp)} {q_X6_isAtom : Hp → Nat → Int32 → Option (Int32 × Hp)} {dq : Nat} (hdq : dq + 1 ≤ d) (hq_X6_isCondition : ∀ (h : Hp) (x0 : Nat) (x1 : Int32) (r : Int32 × Hp), q_X6_isCondition h x0 x1 = some r → MC l X yX6_isCondition mX6_isCondition dq [.ref x0, .int x1] h (eI r) r.2) (hq_X6_isAtom : ∀ (h : Hp) (x0 : Nat) (x1 : Int32) (r : Int32 × Hp), q_X6_isAtom h x0 x1 = some r → MC l X yX6_isAtom mX6_isAtom dq [.ref x0, .int x1] h (eI r) r.2)   {h : Hp} {x0 : Nat} {x1 : Int32}  {r : Int32 × Hp} (E : f_LawText_isAtom_b0 q_X6_isCondition q_X6_isAtom  h x0 x1 = some r) : Rn l X mX6_isAtom d 0 [(0, .ref x0), (1, .int x1)] [] h (eI r) r.2 := by
  unfold f_LawText_isAtom_b0 at E
  refine Rn.aload_n (pc' := 1) dX6_isAtom_0 rfl 0 rfl rfl ?_
  obtain ⟨g1, E⟩ := gd_of E
  refine Rn.getR (pc' := 4) fl_X6_45_6 g1 rfl dX6_isAtom_1 rfl ?_
  obtain ⟨g2, E⟩ := gd_of E
  obtain ⟨v3, h4, e5, E⟩ := bI_of E
  refine Rn.callV1 (pc' := 7) (As := []) (rest := []) (f_Tape_code_ok hst e5) (Nat.le_trans (by decide) hd) rfl kb_X6_75 ki_X9_code rfl g2 rfl rfl (Nat.le_of_ble_eq_true rfl) dX6_isAtom_4 rfl rfl ?_
  refine Rn.istore_n (pc' := 8) (L' := [(2, .int v3), (0, .ref x0), (1, .int x1)]) dX6_isAtom_7 rfl (by decide) rfl rfl ?_
  refine Rn.iload_n (pc' := 9) dX6_isAtom_8 rfl 0 rfl rfl ?_
  refine Rn.sipush (pc' := 12) (v := (1005 : Int32)) (hv := by decide) dX6_isAtom_9 rfl ?_
  refine Rn.icmp_lt (pc' := 15) (tgt := 36) dX6_isAtom_12 (by decide) rfl (fun c6 => ?_) (fun c6 => ?_)
  · replace E := (if_of E).1 c6
    refine Rn.sub [1, 2, 0] rfl ?_
    exact f_LawText_isAtom_b36_ok hst hd hdq hq_X6_isCondition hq_X6_isAtom  E
  · replace E := (if_of E).2 c6
    refine Rn.iload_n (pc' := 16) dX6_isAtom_15 rfl 0 rfl rfl ?_
    refine Rn.sipush (pc' := 19) (v := (1008 : Int32)) (hv := by decide) dX6_isAtom_16 rfl ?_
    refine Rn.icmp_gt (pc' := 22) (tgt := 36) dX6_isAtom_19 (by decide) rfl (fun c7 => ?_) (fun c7 => ?_)
    · replace E := (if_of E).1 c7
      refine Rn.sub [1, 2, 0] rfl ?_
      exact f_LawText_isAtom_b36_ok hst hd hdq hq_X6_isCondition hq_X6_isAtom  E
    · replace E := (if_of E).2 c7
      refine Rn.aload_n (pc' := 23) dX6_isAtom_22 rfl 1 rfl rfl ?_
      refine Rn.iload_n (pc' := 24) dX6_isAtom_23 rfl 0 rfl rfl ?_
      obtain ⟨g8, E⟩ := gd_of E
      obtain ⟨h10, e11, E⟩ := bV_of E
      refine Rn.callV1 (pc' := 27) (As := [.int v3]) (rest := []) (f_LawText_emit_ok hst e11) (Nat.le_trans (by decide) hd) rfl kb_X6_71 ki_X6_emit rfl g8 rfl rfl (Nat.le_of_ble_eq_true rfl) dX6_isAtom_24 rfl rfl ?_
      refine Rn.aload_n (pc' := 28) dX6_isAtom_27 rfl 1 rfl rfl ?_
      obtain ⟨g12, E⟩ := gd_of E
      refine Rn.getR (pc' := 31) fl_X6_45_6 g12 rfl dX6_isAtom_28 rfl ?_
      obtain ⟨g13, E⟩ := gd_of E
      obtain ⟨h15, e16, E⟩ := bV_of E
      refine Rn.callV1 (pc' := 34) (As := []) (rest := []) (f_Tape_step_ok hst e16) (Nat.le_trans (by decide) hd) rfl kb_X6_55 ki_X9_step rfl g13 rfl rfl (Nat.le_of_ble_eq_true rfl) dX6_isAtom_31 rfl rfl ?_
      refine Rn.iconst (pc' := 35) (v := (1 : Int32)) (hv := by decide) dX6_isAtom_34 rfl ?_
      cases E
      exact Rn.zret rfl rfl dX6_isAtom_35
def f_LawText_isAtom_B (q_X6_isCondition : Hp → Nat → Int32 → Option (Int32 × Hp)) (q_X6_isAtom : Hp → Nat → Int32 → Option (Int32 × Hp)) (h : Hp) (x0 : Nat) (x1 : Int32) : Option (Int32 × Hp) := f_LawText_isAtom_b0 q_X6_isCondition q_X6_isAtom h x0 x1
theorem f_LawText_isAtom_B_ok {l : Launch} {X : Nat × (Nat → Int32)} (hst : l.stackTraces = false) {d : Nat} (hd : 3 ≤ d) {q_X6_isCondition : Hp → Nat → Int32 → Option (Int32 × Hp)} {q_X6_isAtom : Hp → Nat → Int32 → Option (Int32 × Hp)} {dq : Nat} (hdq : dq + 1 ≤ d) (hq_X6_isCondition : ∀ (h : Hp) (x0 : Nat) (x1 : Int32) (r : Int32 × Hp), q_X6_isCondition h x0 x1 = some r → MC l X yX6_isCondition mX6_isCondition dq [.ref x0, .int x1] h (eI r) r.2) (hq_X6_isAtom : ∀ (h : Hp) (x0 : Nat) (x1 : Int32) (r : Int32 × Hp), q_X6_isAtom h x0 x1 = some r → MC l X yX6_isAtom mX6_isAtom dq [.ref x0, .int x1] h (eI r) r.2) {h : Hp} {x0 : Nat} {x1 : Int32} {r : Int32 × Hp} (E : f_LawText_isAtom_B q_X6_isCondition q_X6_isAtom h x0 x1 = some r) : MC l X yX6_isAtom mX6_isAtom d [.ref x0, .int x1] h (eI r) r.2 :=
  MC.body (by decide +kernel) rfl (by decide) hst (Nat.le_of_ble_eq_true rfl) (f_LawText_isAtom_b0_ok hst hd hdq hq_X6_isCondition hq_X6_isAtom E)
def f_LawText_G (n : Nat) : (Hp → Nat → Int32 → Option (Int32 × Hp)) × (Hp → Nat → Int32 → Option (Int32 × Hp)) := Nat.rec (motive := fun _ => (Hp → Nat → Int32 → Option (Int32 × Hp)) × (Hp → Nat → Int32 → Option (Int32 × Hp))) (fun _ _ _ => none, fun _ _ _ => none) (fun _ q => (f_LawText_isCondition_B (q.2), f_LawText_isAtom_B (q.1) (q.2))) n
def f_LawText_isCondition : Hp → Nat → Int32 → Option (Int32 × Hp) := (f_LawText_G 40).1
def f_LawText_isAtom : Hp → Nat → Int32 → Option (Int32 × Hp) := (f_LawText_G 40).2
theorem f_LawText_G_ok {l : Launch} {X : Nat × (Nat → Int32)} (hst : l.stackTraces = false) : ∀ n : Nat, (∀ (h : Hp) (x0 : Nat) (x1 : Int32) (r : Int32 × Hp), (f_LawText_G n).1 h x0 x1 = some r → MC l X yX6_isCondition mX6_isCondition (3 + n) [.ref x0, .int x1] h (eI r) r.2) ∧ (∀ (h : Hp) (x0 : Nat) (x1 : Int32) (r : Int32 × Hp), (f_LawText_G n).2 h x0 x1 = some r → MC l X yX6_isAtom mX6_isAtom (3 + n) [.ref x0, .int x1] h (eI r) r.2) := by
  intro n
  induction n with
  | zero => exact ⟨fun _ _ _ _ E => (nomatch E), fun _ _ _ _ E => (nomatch E)⟩
  | succ n ih =>
    have hs : f_LawText_G (n + 1) = (f_LawText_isCondition_B ((f_LawText_G n).2), f_LawText_isAtom_B ((f_LawText_G n).1) ((f_LawText_G n).2)) := rfl
    rw [hs]
    exact ⟨fun _ _ _ _ E => f_LawText_isCondition_B_ok hst (d := 3 + (n + 1)) (by omega) (dq := 3 + n) (by omega) (ih.2) E, fun _ _ _ _ E => f_LawText_isAtom_B_ok hst (d := 3 + (n + 1)) (by omega) (dq := 3 + n) (by omega) (ih.1) (ih.2) E⟩
theorem f_LawText_isCondition_ok {l : Launch} {X : Nat × (Nat → Int32)} (hst : l.stackTraces = false) {h : Hp} {x0 : Nat} {x1 : Int32} {r : Int32 × Hp} (E : f_LawText_isCondition h x0 x1 = some r) : MC l X yX6_isCondition mX6_isCondition 43 [.ref x0, .int x1] h (eI r) r.2 := (f_LawText_G_ok hst 40).1 _ _ _ _ E
theorem f_LawText_isAtom_ok {l : Launch} {X : Nat × (Nat → Int32)} (hst : l.stackTraces = false) {h : Hp} {x0 : Nat} {x1 : Int32} {r : Int32 × Hp} (E : f_LawText_isAtom h x0 x1 = some r) : MC l X yX6_isAtom mX6_isAtom 43 [.ref x0, .int x1] h (eI r) r.2 := (f_LawText_G_ok hst 40).2 _ _ _ _ E
abbrev mX9_number : MI := (RX9, cX9_number, 4, (some Jvm.ClassFile.FieldType.int), [], false)
theorem ws_X9_number : ∀ w ∈ wsM yX9_number mX9_number, w ∈ gw := List.forall_mem_cons.mpr ⟨gw_at 859 (by decide +kernel) (by decide +kernel), fun _ h => h⟩
def f_Tape_number_b15   (h : Hp) (x0 : Nat)  : Option (Int32 × Hp) :=
if hS h x0 = 9 then (
bI (f_Tape_fail h x0) fun v2 h3 =>
some ((-1 : Int32), h3)
) else none
set_option maxRecDepth 20000 in
set_option maxHeartbeats 4000000 in
theorem f_Tape_number_b15_ok {l : Launch} {X : Nat × (Nat → Int32)} (hst : l.stackTraces = false) {d : Nat} (hd : 1 ≤ d)     {h : Hp} {x0 : Nat}  {r : Int32 × Hp} (E : f_Tape_number_b15   h x0 = some r) : Rn l X mX9_number d 15 [(0, .ref x0)] [] h (eI r) r.2 := by
  unfold f_Tape_number_b15 at E
  refine Rn.aload_n (pc' := 16) dX9_number_15 rfl 0 rfl rfl ?_
  obtain ⟨g1, E⟩ := gd_of E
  obtain ⟨v2, h3, e4, E⟩ := bI_of E
  refine Rn.callV1 (pc' := 19) (As := []) (rest := []) (f_Tape_fail_ok hst e4) (Nat.le_trans (by decide) hd) rfl kb_X9_78 ki_X9_fail rfl g1 rfl rfl (Nat.le_of_ble_eq_true rfl) dX9_number_16 rfl rfl ?_
  refine Rn.pop (pc' := 20) (hc := rfl) dX9_number_19 rfl ?_
  refine Rn.iconst (pc' := 21) (v := (-1 : Int32)) (hv := by decide) dX9_number_20 rfl ?_
  cases E
  exact Rn.zret rfl rfl dX9_number_21
theorem kb_X9_85 : KB RX9 85 yX9_code mX9_code 0 := ⟨gw_at 860 (by decide +kernel) (by decide +kernel), gw_at 108 (by decide +kernel) (by decide +kernel), trivial, ws_X9_code, by decide +kernel, by decide +kernel, by decide +kernel, by decide⟩
def f_Tape_number_b0   (h : Hp) (x0 : Nat) (x1 : Int32) (x2 : Int32)  : Option (Int32 × Hp) :=
if hS h x0 = 9 then (
bI (f_Tape_code h x0) fun v2 h3 =>
if v2 < x1 then (
f_Tape_number_b15   h3 x0

) else (
if v2 ≤ x2 then (
if hS h3 x0 = 9 then (
bV (f_Tape_step h3 x0) fun h9 =>
some (v2, h9)
) else none
) else (
f_Tape_number_b15   h3 x0

)

)
) else none
set_option maxRecDepth 20000 in
set_option maxHeartbeats 4000000 in
theorem f_Tape_number_b0_ok {l : Launch} {X : Nat × (Nat → Int32)} (hst : l.stackTraces = false) {d : Nat} (hd : 1 ≤ d)     {h : Hp} {x0 : Nat} {x1 : Int32} {x2 : Int32}  {r : Int32 × Hp} (E : f_Tape_number_b0   h x0 x1 x2 = some r) : Rn l X mX9_number d 0 [(0, .ref x0), (1, .int x1), (2, .int x2)] [] h (eI r) r.2 := by
  unfold f_Tape_number_b0 at E
  refine Rn.aload_n (pc' := 1) dX9_number_0 rfl 0 rfl rfl ?_
  obtain ⟨g1, E⟩ := gd_of E
  obtain ⟨v2, h3, e4, E⟩ := bI_of E
  refine Rn.callV1 (pc' := 4) (As := []) (rest := []) (f_Tape_code_ok hst e4) (Nat.le_trans (by decide) hd) rfl kb_X9_85 ki_X9_code rfl g1 rfl rfl (Nat.le_of_ble_eq_true rfl) dX9_number_1 rfl rfl ?_
  refine Rn.istore_n (pc' := 5) (L' := [(3, .int v2), (0, .ref x0), (1, .int x1), (2, .int x2)]) dX9_number_4 rfl (by decide) rfl rfl ?_
  refine Rn.iload_n (pc' := 6) dX9_number_5 rfl 0 rfl rfl ?_
  refine Rn.iload_n (pc' := 7) dX9_number_6 rfl 2 rfl rfl ?_
  refine Rn.icmp_lt (pc' := 10) (tgt := 15) dX9_number_7 (by decide) rfl (fun c5 => ?_) (fun c5 => ?_)
  · replace E := (if_of E).1 c5
    refine Rn.sub [1] rfl ?_
    exact f_Tape_number_b15_ok hst hd   E
  · replace E := (if_of E).2 c5
    refine Rn.iload_n (pc' := 11) dX9_number_10 rfl 0 rfl rfl ?_
    refine Rn.iload_n (pc' := 12) dX9_number_11 rfl 3 rfl rfl ?_
    refine Rn.icmp_le (pc' := 15) (tgt := 22) dX9_number_12 (by decide) rfl (fun c6 => ?_) (fun c6 => ?_)
    · replace E := (if_of E).1 c6
      refine Rn.aload_n (pc' := 23) dX9_number_22 rfl 1 rfl rfl ?_
      obtain ⟨g7, E⟩ := gd_of E
      obtain ⟨h9, e10, E⟩ := bV_of E
      refine Rn.callV1 (pc' := 26) (As := []) (rest := []) (f_Tape_step_ok hst e10) (Nat.le_trans (by decide) hd) rfl kb_X9_82 ki_X9_step rfl g7 rfl rfl (Nat.le_of_ble_eq_true rfl) dX9_number_23 rfl rfl ?_
      refine Rn.iload_n (pc' := 27) dX9_number_26 rfl 0 rfl rfl ?_
      cases E
      exact Rn.zret rfl rfl dX9_number_27
    · replace E := (if_of E).2 c6
      refine Rn.sub [1] rfl ?_
      exact f_Tape_number_b15_ok hst hd   E
def f_Tape_number (h : Hp) (x0 : Nat) (x1 : Int32) (x2 : Int32) : Option (Int32 × Hp) := f_Tape_number_b0  h x0 x1 x2
theorem f_Tape_number_ok {l : Launch} {X : Nat × (Nat → Int32)} (hst : l.stackTraces = false) {h : Hp} {x0 : Nat} {x1 : Int32} {x2 : Int32} {r : Int32 × Hp} (E : f_Tape_number h x0 x1 x2 = some r) : MC l X yX9_number mX9_number 1 [.ref x0, .int x1, .int x2] h (eI r) r.2 :=
  MC.body (by decide +kernel) rfl (by decide) hst (Nat.le_of_ble_eq_true rfl) (f_Tape_number_b0_ok hst (Nat.le_refl _) E)
abbrev mX6_isLine : MI := (RX6, cX6_isLine, 2, (some Jvm.ClassFile.FieldType.boolean), [], false)
theorem ws_X6_isLine : ∀ w ∈ wsM yX6_isLine mX6_isLine, w ∈ gw := List.forall_mem_cons.mpr ⟨gw_at 887 (by decide +kernel) (by decide +kernel), fun _ h => h⟩
def f_LawText_isLine_b89   (h : Hp) (x0 : Nat) (x1 : Int32)  : Option (Int32 × Hp) :=
if hS h x0 = 7 then (
if (hI h x0 2) < (12 : Int32) then (
if hS h (hR h x0 3) = 20 then (
if ib (hI h x0 2) (hL h (hR h x0 3)) = true then (
wr (sI h (hR h x0 3) (ix (hI h x0 2)) x1) fun h5 =>
if hS h5 (hR h5 x0 4) = 20 then (
if ib (hI h5 x0 2) (hL h5 (hR h5 x0 4)) = true then (
wr (sI h5 (hR h5 x0 4) (ix (hI h5 x0 2)) (hI h5 x0 6)) fun h9 =>
wr (sI h9 x0 2 ((hI h9 x0 2) + (1 : Int32))) fun h11 =>
some ((1 : Int32), h11)
) else none) else none) else none) else none
) else (
some ((0 : Int32), h)

)
) else none
set_option maxRecDepth 20000 in
set_option maxHeartbeats 4000000 in
theorem f_LawText_isLine_b89_ok {l : Launch} {X : Nat × (Nat → Int32)} (hst : l.stackTraces = false) {d : Nat} (hd : 44 ≤ d)     {h : Hp} {x0 : Nat} {x1 : Int32}  {r : Int32 × Hp} (E : f_LawText_isLine_b89   h x0 x1 = some r) : Rn l X mX6_isLine d 89 [(0, .ref x0), (1, .int x1)] [] h (eI r) r.2 := by
  unfold f_LawText_isLine_b89 at E
  refine Rn.aload_n (pc' := 90) dX6_isLine_89 rfl 0 rfl rfl ?_
  obtain ⟨g1, E⟩ := gd_of E
  refine Rn.getI (pc' := 93) fl_X6_21_6 g1 rfl dX6_isLine_90 rfl ?_
  refine Rn.bipush (pc' := 95) (v := (12 : Int32)) (hv := by decide) dX6_isLine_93 rfl ?_
  refine Rn.icmp_lt (pc' := 98) (tgt := 100) dX6_isLine_95 (by decide) rfl (fun c2 => ?_) (fun c2 => ?_)
  · replace E := (if_of E).1 c2
    refine Rn.aload_n (pc' := 101) dX6_isLine_100 rfl 0 rfl rfl ?_
    refine Rn.getR (pc' := 104) fl_X6_9_6 g1 rfl dX6_isLine_101 rfl ?_
    refine Rn.aload_n (pc' := 105) dX6_isLine_104 rfl 0 rfl rfl ?_
    refine Rn.getI (pc' := 108) fl_X6_21_6 g1 rfl dX6_isLine_105 rfl ?_
    refine Rn.iload_n (pc' := 109) dX6_isLine_108 rfl 1 rfl rfl ?_
    obtain ⟨g3, E⟩ := gd_of E
    obtain ⟨g4, E⟩ := gd_of E
    refine Rn.iast (pc' := 110) g3 g4 dX6_isLine_109 rfl ?_
    replace E := wr_of E
    generalize eh6 : sI h (hR h x0 3) (ix (hI h x0 2)) x1 = h5 at E ⊢
    refine Rn.aload_n (pc' := 111) dX6_isLine_110 rfl 0 rfl rfl ?_
    refine Rn.getR (pc' := 114) fl_X6_15_6 (kp_sI eh6 g1) rfl dX6_isLine_111 rfl ?_
    refine Rn.aload_n (pc' := 115) dX6_isLine_114 rfl 0 rfl rfl ?_
    refine Rn.getI (pc' := 118) fl_X6_21_6 (kp_sI eh6 g1) rfl dX6_isLine_115 rfl ?_
    refine Rn.aload_n (pc' := 119) dX6_isLine_118 rfl 0 rfl rfl ?_
    refine Rn.getI (pc' := 122) fl_X6_25_6 (kp_sI eh6 g1) rfl dX6_isLine_119 rfl ?_
    obtain ⟨g7, E⟩ := gd_of E
    obtain ⟨g8, E⟩ := gd_of E
    refine Rn.iast (pc' := 123) g7 g8 dX6_isLine_122 rfl ?_
    replace E := wr_of E
    generalize eh10 : sI h5 (hR h5 x0 4) (ix (hI h5 x0 2)) (hI h5 x0 6) = h9 at E ⊢
    refine Rn.aload_n (pc' := 124) dX6_isLine_123 rfl 0 rfl rfl ?_
    refine Rn.dup (pc' := 125) (hc := rfl) dX6_isLine_124 rfl ?_
    refine Rn.getI (pc' := 128) fl_X6_21_6 (kp_sI eh10 (kp_sI eh6 g1)) rfl dX6_isLine_125 rfl ?_
    refine Rn.iconst (pc' := 129) (v := (1 : Int32)) (hv := by decide) dX6_isLine_128 rfl ?_
    refine Rn.iadd (pc' := 130) dX6_isLine_129 rfl ?_
    refine Rn.putI (pc' := 133) fl_X6_21_6 (fun q hq => by cases hq; decide) (kp_sI eh10 (kp_sI eh6 g1)) rfl rfl rfl dX6_isLine_130 rfl ?_
    replace E := wr_of E
    generalize eh12 : sI h9 x0 2 ((hI h9 x0 2) + (1 : Int32)) = h11 at E ⊢
    refine Rn.iconst (pc' := 134) (v := (1 : Int32)) (hv := by decide) dX6_isLine_133 rfl ?_
    cases E
    exact Rn.zret rfl rfl dX6_isLine_134
  · replace E := (if_of E).2 c2
    refine Rn.iconst (pc' := 99) (v := (0 : Int32)) (hv := by decide) dX6_isLine_98 rfl ?_
    cases E
    exact Rn.zret rfl rfl dX6_isLine_99
def f_LawText_isLine_b59   (h : Hp) (x0 : Nat) (x1 : Int32)  : Option (Int32 × Hp) :=
if hS h x0 = 7 then (
if hS h (hR h x0 0) = 9 then (
bI (f_Tape_is h (hR h x0 0) (1013 : Int32)) fun v3 h4 =>
if v3 = 0 then (
f_LawText_isLine_b89   h4 x0 x1

) else (
if hS h4 x0 = 7 then (
if hS h4 (hR h4 x0 0) = 9 then (
bV (f_Tape_step h4 (hR h4 x0 0)) fun h10 =>
if hS h10 x0 = 7 then (
bI (f_LawText_isCondition h10 x0 (0 : Int32)) fun v13 h14 =>
if v13 = 0 then (
some ((0 : Int32), h14)

) else (
f_LawText_isLine_b89   h14 x0 x1

)
) else none) else none) else none
)
) else none) else none
set_option maxRecDepth 20000 in
set_option maxHeartbeats 4000000 in
theorem f_LawText_isLine_b59_ok {l : Launch} {X : Nat × (Nat → Int32)} (hst : l.stackTraces = false) {d : Nat} (hd : 44 ≤ d)     {h : Hp} {x0 : Nat} {x1 : Int32}  {r : Int32 × Hp} (E : f_LawText_isLine_b59   h x0 x1 = some r) : Rn l X mX6_isLine d 59 [(0, .ref x0), (1, .int x1)] [] h (eI r) r.2 := by
  unfold f_LawText_isLine_b59 at E
  refine Rn.aload_n (pc' := 60) dX6_isLine_59 rfl 0 rfl rfl ?_
  obtain ⟨g1, E⟩ := gd_of E
  refine Rn.getR (pc' := 63) fl_X6_45_6 g1 rfl dX6_isLine_60 rfl ?_
  refine Rn.sipush (pc' := 66) (v := (1013 : Int32)) (hv := by decide) dX6_isLine_63 rfl ?_
  obtain ⟨g2, E⟩ := gd_of E
  obtain ⟨v3, h4, e5, E⟩ := bI_of E
  refine Rn.callV1 (pc' := 69) (As := [.int (1013 : Int32)]) (rest := []) (f_Tape_is_ok hst e5) (Nat.le_trans (by decide) hd) rfl kb_X6_49 ki_X9_is rfl g2 rfl rfl (Nat.le_of_ble_eq_true rfl) dX6_isLine_66 rfl rfl ?_
  refine Rn.if_eq (pc' := 72) (tgt := 89) dX6_isLine_69 (by decide) rfl (fun c6 => ?_) (fun c6 => ?_)
  · replace E := (if_of E).1 c6
    exact f_LawText_isLine_b89_ok hst hd   E
  · replace E := (if_of E).2 c6
    refine Rn.aload_n (pc' := 73) dX6_isLine_72 rfl 0 rfl rfl ?_
    obtain ⟨g7, E⟩ := gd_of E
    refine Rn.getR (pc' := 76) fl_X6_45_6 g7 rfl dX6_isLine_73 rfl ?_
    obtain ⟨g8, E⟩ := gd_of E
    obtain ⟨h10, e11, E⟩ := bV_of E
    refine Rn.callV1 (pc' := 79) (As := []) (rest := []) (f_Tape_step_ok hst e11) (Nat.le_trans (by decide) hd) rfl kb_X6_55 ki_X9_step rfl g8 rfl rfl (Nat.le_of_ble_eq_true rfl) dX6_isLine_76 rfl rfl ?_
    refine Rn.aload_n (pc' := 80) dX6_isLine_79 rfl 0 rfl rfl ?_
    refine Rn.iconst (pc' := 81) (v := (0 : Int32)) (hv := by decide) dX6_isLine_80 rfl ?_
    obtain ⟨g12, E⟩ := gd_of E
    obtain ⟨v13, h14, e15, E⟩ := bI_of E
    refine Rn.callV1 (pc' := 84) (As := [.int (0 : Int32)]) (rest := []) (f_LawText_isCondition_ok hst e15) (Nat.le_trans (by decide) hd) rfl kb_X6_65 ki_X6_isCondition rfl g12 rfl rfl (Nat.le_of_ble_eq_true rfl) dX6_isLine_81 rfl rfl ?_
    refine Rn.if_ne (pc' := 87) (tgt := 89) dX6_isLine_84 (by decide) rfl (fun c16 => ?_) (fun c16 => ?_)
    · replace E := (if_of E).2 c16
      exact f_LawText_isLine_b89_ok hst hd   E
    · replace E := (if_of E).1 c16
      refine Rn.iconst (pc' := 88) (v := (0 : Int32)) (hv := by decide) dX6_isLine_87 rfl ?_
      cases E
      exact Rn.zret rfl rfl dX6_isLine_88
theorem kb_X6_62 : KB RX6 62 yX9_number mX9_number 2 := ⟨gw_at 891 (by decide +kernel) (by decide +kernel), gw_at 108 (by decide +kernel) (by decide +kernel), trivial, ws_X9_number, by decide +kernel, by decide +kernel, by decide +kernel, by decide⟩
theorem ki_X9_number : Cond.instanceMethod yX9_number ∈ gw ∧ Cond.selects yX9_number.cls yX9_number yX9_number ∈ gw := ⟨gw_at 857 (by decide +kernel) (by decide +kernel), gw_at 858 (by decide +kernel) (by decide +kernel)⟩
def f_LawText_isLine_b0   (h : Hp) (x0 : Nat)  : Option (Int32 × Hp) :=
if hS h x0 = 7 then (
if hS h (hR h x0 0) = 9 then (
bI (f_Tape_is h (hR h x0 0) (1012 : Int32)) fun v3 h4 =>
if v3 = 0 then (
if hS h4 x0 = 7 then (
if hS h4 (hR h4 x0 0) = 9 then (
bI (f_Tape_takes h4 (hR h4 x0 0) (1014 : Int32)) fun v9 h10 =>
if v9 = 0 then (
some ((0 : Int32), h10)

) else (
if hS h10 x0 = 7 then (
if hS h10 (hR h10 x0 0) = 9 then (
bI (f_Tape_number h10 (hR h10 x0 0) (0 : Int32) (999 : Int32)) fun v15 h16 =>
if v15 = (-1 : Int32) then (
some ((0 : Int32), h16)

) else (
f_LawText_isLine_b59   h16 x0 v15

)
) else none) else none
)
) else none) else none
) else (
if hS h4 x0 = 7 then (
if hS h4 (hR h4 x0 0) = 9 then (
bV (f_Tape_step h4 (hR h4 x0 0)) fun h22 =>
f_LawText_isLine_b59   h22 x0 (-1 : Int32)
) else none) else none
)
) else none) else none
set_option maxRecDepth 20000 in
set_option maxHeartbeats 4000000 in
theorem f_LawText_isLine_b0_ok {l : Launch} {X : Nat × (Nat → Int32)} (hst : l.stackTraces = false) {d : Nat} (hd : 44 ≤ d)     {h : Hp} {x0 : Nat}  {r : Int32 × Hp} (E : f_LawText_isLine_b0   h x0 = some r) : Rn l X mX6_isLine d 0 [(0, .ref x0)] [] h (eI r) r.2 := by
  unfold f_LawText_isLine_b0 at E
  refine Rn.iconst (pc' := 1) (v := (-1 : Int32)) (hv := by decide) dX6_isLine_0 rfl ?_
  refine Rn.istore_n (pc' := 2) (L' := [(1, .int (-1 : Int32)), (0, .ref x0)]) dX6_isLine_1 rfl (by decide) rfl rfl ?_
  refine Rn.aload_n (pc' := 3) dX6_isLine_2 rfl 1 rfl rfl ?_
  obtain ⟨g1, E⟩ := gd_of E
  refine Rn.getR (pc' := 6) fl_X6_45_6 g1 rfl dX6_isLine_3 rfl ?_
  refine Rn.sipush (pc' := 9) (v := (1012 : Int32)) (hv := by decide) dX6_isLine_6 rfl ?_
  obtain ⟨g2, E⟩ := gd_of E
  obtain ⟨v3, h4, e5, E⟩ := bI_of E
  refine Rn.callV1 (pc' := 12) (As := [.int (1012 : Int32)]) (rest := []) (f_Tape_is_ok hst e5) (Nat.le_trans (by decide) hd) rfl kb_X6_49 ki_X9_is rfl g2 rfl rfl (Nat.le_of_ble_eq_true rfl) dX6_isLine_9 rfl rfl ?_
  refine Rn.if_eq (pc' := 15) (tgt := 25) dX6_isLine_12 (by decide) rfl (fun c6 => ?_) (fun c6 => ?_)
  · replace E := (if_of E).1 c6
    refine Rn.aload_n (pc' := 26) dX6_isLine_25 rfl 1 rfl rfl ?_
    obtain ⟨g7, E⟩ := gd_of E
    refine Rn.getR (pc' := 29) fl_X6_45_6 g7 rfl dX6_isLine_26 rfl ?_
    refine Rn.sipush (pc' := 32) (v := (1014 : Int32)) (hv := by decide) dX6_isLine_29 rfl ?_
    obtain ⟨g8, E⟩ := gd_of E
    obtain ⟨v9, h10, e11, E⟩ := bI_of E
    refine Rn.callV1 (pc' := 35) (As := [.int (1014 : Int32)]) (rest := []) (f_Tape_takes_ok hst e11) (Nat.le_trans (by decide) hd) rfl kb_X6_59 ki_X9_takes rfl g8 rfl rfl (Nat.le_of_ble_eq_true rfl) dX6_isLine_32 rfl rfl ?_
    refine Rn.if_ne (pc' := 38) (tgt := 40) dX6_isLine_35 (by decide) rfl (fun c12 => ?_) (fun c12 => ?_)
    · replace E := (if_of E).2 c12
      refine Rn.aload_n (pc' := 41) dX6_isLine_40 rfl 1 rfl rfl ?_
      obtain ⟨g13, E⟩ := gd_of E
      refine Rn.getR (pc' := 44) fl_X6_45_6 g13 rfl dX6_isLine_41 rfl ?_
      refine Rn.iconst (pc' := 45) (v := (0 : Int32)) (hv := by decide) dX6_isLine_44 rfl ?_
      refine Rn.sipush (pc' := 48) (v := (999 : Int32)) (hv := by decide) dX6_isLine_45 rfl ?_
      obtain ⟨g14, E⟩ := gd_of E
      obtain ⟨v15, h16, e17, E⟩ := bI_of E
      refine Rn.callV1 (pc' := 51) (As := [.int (0 : Int32), .int (999 : Int32)]) (rest := []) (f_Tape_number_ok hst e17) (Nat.le_trans (by decide) hd) rfl kb_X6_62 ki_X9_number rfl g14 rfl rfl (Nat.le_of_ble_eq_true rfl) dX6_isLine_48 rfl rfl ?_
      refine Rn.istore_n (pc' := 52) (L' := [(1, .int v15), (0, .ref x0)]) dX6_isLine_51 rfl (by decide) rfl rfl ?_
      refine Rn.iload_n (pc' := 53) dX6_isLine_52 rfl 0 rfl rfl ?_
      refine Rn.iconst (pc' := 54) (v := (-1 : Int32)) (hv := by decide) dX6_isLine_53 rfl ?_
      refine Rn.icmp_ne (pc' := 57) (tgt := 59) dX6_isLine_54 (by decide) rfl (fun c18 => ?_) (fun c18 => ?_)
      · replace E := (if_of E).2 c18
        refine Rn.sub [1, 0] rfl ?_
        exact f_LawText_isLine_b59_ok hst hd   E
      · replace E := (if_of E).1 c18
        refine Rn.iconst (pc' := 58) (v := (0 : Int32)) (hv := by decide) dX6_isLine_57 rfl ?_
        cases E
        exact Rn.zret rfl rfl dX6_isLine_58
    · replace E := (if_of E).1 c12
      refine Rn.iconst (pc' := 39) (v := (0 : Int32)) (hv := by decide) dX6_isLine_38 rfl ?_
      cases E
      exact Rn.zret rfl rfl dX6_isLine_39
  · replace E := (if_of E).2 c6
    refine Rn.aload_n (pc' := 16) dX6_isLine_15 rfl 1 rfl rfl ?_
    obtain ⟨g19, E⟩ := gd_of E
    refine Rn.getR (pc' := 19) fl_X6_45_6 g19 rfl dX6_isLine_16 rfl ?_
    obtain ⟨g20, E⟩ := gd_of E
    obtain ⟨h22, e23, E⟩ := bV_of E
    refine Rn.callV1 (pc' := 22) (As := []) (rest := []) (f_Tape_step_ok hst e23) (Nat.le_trans (by decide) hd) rfl kb_X6_55 ki_X9_step rfl g20 rfl rfl (Nat.le_of_ble_eq_true rfl) dX6_isLine_19 rfl rfl ?_
    refine Rn.goto (pc' := 59) dX6_isLine_22 (by decide) ?_
    refine Rn.sub [1, 0] rfl ?_
    exact f_LawText_isLine_b59_ok hst hd   E
def f_LawText_isLine (h : Hp) (x0 : Nat) : Option (Int32 × Hp) := f_LawText_isLine_b0  h x0
theorem f_LawText_isLine_ok {l : Launch} {X : Nat × (Nat → Int32)} (hst : l.stackTraces = false) {h : Hp} {x0 : Nat} {r : Int32 × Hp} (E : f_LawText_isLine h x0 = some r) : MC l X yX6_isLine mX6_isLine 44 [.ref x0] h (eI r) r.2 :=
  MC.body (by decide +kernel) rfl (by decide) hst (Nat.le_of_ble_eq_true rfl) (f_LawText_isLine_b0_ok hst (Nat.le_refl _) E)
abbrev mX7_isRead : MI := (RX7, cX7_isRead, 2, (some Jvm.ClassFile.FieldType.boolean), [], false)
theorem ws_X7_isRead : ∀ w ∈ wsM yX7_isRead mX7_isRead, w ∈ gw := List.forall_mem_cons.mpr ⟨gw_at 728 (by decide +kernel) (by decide +kernel), fun _ h => h⟩
theorem kb_X7_35 : KB RX7 35 yX9_fail mX9_fail 0 := ⟨gw_at 915 (by decide +kernel) (by decide +kernel), gw_at 108 (by decide +kernel) (by decide +kernel), trivial, ws_X9_fail, by decide +kernel, by decide +kernel, by decide +kernel, by decide⟩
theorem ku_X7_28_6 : Cond.methodLink RX7 28 (⟨"VintageWater$Lines", "isLine", "()Z"⟩ : MethodName) ∈ gw ∧ Cond.sameMethod "VintageWater$Lines" "VintageWater$Lines" "isLine" "()Z" ∈ gw ∧ Cond.selects "VintageWater$LawText" (⟨"VintageWater$Lines", "isLine", "()Z"⟩ : MethodName) yX6_isLine ∈ gw ∧ Cond.instanceMethod yX6_isLine ∈ gw ∧ Cond.initialized yX6_isLine.cls ∈ gw := ⟨gw_at 822 (by decide +kernel) (by decide +kernel), gw_at 824 (by decide +kernel) (by decide +kernel), gw_at 885 (by decide +kernel) (by decide +kernel), gw_at 886 (by decide +kernel) (by decide +kernel), gw_at 111 (by decide +kernel) (by decide +kernel)⟩
theorem kb_X7_24 : KB RX7 24 yX9_is mX9_is 1 := ⟨gw_at 818 (by decide +kernel) (by decide +kernel), gw_at 108 (by decide +kernel) (by decide +kernel), trivial, ws_X9_is, by decide +kernel, by decide +kernel, by decide +kernel, by decide⟩
theorem kb_X7_32 : KB RX7 32 yX9_takes mX9_takes 1 := ⟨gw_at 914 (by decide +kernel) (by decide +kernel), gw_at 108 (by decide +kernel) (by decide +kernel), trivial, ws_X9_takes, by decide +kernel, by decide +kernel, by decide +kernel, by decide⟩
def f_Lines_isRead_6_b24  (k24 : Hp → Nat → Int32 → Option (Int32 × Hp)) (h : Hp) (x0 : Nat) (x1 : Int32)  : Option (Int32 × Hp) :=
if hS h x0 = 7 then (
if (hI h x0 1) ≤ x1 then (
if hS h (hR h x0 0) = 9 then (
bI (f_Tape_fail h (hR h x0 0)) fun v4 h5 =>
if v4 = 0 ∨ v4 = 1 then (
some (v4, h5)
) else none) else none
) else (
bI (f_LawText_isLine h x0) fun v8 h9 =>
if v8 = 0 then (
some ((0 : Int32), h9)

) else (
if hS h9 x0 = 7 then (
if hS h9 (hR h9 x0 0) = 9 then (
bI (f_Tape_is h9 (hR h9 x0 0) (3000 : Int32)) fun v14 h15 =>
if v14 = 0 then (
if hS h15 x0 = 7 then (
if hS h15 (hR h15 x0 0) = 9 then (
bI (f_Tape_takes h15 (hR h15 x0 0) (2059 : Int32)) fun v20 h21 =>
if v20 = 0 then (
some ((0 : Int32), h21)

) else (
k24 h21 x0 (x1 + (1 : Int32))

)
) else none) else none
) else (
some ((1 : Int32), h15)

)
) else none) else none
)

)
) else none
set_option maxRecDepth 20000 in
set_option maxHeartbeats 4000000 in
theorem f_Lines_isRead_6_b24_ok {l : Launch} {X : Nat × (Nat → Int32)} (hst : l.stackTraces = false) {d : Nat} (hd : 45 ≤ d)   {k24 : Hp → Nat → Int32 → Option (Int32 × Hp)} (hk24 : ∀ (h : Hp) (x0 : Nat) (x1 : Int32)  (r : Int32 × Hp), k24 h x0 x1 = some r → Rn l X mX7_isRead d 24 [(0, .ref x0), (1, .int x1)] [] h (eI r) r.2) {h : Hp} {x0 : Nat} {x1 : Int32}  {r : Int32 × Hp} (E : f_Lines_isRead_6_b24  k24 h x0 x1 = some r) : Rn l X mX7_isRead d 24 [(0, .ref x0), (1, .int x1)] [] h (eI r) r.2 := by
  unfold f_Lines_isRead_6_b24 at E
  refine Rn.iload_n (pc' := 25) dX7_isRead_24 rfl 1 rfl rfl ?_
  refine Rn.aload_n (pc' := 26) dX7_isRead_25 rfl 0 rfl rfl ?_
  obtain ⟨g1, E⟩ := gd_of E
  refine Rn.getI (pc' := 29) fl_X7_15_6 g1 rfl dX7_isRead_26 rfl ?_
  refine Rn.icmp_ge (pc' := 32) (tgt := 77) dX7_isRead_29 (by decide) rfl (fun c2 => ?_) (fun c2 => ?_)
  · replace E := (if_of E).1 c2
    refine Rn.aload_n (pc' := 78) dX7_isRead_77 rfl 0 rfl rfl ?_
    refine Rn.getR (pc' := 81) fl_X7_9_6 g1 rfl dX7_isRead_78 rfl ?_
    obtain ⟨g3, E⟩ := gd_of E
    obtain ⟨v4, h5, e6, E⟩ := bI_of E
    refine Rn.callV1 (pc' := 84) (As := []) (rest := []) (f_Tape_fail_ok hst e6) (Nat.le_trans (by decide) hd) rfl kb_X7_35 ki_X9_fail rfl g3 rfl rfl (Nat.le_of_ble_eq_true rfl) dX7_isRead_81 rfl rfl ?_
    obtain ⟨g7, E⟩ := gd_of E
    cases E
    exact Rn.zret rfl (nar_b g7) dX7_isRead_84
  · replace E := (if_of E).2 c2
    refine Rn.aload_n (pc' := 33) dX7_isRead_32 rfl 0 rfl rfl ?_
    obtain ⟨v8, h9, e10, E⟩ := bI_of E
    refine Rn.callU1 (pc' := 36) (x := ⟨"VintageWater$Lines", "isLine", "()Z"⟩) (As := []) (rest := []) (ci := 6) (C0 := "VintageWater$LawText") (owner := "VintageWater$Lines") (f_LawText_isLine_ok hst e10) (Nat.le_trans (by decide) hd) rfl ku_X7_28_6 (by decide) ws_X6_isLine (by decide +kernel) (by decide) rfl g1 rfl rfl (Nat.le_of_ble_eq_true rfl) dX7_isRead_33 rfl rfl ?_
    refine Rn.if_ne (pc' := 39) (tgt := 41) dX7_isRead_36 (by decide) rfl (fun c11 => ?_) (fun c11 => ?_)
    · replace E := (if_of E).2 c11
      refine Rn.aload_n (pc' := 42) dX7_isRead_41 rfl 0 rfl rfl ?_
      obtain ⟨g12, E⟩ := gd_of E
      refine Rn.getR (pc' := 45) fl_X7_9_6 g12 rfl dX7_isRead_42 rfl ?_
      refine Rn.sipush (pc' := 48) (v := (3000 : Int32)) (hv := by decide) dX7_isRead_45 rfl ?_
      obtain ⟨g13, E⟩ := gd_of E
      obtain ⟨v14, h15, e16, E⟩ := bI_of E
      refine Rn.callV1 (pc' := 51) (As := [.int (3000 : Int32)]) (rest := []) (f_Tape_is_ok hst e16) (Nat.le_trans (by decide) hd) rfl kb_X7_24 ki_X9_is rfl g13 rfl rfl (Nat.le_of_ble_eq_true rfl) dX7_isRead_48 rfl rfl ?_
      refine Rn.if_eq (pc' := 54) (tgt := 56) dX7_isRead_51 (by decide) rfl (fun c17 => ?_) (fun c17 => ?_)
      · replace E := (if_of E).1 c17
        refine Rn.aload_n (pc' := 57) dX7_isRead_56 rfl 0 rfl rfl ?_
        obtain ⟨g18, E⟩ := gd_of E
        refine Rn.getR (pc' := 60) fl_X7_9_6 g18 rfl dX7_isRead_57 rfl ?_
        refine Rn.sipush (pc' := 63) (v := (2059 : Int32)) (hv := by decide) dX7_isRead_60 rfl ?_
        obtain ⟨g19, E⟩ := gd_of E
        obtain ⟨v20, h21, e22, E⟩ := bI_of E
        refine Rn.callV1 (pc' := 66) (As := [.int (2059 : Int32)]) (rest := []) (f_Tape_takes_ok hst e22) (Nat.le_trans (by decide) hd) rfl kb_X7_32 ki_X9_takes rfl g19 rfl rfl (Nat.le_of_ble_eq_true rfl) dX7_isRead_63 rfl rfl ?_
        refine Rn.if_ne (pc' := 69) (tgt := 71) dX7_isRead_66 (by decide) rfl (fun c23 => ?_) (fun c23 => ?_)
        · replace E := (if_of E).2 c23
          refine Rn.iinc (pc' := 74) (v := (x1 + (1 : Int32))) (L' := [(1, .int (x1 + (1 : Int32))), (0, .ref x0)]) dX7_isRead_71 1 rfl rfl (by decide) rfl rfl ?_
          refine Rn.goto (pc' := 24) dX7_isRead_74 (by decide) ?_
          refine Rn.sub [1, 0] rfl ?_
          exact hk24 _ _ _ _ E
        · replace E := (if_of E).1 c23
          refine Rn.iconst (pc' := 70) (v := (0 : Int32)) (hv := by decide) dX7_isRead_69 rfl ?_
          cases E
          exact Rn.zret rfl rfl dX7_isRead_70
      · replace E := (if_of E).2 c17
        refine Rn.iconst (pc' := 55) (v := (1 : Int32)) (hv := by decide) dX7_isRead_54 rfl ?_
        cases E
        exact Rn.zret rfl rfl dX7_isRead_55
    · replace E := (if_of E).1 c11
      refine Rn.iconst (pc' := 40) (v := (0 : Int32)) (hv := by decide) dX7_isRead_39 rfl ?_
      cases E
      exact Rn.zret rfl rfl dX7_isRead_40
def f_Lines_isRead_6_L24   (n : Nat) : Hp → Nat → Int32 → Option (Int32 × Hp) := Nat.rec (motive := fun _ => Hp → Nat → Int32 → Option (Int32 × Hp)) (fun _ _ _ => none) (fun _ rec => f_Lines_isRead_6_b24   rec) n
theorem f_Lines_isRead_6_L24_ok {l : Launch} {X : Nat × (Nat → Int32)} (hst : l.stackTraces = false) {d : Nat} (hd : 45 ≤ d)     : ∀ (n : Nat) (h : Hp) (x0 : Nat) (x1 : Int32)  (r : Int32 × Hp), f_Lines_isRead_6_L24   n h x0 x1 = some r → Rn l X mX7_isRead d 24 [(0, .ref x0), (1, .int x1)] [] h (eI r) r.2 := by
  intro n
  induction n with
  | zero => intro h x0 x1 r E; cases E
  | succ n ih => intro h x0 x1 r E; exact f_Lines_isRead_6_b24_ok hst hd   ih E
theorem kb_X7_19 : KB RX7 19 yX9_cut mX9_cut 0 := ⟨gw_at 729 (by decide +kernel) (by decide +kernel), gw_at 108 (by decide +kernel) (by decide +kernel), trivial, ws_X9_cut, by decide +kernel, by decide +kernel, by decide +kernel, by decide⟩
theorem ki_X9_cut : Cond.instanceMethod yX9_cut ∈ gw ∧ Cond.selects yX9_cut.cls yX9_cut yX9_cut ∈ gw := ⟨gw_at 730 (by decide +kernel) (by decide +kernel), gw_at 731 (by decide +kernel) (by decide +kernel)⟩
def f_Lines_isRead_6_b0   (h : Hp) (x0 : Nat)  : Option (Int32 × Hp) :=
if hS h x0 = 7 then (
if hS h (hR h x0 0) = 9 then (
bV (f_Tape_cut h (hR h x0 0)) fun h4 =>
if hS h4 x0 = 7 then (
if hS h4 (hR h4 x0 0) = 9 then (
bI (f_Tape_is h4 (hR h4 x0 0) (3000 : Int32)) fun v8 h9 =>
if v8 = 0 then (
f_Lines_isRead_6_L24   FU h9 x0 (0 : Int32)

) else (
some ((1 : Int32), h9)

)
) else none) else none) else none) else none
set_option maxRecDepth 20000 in
set_option maxHeartbeats 4000000 in
theorem f_Lines_isRead_6_b0_ok {l : Launch} {X : Nat × (Nat → Int32)} (hst : l.stackTraces = false) {d : Nat} (hd : 45 ≤ d)     {h : Hp} {x0 : Nat}  {r : Int32 × Hp} (E : f_Lines_isRead_6_b0   h x0 = some r) : Rn l X mX7_isRead d 0 [(0, .ref x0)] [] h (eI r) r.2 := by
  unfold f_Lines_isRead_6_b0 at E
  refine Rn.aload_n (pc' := 1) dX7_isRead_0 rfl 0 rfl rfl ?_
  obtain ⟨g1, E⟩ := gd_of E
  refine Rn.getR (pc' := 4) fl_X7_9_6 g1 rfl dX7_isRead_1 rfl ?_
  obtain ⟨g2, E⟩ := gd_of E
  obtain ⟨h4, e5, E⟩ := bV_of E
  refine Rn.callV1 (pc' := 7) (As := []) (rest := []) (f_Tape_cut_ok hst e5) (Nat.le_trans (by decide) hd) rfl kb_X7_19 ki_X9_cut rfl g2 rfl rfl (Nat.le_of_ble_eq_true rfl) dX7_isRead_4 rfl rfl ?_
  refine Rn.aload_n (pc' := 8) dX7_isRead_7 rfl 0 rfl rfl ?_
  obtain ⟨g6, E⟩ := gd_of E
  refine Rn.getR (pc' := 11) fl_X7_9_6 g6 rfl dX7_isRead_8 rfl ?_
  refine Rn.sipush (pc' := 14) (v := (3000 : Int32)) (hv := by decide) dX7_isRead_11 rfl ?_
  obtain ⟨g7, E⟩ := gd_of E
  obtain ⟨v8, h9, e10, E⟩ := bI_of E
  refine Rn.callV1 (pc' := 17) (As := [.int (3000 : Int32)]) (rest := []) (f_Tape_is_ok hst e10) (Nat.le_trans (by decide) hd) rfl kb_X7_24 ki_X9_is rfl g7 rfl rfl (Nat.le_of_ble_eq_true rfl) dX7_isRead_14 rfl rfl ?_
  refine Rn.if_eq (pc' := 20) (tgt := 22) dX7_isRead_17 (by decide) rfl (fun c11 => ?_) (fun c11 => ?_)
  · replace E := (if_of E).1 c11
    refine Rn.iconst (pc' := 23) (v := (0 : Int32)) (hv := by decide) dX7_isRead_22 rfl ?_
    refine Rn.istore_n (pc' := 24) (L' := [(1, .int (0 : Int32)), (0, .ref x0)]) dX7_isRead_23 rfl (by decide) rfl rfl ?_
    refine Rn.sub [1, 0] rfl ?_
    exact f_Lines_isRead_6_L24_ok hst hd   FU _ _ _ _ E
  · replace E := (if_of E).2 c11
    refine Rn.iconst (pc' := 21) (v := (1 : Int32)) (hv := by decide) dX7_isRead_20 rfl ?_
    cases E
    exact Rn.zret rfl rfl dX7_isRead_21
def f_Lines_isRead_6 (h : Hp) (x0 : Nat) : Option (Int32 × Hp) := f_Lines_isRead_6_b0  h x0
theorem f_Lines_isRead_6_ok {l : Launch} {X : Nat × (Nat → Int32)} (hst : l.stackTraces = false) {h : Hp} {x0 : Nat} {r : Int32 × Hp} (E : f_Lines_isRead_6 h x0 = some r) : MC l X yX7_isRead mX7_isRead 45 [.ref x0] h (eI r) r.2 :=
  MC.body (by decide +kernel) rfl (by decide) hst (Nat.le_of_ble_eq_true rfl) (f_Lines_isRead_6_b0_ok hst (Nat.le_refl _) E)
abbrev mJ7_copyOf_59c91 : MI := (RJ7, cJ7_copyOf_59c91, 3, (some (Jvm.ClassFile.FieldType.array Jvm.ClassFile.FieldType.int)), [], false)
theorem ws_J7_copyOf_59c91 : ∀ w ∈ wsM yJ7_copyOf_59c91 mJ7_copyOf_59c91, w ∈ gw := List.forall_mem_cons.mpr ⟨gw_at 1062 (by decide +kernel) (by decide +kernel), fun _ h => h⟩
theorem kcn_J7_316 : Cond.methodLink RJ7 316 ⟨"[I", "clone", "()Ljava/lang/Object;"⟩ ∈ gw := gw_at 1063 (by decide +kernel) (by decide +kernel)
theorem kk_J7_317 : Cond.classLink RJ7 317 "[I" ∈ gw := gw_at 1069 (by decide +kernel) (by decide +kernel)
theorem kb_J7_304 : KB RJ7 304 yJ9_min_7cf53 mJ9_min_7cf53 2 := ⟨gw_at 1070 (by decide +kernel) (by decide +kernel), gw_at 128 (by decide +kernel) (by decide +kernel), trivial, ws_J9_min_7cf53, by decide +kernel, by decide +kernel, by decide +kernel, by decide⟩
theorem kac_J7_150 : Cond.methodLink RJ7 150 arraycopyName ∈ gw := gw_at 1071 (by decide +kernel) (by decide +kernel)
def f_Arrays_copyOf_b0   (h : Hp) (x0 : Nat) (x1 : Int32)  : Option (Nat × Hp) :=
if hS h x0 = 20 then (
if x1 = (Int32.ofNat (hL h x0)) then (
wr (cI (hA h 20 (hL h x0) (hL h x0)) (hN h + 1) (hI h x0)) fun h3 =>
some ((hN h + 1), h3)

) else (
if ¬ x1 < 0 then (
if ix x1 ≤ 1000000 then (
wr (hA h 20 (ix x1) (ix x1)) fun h7 =>
if hS h7 x0 = 20 then (
bI (f_Math_min h7 (Int32.ofNat (hL h7 x0)) x1) fun v10 h11 =>
if hS h11 x0 = 20 then (
if hS h11 (hN h + 1) = 20 then (
if ¬ (0 : Int32) < 0 then (
if ¬ (0 : Int32) < 0 then (
if ¬ v10 < 0 then (
if ix (0 : Int32) + ix v10 ≤ hL h11 x0 then (
if ix (0 : Int32) + ix v10 ≤ hL h11 (hN h + 1) then (
wr (cI h11 (hN h + 1) (va_cpy (hI h11 x0) (hI h11 (hN h + 1)) (ix (0 : Int32)) (ix (0 : Int32)) (ix v10))) fun h20 =>
some ((hN h + 1), h20)
) else none) else none) else none) else none) else none) else none) else none) else none) else none) else none
)
) else none
set_option maxRecDepth 20000 in
set_option maxHeartbeats 4000000 in
theorem f_Arrays_copyOf_b0_ok {l : Launch} {X : Nat × (Nat → Int32)} (hst : l.stackTraces = false) {d : Nat} (hd : 1 ≤ d)     {h : Hp} {x0 : Nat} {x1 : Int32}  {r : Nat × Hp} (E : f_Arrays_copyOf_b0   h x0 x1 = some r) : Rn l X mJ7_copyOf_59c91 d 0 [(0, .ref x0), (1, .int x1)] [] h (eA r) r.2 := by
  unfold f_Arrays_copyOf_b0 at E
  refine Rn.iload_n (pc' := 1) dJ7_copyOf_59c91_0 rfl 1 rfl rfl ?_
  refine Rn.aload_n (pc' := 2) dJ7_copyOf_59c91_1 rfl 0 rfl rfl ?_
  obtain ⟨g1, E⟩ := gd_of E
  refine Rn.alen (pc' := 3) g1 (by decide) (by decide) dJ7_copyOf_59c91_2 rfl ?_
  refine Rn.icmp_ne (pc' := 6) (tgt := 14) dJ7_copyOf_59c91_3 (by decide) rfl (fun c2 => ?_) (fun c2 => ?_)
  · replace E := (if_of E).2 c2
    refine Rn.iload_n (pc' := 15) dJ7_copyOf_59c91_14 rfl 1 rfl rfl ?_
    obtain ⟨g5, E⟩ := gd_of E
    obtain ⟨g6, E⟩ := gd_of E
    refine Rn.newa (pc' := 17) (sh := 20) (by decide) g5 g6 dJ7_copyOf_59c91_15 rfl ?_
    replace E := wr_of E
    generalize eh8 : hA h 20 (ix x1) (ix x1) = h7 at E ⊢
    refine Rn.astore_n (pc' := 18) (L' := [(2, .ref (hN h + 1)), (0, .ref x0), (1, .int x1)]) dJ7_copyOf_59c91_17 rfl (by decide) rfl rfl ?_
    refine Rn.aload_n (pc' := 19) dJ7_copyOf_59c91_18 rfl 1 rfl rfl ?_
    refine Rn.iconst (pc' := 20) (v := (0 : Int32)) (hv := by decide) dJ7_copyOf_59c91_19 rfl ?_
    refine Rn.aload_n (pc' := 21) dJ7_copyOf_59c91_20 rfl 0 rfl rfl ?_
    refine Rn.iconst (pc' := 22) (v := (0 : Int32)) (hv := by decide) dJ7_copyOf_59c91_21 rfl ?_
    refine Rn.aload_n (pc' := 23) dJ7_copyOf_59c91_22 rfl 1 rfl rfl ?_
    obtain ⟨g9, E⟩ := gd_of E
    refine Rn.alen (pc' := 24) g9 (by decide) (by decide) dJ7_copyOf_59c91_23 rfl ?_
    refine Rn.iload_n (pc' := 25) dJ7_copyOf_59c91_24 rfl 2 rfl rfl ?_
    obtain ⟨v10, h11, e12, E⟩ := bI_of E
    refine Rn.callS1 (pc' := 28) (As := [.int (Int32.ofNat (hL h7 x0)), .int x1]) (rest := [.int (0 : Int32), .ref (hN h + 1), .int (0 : Int32), .ref x0]) (f_Math_min_ok hst e12) (Nat.le_trans (by decide) hd) rfl kb_J7_304 ks_J9_min_7cf53 rfl rfl (Nat.le_of_ble_eq_true rfl) dJ7_copyOf_59c91_25 rfl rfl ?_
    obtain ⟨g13, E⟩ := gd_of E
    obtain ⟨g14, E⟩ := gd_of E
    obtain ⟨g15, E⟩ := gd_of E
    obtain ⟨g16, E⟩ := gd_of E
    obtain ⟨g17, E⟩ := gd_of E
    obtain ⟨g18, E⟩ := gd_of E
    obtain ⟨g19, E⟩ := gd_of E
    refine Rn.acopy (pc' := 31) kac_J7_150 g13 g14 g15 g16 g17 g18 g19 (Nat.le_of_ble_eq_true rfl) dJ7_copyOf_59c91_28 rfl ?_
    replace E := wr_of E
    generalize eh21 : cI h11 (hN h + 1) (va_cpy (hI h11 x0) (hI h11 (hN h + 1)) (ix (0 : Int32)) (ix (0 : Int32)) (ix v10)) = h20 at E ⊢
    refine Rn.aload_n (pc' := 32) dJ7_copyOf_59c91_31 rfl 0 rfl rfl ?_
    cases E
    exact Rn.aret rfl (by first | exact Or.inl ⟨_, rfl⟩ | exact Or.inr ⟨_, rfl⟩) dJ7_copyOf_59c91_32
  · replace E := (if_of E).1 c2
    refine Rn.aload_n (pc' := 7) dJ7_copyOf_59c91_6 rfl 0 rfl rfl ?_
    refine Rn.cloneI (pc' := 10) kcn_J7_316 g1 (Nat.le_of_ble_eq_true rfl) dJ7_copyOf_59c91_7 rfl ?_
    replace E := wr_of E
    generalize eh4 : cI (hA h 20 (hL h x0) (hL h x0)) (hN h + 1) (hI h x0) = h3 at E ⊢
    refine Rn.castA (pc' := 13) kk_J7_317 (kp_nC eh4) dJ7_copyOf_59c91_10 rfl ?_
    cases E
    exact Rn.aret rfl (by first | exact Or.inl ⟨_, rfl⟩ | exact Or.inr ⟨_, rfl⟩) dJ7_copyOf_59c91_13
def f_Arrays_copyOf (h : Hp) (x0 : Nat) (x1 : Int32) : Option (Nat × Hp) := f_Arrays_copyOf_b0  h x0 x1
theorem f_Arrays_copyOf_ok {l : Launch} {X : Nat × (Nat → Int32)} (hst : l.stackTraces = false) {h : Hp} {x0 : Nat} {x1 : Int32} {r : Nat × Hp} (E : f_Arrays_copyOf h x0 x1 = some r) : MC l X yJ7_copyOf_59c91 mJ7_copyOf_59c91 1 [.ref x0, .int x1] h (eA r) r.2 :=
  MC.body (by decide +kernel) rfl (by decide) hst (Nat.le_of_ble_eq_true rfl) (f_Arrays_copyOf_b0_ok hst (Nat.le_refl _) E)
abbrev mX5_init : MI := (RX5, cX5_init, 7, none, [], true)
theorem ws_X5_init : ∀ w ∈ wsM yX5_init mX5_init, w ∈ gw := List.forall_mem_cons.mpr ⟨gw_at 1075 (by decide +kernel) (by decide +kernel), fun _ h => h⟩
def f_Law_init_b73  (k47 : Hp → Nat → Nat → Int32 → Int32 → Option (Hp)) (h : Hp) (x0 : Nat) (x4 : Nat) (x6 : Int32) (s0 : Int32) (s1 : Int32) : Option (Hp) :=
k47 h x0 x4 (s0 ||| s1) (x6 + (1 : Int32))

set_option maxRecDepth 20000 in
set_option maxHeartbeats 4000000 in
theorem f_Law_init_b73_ok {l : Launch} {X : Nat × (Nat → Int32)} (hst : l.stackTraces = false) {d : Nat} (hd : 1 ≤ d)   {k47 : Hp → Nat → Nat → Int32 → Int32 → Option (Hp)} (hk47 : ∀ (h : Hp) (x0 : Nat) (x4 : Nat) (x5 : Int32) (x6 : Int32)  (r : Hp), k47 h x0 x4 x5 x6 = some r → Rn l X mX5_init d 47 [(0, .ref x0), (4, .ref x4), (5, .int x5), (6, .int x6)] [] h (eV r) r) {h : Hp} {x0 : Nat} {x4 : Nat} {x6 : Int32} {s0 : Int32} {s1 : Int32} {r : Hp} (E : f_Law_init_b73  k47 h x0 x4 x6 s0 s1 = some r) : Rn l X mX5_init d 73 [(0, .ref x0), (4, .ref x4), (6, .int x6)] [.int s1, .int s0] h (eV r) r := by
  unfold f_Law_init_b73 at E
  refine Rn.ior (pc' := 74) dX5_init_73 rfl ?_
  refine Rn.istore (pc' := 76) (L' := [(5, .int (s0 ||| s1)), (0, .ref x0), (4, .ref x4), (6, .int x6)]) dX5_init_74 (by decide) rfl rfl ?_
  refine Rn.iinc (pc' := 79) (v := (x6 + (1 : Int32))) (L' := [(6, .int (x6 + (1 : Int32))), (5, .int (s0 ||| s1)), (0, .ref x0), (4, .ref x4)]) dX5_init_76 3 rfl rfl (by decide) rfl rfl ?_
  refine Rn.goto (pc' := 47) dX5_init_79 (by decide) ?_
  refine Rn.sub [2, 3, 1, 0] rfl ?_
  exact hk47 _ _ _ _ _ _ E
theorem fl_X5_31_5 : FL RX5 31 5 6 := ⟨_, rfl, by decide, "VintageWater$Law", gw_at 1084 (by decide +kernel) (by decide +kernel), Or.inl rfl⟩
def f_Law_init_b47  (k47 : Hp → Nat → Nat → Int32 → Int32 → Option (Hp)) (h : Hp) (x0 : Nat) (x4 : Nat) (x5 : Int32) (x6 : Int32)  : Option (Hp) :=
if hS h x4 = 20 then (
if (Int32.ofNat (hL h x4)) ≤ x6 then (
if hS h x0 = 6 then (
if x5 = 0 ∨ x5 = 1 then (
wr (sI h x0 6 x5) fun h5 =>
some h5
) else none) else none
) else (
if ib x6 (hL h x4) = true then (
if (hI h x4 (ix x6)) = (1004 : Int32) then (
f_Law_init_b73  k47 h x0 x4 x6 x5 (1 : Int32)

) else (
f_Law_init_b73  k47 h x0 x4 x6 x5 (0 : Int32)

)
) else none
)
) else none
set_option maxRecDepth 20000 in
set_option maxHeartbeats 4000000 in
theorem f_Law_init_b47_ok {l : Launch} {X : Nat × (Nat → Int32)} (hst : l.stackTraces = false) {d : Nat} (hd : 1 ≤ d)   {k47 : Hp → Nat → Nat → Int32 → Int32 → Option (Hp)} (hk47 : ∀ (h : Hp) (x0 : Nat) (x4 : Nat) (x5 : Int32) (x6 : Int32)  (r : Hp), k47 h x0 x4 x5 x6 = some r → Rn l X mX5_init d 47 [(0, .ref x0), (4, .ref x4), (5, .int x5), (6, .int x6)] [] h (eV r) r) {h : Hp} {x0 : Nat} {x4 : Nat} {x5 : Int32} {x6 : Int32}  {r : Hp} (E : f_Law_init_b47  k47 h x0 x4 x5 x6 = some r) : Rn l X mX5_init d 47 [(0, .ref x0), (4, .ref x4), (5, .int x5), (6, .int x6)] [] h (eV r) r := by
  unfold f_Law_init_b47 at E
  refine Rn.iload (pc' := 49) dX5_init_47 3 rfl rfl ?_
  refine Rn.aload (pc' := 51) dX5_init_49 1 rfl rfl ?_
  obtain ⟨g1, E⟩ := gd_of E
  refine Rn.alen (pc' := 52) g1 (by decide) (by decide) dX5_init_51 rfl ?_
  refine Rn.icmp_ge (pc' := 55) (tgt := 82) dX5_init_52 (by decide) rfl (fun c2 => ?_) (fun c2 => ?_)
  · replace E := (if_of E).1 c2
    refine Rn.aload_n (pc' := 83) dX5_init_82 rfl 0 rfl rfl ?_
    refine Rn.iload (pc' := 85) dX5_init_83 2 rfl rfl ?_
    obtain ⟨g3, E⟩ := gd_of E
    obtain ⟨g4, E⟩ := gd_of E
    refine Rn.putI (pc' := 88) fl_X5_31_5 (fun q hq => by cases hq; decide) g3 rfl (nar_b g4) (fit_b g4) dX5_init_85 rfl ?_
    replace E := wr_of E
    generalize eh6 : sI h x0 6 x5 = h5 at E ⊢
    cases E
    exact Rn.vret rfl dX5_init_88
  · replace E := (if_of E).2 c2
    refine Rn.iload (pc' := 57) dX5_init_55 2 rfl rfl ?_
    refine Rn.aload (pc' := 59) dX5_init_57 1 rfl rfl ?_
    refine Rn.iload (pc' := 61) dX5_init_59 3 rfl rfl ?_
    obtain ⟨g7, E⟩ := gd_of E
    refine Rn.iald (pc' := 62) g1 g7 dX5_init_61 rfl ?_
    refine Rn.sipush (pc' := 65) (v := (1004 : Int32)) (hv := by decide) dX5_init_62 rfl ?_
    refine Rn.icmp_ne (pc' := 68) (tgt := 72) dX5_init_65 (by decide) rfl (fun c8 => ?_) (fun c8 => ?_)
    · replace E := (if_of E).2 c8
      refine Rn.iconst (pc' := 73) (v := (0 : Int32)) (hv := by decide) dX5_init_72 rfl ?_
      refine Rn.sub [0, 1, 3] rfl ?_
      exact f_Law_init_b73_ok hst hd  hk47 E
    · replace E := (if_of E).1 c8
      refine Rn.iconst (pc' := 69) (v := (1 : Int32)) (hv := by decide) dX5_init_68 rfl ?_
      refine Rn.goto (pc' := 73) dX5_init_69 (by decide) ?_
      refine Rn.sub [0, 1, 3] rfl ?_
      exact f_Law_init_b73_ok hst hd  hk47 E
def f_Law_init_L47   (n : Nat) : Hp → Nat → Nat → Int32 → Int32 → Option (Hp) := Nat.rec (motive := fun _ => Hp → Nat → Nat → Int32 → Int32 → Option (Hp)) (fun _ _ _ _ _ => none) (fun _ rec => f_Law_init_b47   rec) n
theorem f_Law_init_L47_ok {l : Launch} {X : Nat × (Nat → Int32)} (hst : l.stackTraces = false) {d : Nat} (hd : 1 ≤ d)     : ∀ (n : Nat) (h : Hp) (x0 : Nat) (x4 : Nat) (x5 : Int32) (x6 : Int32)  (r : Hp), f_Law_init_L47   n h x0 x4 x5 x6 = some r → Rn l X mX5_init d 47 [(0, .ref x0), (4, .ref x4), (5, .int x5), (6, .int x6)] [] h (eV r) r := by
  intro n
  induction n with
  | zero => intro h x0 x4 x5 x6 r E; cases E
  | succ n ih => intro h x0 x4 x5 x6 r E; exact f_Law_init_b47_ok hst hd   ih E
theorem ko_X5_3 : Cond.methodLink RX5 3 objectInit ∈ gw := gw_at 1076 (by decide +kernel) (by decide +kernel)
def f_Law_init_b0   (h : Hp) (x0 : Nat) (x1 : Int32) (x2 : Nat) (x3 : Nat) (x4 : Nat)  : Option (Hp) :=
if hS h x0 = 6 then (
wr (hA h 20 (ix (9 : Int32)) (ix (9 : Int32))) fun h2 =>
if hS h2 x0 = 6 then (
wr (sR h2 x0 4 (hN h + 1)) fun h5 =>
wr (hA h5 20 (ix (32 : Int32)) (ix (32 : Int32))) fun h7 =>
if hS h7 x0 = 6 then (
wr (sR h7 x0 5 (hN h5 + 1)) fun h10 =>
wr (sI h10 x0 0 x1) fun h12 =>
wr (sR h12 x0 1 x2) fun h14 =>
wr (sR h14 x0 2 x3) fun h16 =>
wr (sR h16 x0 3 x4) fun h18 =>
f_Law_init_L47   FU h18 x0 x4 (0 : Int32) (0 : Int32)
) else none) else none) else none
set_option maxRecDepth 20000 in
set_option maxHeartbeats 4000000 in
theorem f_Law_init_b0_ok {l : Launch} {X : Nat × (Nat → Int32)} (hst : l.stackTraces = false) {d : Nat} (hd : 1 ≤ d)     {h : Hp} {x0 : Nat} {x1 : Int32} {x2 : Nat} {x3 : Nat} {x4 : Nat}  {r : Hp} (E : f_Law_init_b0   h x0 x1 x2 x3 x4 = some r) : Rn l X mX5_init d 0 [(0, .ref x0), (1, .int x1), (2, .ref x2), (3, .ref x3), (4, .ref x4)] [] h (eV r) r := by
  unfold f_Law_init_b0 at E
  refine Rn.aload_n (pc' := 1) dX5_init_0 rfl 0 rfl rfl ?_
  obtain ⟨g1, E⟩ := gd_of E
  refine Rn.objI1 (pc' := 4) ko_X5_3 (kp_n0 g1) (Nat.le_of_ble_eq_true rfl) dX5_init_1 rfl ?_
  refine Rn.aload_n (pc' := 5) dX5_init_4 rfl 0 rfl rfl ?_
  refine Rn.bipush (pc' := 7) (v := (9 : Int32)) (hv := by decide) dX5_init_5 rfl ?_
  refine Rn.newa (pc' := 9) (sh := 20) (by decide) (by decide) (by decide) dX5_init_7 rfl ?_
  replace E := wr_of E
  generalize eh3 : hA h 20 (ix (9 : Int32)) (ix (9 : Int32)) = h2 at E ⊢
  obtain ⟨g4, E⟩ := gd_of E
  refine Rn.putR (pc' := 12) fl_X5_9_5 (fun q hq => by cases hq; decide) g4 rfl rfl dX5_init_9 rfl ?_
  replace E := wr_of E
  generalize eh6 : sR h2 x0 4 (hN h + 1) = h5 at E ⊢
  refine Rn.aload_n (pc' := 13) dX5_init_12 rfl 0 rfl rfl ?_
  refine Rn.bipush (pc' := 15) (v := (32 : Int32)) (hv := by decide) dX5_init_13 rfl ?_
  refine Rn.newa (pc' := 17) (sh := 20) (by decide) (by decide) (by decide) dX5_init_15 rfl ?_
  replace E := wr_of E
  generalize eh8 : hA h5 20 (ix (32 : Int32)) (ix (32 : Int32)) = h7 at E ⊢
  obtain ⟨g9, E⟩ := gd_of E
  refine Rn.putR (pc' := 20) fl_X5_15_5 (fun q hq => by cases hq; decide) g9 rfl rfl dX5_init_17 rfl ?_
  replace E := wr_of E
  generalize eh11 : sR h7 x0 5 (hN h5 + 1) = h10 at E ⊢
  refine Rn.aload_n (pc' := 21) dX5_init_20 rfl 0 rfl rfl ?_
  refine Rn.iload_n (pc' := 22) dX5_init_21 rfl 1 rfl rfl ?_
  refine Rn.putI (pc' := 25) fl_X5_18_5 (fun q hq => by cases hq; decide) (kp_sR eh11 g9) rfl rfl rfl dX5_init_22 rfl ?_
  replace E := wr_of E
  generalize eh13 : sI h10 x0 0 x1 = h12 at E ⊢
  refine Rn.aload_n (pc' := 26) dX5_init_25 rfl 0 rfl rfl ?_
  refine Rn.aload_n (pc' := 27) dX5_init_26 rfl 2 rfl rfl ?_
  refine Rn.putR (pc' := 30) fl_X5_22_5 (fun q hq => by cases hq; decide) (kp_sI eh13 (kp_sR eh11 g9)) rfl rfl dX5_init_27 rfl ?_
  replace E := wr_of E
  generalize eh15 : sR h12 x0 1 x2 = h14 at E ⊢
  refine Rn.aload_n (pc' := 31) dX5_init_30 rfl 0 rfl rfl ?_
  refine Rn.aload_n (pc' := 32) dX5_init_31 rfl 3 rfl rfl ?_
  refine Rn.putR (pc' := 35) fl_X5_25_5 (fun q hq => by cases hq; decide) (kp_sR eh15 (kp_sI eh13 (kp_sR eh11 g9))) rfl rfl dX5_init_32 rfl ?_
  replace E := wr_of E
  generalize eh17 : sR h14 x0 2 x3 = h16 at E ⊢
  refine Rn.aload_n (pc' := 36) dX5_init_35 rfl 0 rfl rfl ?_
  refine Rn.aload (pc' := 38) dX5_init_36 4 rfl rfl ?_
  refine Rn.putR (pc' := 41) fl_X5_28_5 (fun q hq => by cases hq; decide) (kp_sR eh17 (kp_sR eh15 (kp_sI eh13 (kp_sR eh11 g9)))) rfl rfl dX5_init_38 rfl ?_
  replace E := wr_of E
  generalize eh19 : sR h16 x0 3 x4 = h18 at E ⊢
  refine Rn.iconst (pc' := 42) (v := (0 : Int32)) (hv := by decide) dX5_init_41 rfl ?_
  refine Rn.istore (pc' := 44) (L' := [(5, .int (0 : Int32)), (0, .ref x0), (1, .int x1), (2, .ref x2), (3, .ref x3), (4, .ref x4)]) dX5_init_42 (by decide) rfl rfl ?_
  refine Rn.iconst (pc' := 45) (v := (0 : Int32)) (hv := by decide) dX5_init_44 rfl ?_
  refine Rn.istore (pc' := 47) (L' := [(6, .int (0 : Int32)), (5, .int (0 : Int32)), (0, .ref x0), (1, .int x1), (2, .ref x2), (3, .ref x3), (4, .ref x4)]) dX5_init_45 (by decide) rfl rfl ?_
  refine Rn.sub [2, 6, 1, 0] rfl ?_
  exact f_Law_init_L47_ok hst hd   FU _ _ _ _ _ _ E
def f_Law_init (h : Hp) (x0 : Nat) (x1 : Int32) (x2 : Nat) (x3 : Nat) (x4 : Nat) : Option (Hp) := f_Law_init_b0  h x0 x1 x2 x3 x4
theorem f_Law_init_ok {l : Launch} {X : Nat × (Nat → Int32)} (hst : l.stackTraces = false) {h : Hp} {x0 : Nat} {x1 : Int32} {x2 : Nat} {x3 : Nat} {x4 : Nat} {r : Hp} (E : f_Law_init h x0 x1 x2 x3 x4 = some r) : MC l X yX5_init mX5_init 1 [.ref x0, .int x1, .ref x2, .ref x3, .ref x4] h (eV r) r :=
  MC.body (by decide +kernel) rfl (by decide) hst (Nat.le_of_ble_eq_true rfl) (f_Law_init_b0_ok hst (Nat.le_refl _) E)
abbrev mX6_made : MI := (RX6, cX6_made, 1, (some (Jvm.ClassFile.FieldType.object "VintageWater$Law")), [], false)
theorem ws_X6_made : ∀ w ∈ wsM yX6_made mX6_made, w ∈ gw := List.forall_mem_cons.mpr ⟨gw_at 1058 (by decide +kernel) (by decide +kernel), fun _ h => h⟩
theorem kk_X6_28 : Cond.classLink RX6 28 "VintageWater$Law" ∈ gw := gw_at 1059 (by decide +kernel) (by decide +kernel)
theorem kb_X6_30 : KB RX6 30 yJ7_copyOf_59c91 mJ7_copyOf_59c91 2 := ⟨gw_at 1060 (by decide +kernel) (by decide +kernel), gw_at 127 (by decide +kernel) (by decide +kernel), trivial, ws_J7_copyOf_59c91, by decide +kernel, by decide +kernel, by decide +kernel, by decide⟩
theorem ks_J7_copyOf_59c91 : Cond.static yJ7_copyOf_59c91 ∈ gw := gw_at 1061 (by decide +kernel) (by decide +kernel)
theorem kb_X6_36 : KB RX6 36 yJ9_max_7cf53 mJ9_max_7cf53 2 := ⟨gw_at 1072 (by decide +kernel) (by decide +kernel), gw_at 128 (by decide +kernel) (by decide +kernel), trivial, ws_J9_max_7cf53, by decide +kernel, by decide +kernel, by decide +kernel, by decide⟩
theorem kb_X6_42 : KB RX6 42 yX5_init mX5_init 4 := ⟨gw_at 1073 (by decide +kernel) (by decide +kernel), gw_at 129 (by decide +kernel) (by decide +kernel), trivial, ws_X5_init, by decide +kernel, by decide +kernel, by decide +kernel, by decide⟩
theorem kn_X5_init : Cond.instanceMethod yX5_init ∈ gw := gw_at 1074 (by decide +kernel) (by decide +kernel)
def f_LawText_made_b0   (h : Hp) (x0 : Nat)  : Option (Nat × Hp) :=
wr (hA h 6 0 (nF 5)) fun h1 =>
if hS h1 x0 = 7 then (
bI (f_Arrays_copyOf h1 (hR h1 x0 3) (12 : Int32)) fun v4 h5 =>
if hS h5 x0 = 7 then (
bI (f_Arrays_copyOf h5 (hR h5 x0 4) (12 : Int32)) fun v8 h9 =>
if hS h9 x0 = 7 then (
bI (f_Math_max h9 (0 : Int32) (hI h9 x0 6)) fun v12 h13 =>
bI (f_Arrays_copyOf h13 (hR h9 x0 5) v12) fun v15 h16 =>
if hS h16 (hN h + 1) = 6 then (
bV (f_Law_init h16 (hN h + 1) (hI h1 x0 2) v4 v8 v15) fun h20 =>
some ((hN h + 1), h20)
) else none) else none) else none) else none
set_option maxRecDepth 20000 in
set_option maxHeartbeats 4000000 in
theorem f_LawText_made_b0_ok {l : Launch} {X : Nat × (Nat → Int32)} (hst : l.stackTraces = false) {d : Nat} (hd : 2 ≤ d)     {h : Hp} {x0 : Nat}  {r : Nat × Hp} (E : f_LawText_made_b0   h x0 = some r) : Rn l X mX6_made d 0 [(0, .ref x0)] [] h (eA r) r.2 := by
  unfold f_LawText_made_b0 at E
  refine Rn.new (pc' := 3) (ci := 5) (C0 := "VintageWater$Law") (by decide) (fun r hr => by cases hr; rfl) kk_X6_28 dX6_made_0 rfl ?_
  replace E := wr_of E
  generalize eh2 : hA h 6 0 (nF 5) = h1 at E ⊢
  refine Rn.dup (pc' := 4) (hc := rfl) dX6_made_3 rfl ?_
  refine Rn.aload_n (pc' := 5) dX6_made_4 rfl 0 rfl rfl ?_
  obtain ⟨g3, E⟩ := gd_of E
  refine Rn.getI (pc' := 8) fl_X6_21_6 g3 rfl dX6_made_5 rfl ?_
  refine Rn.aload_n (pc' := 9) dX6_made_8 rfl 0 rfl rfl ?_
  refine Rn.getR (pc' := 12) fl_X6_9_6 g3 rfl dX6_made_9 rfl ?_
  refine Rn.bipush (pc' := 14) (v := (12 : Int32)) (hv := by decide) dX6_made_12 rfl ?_
  obtain ⟨v4, h5, e6, E⟩ := bI_of E
  refine Rn.callS1 (pc' := 17) (As := [.ref (hR h1 x0 3), .int (12 : Int32)]) (rest := [.int (hI h1 x0 2), .ref (hN h + 1), .ref (hN h + 1)]) (f_Arrays_copyOf_ok hst e6) (Nat.le_trans (by decide) hd) rfl kb_X6_30 ks_J7_copyOf_59c91 rfl rfl (Nat.le_of_ble_eq_true rfl) dX6_made_14 rfl rfl ?_
  refine Rn.aload_n (pc' := 18) dX6_made_17 rfl 0 rfl rfl ?_
  obtain ⟨g7, E⟩ := gd_of E
  refine Rn.getR (pc' := 21) fl_X6_15_6 g7 rfl dX6_made_18 rfl ?_
  refine Rn.bipush (pc' := 23) (v := (12 : Int32)) (hv := by decide) dX6_made_21 rfl ?_
  obtain ⟨v8, h9, e10, E⟩ := bI_of E
  refine Rn.callS1 (pc' := 26) (As := [.ref (hR h5 x0 4), .int (12 : Int32)]) (rest := [.ref v4, .int (hI h1 x0 2), .ref (hN h + 1), .ref (hN h + 1)]) (f_Arrays_copyOf_ok hst e10) (Nat.le_trans (by decide) hd) rfl kb_X6_30 ks_J7_copyOf_59c91 rfl rfl (Nat.le_of_ble_eq_true rfl) dX6_made_23 rfl rfl ?_
  refine Rn.aload_n (pc' := 27) dX6_made_26 rfl 0 rfl rfl ?_
  obtain ⟨g11, E⟩ := gd_of E
  refine Rn.getR (pc' := 30) fl_X6_18_6 g11 rfl dX6_made_27 rfl ?_
  refine Rn.iconst (pc' := 31) (v := (0 : Int32)) (hv := by decide) dX6_made_30 rfl ?_
  refine Rn.aload_n (pc' := 32) dX6_made_31 rfl 0 rfl rfl ?_
  refine Rn.getI (pc' := 35) fl_X6_25_6 g11 rfl dX6_made_32 rfl ?_
  obtain ⟨v12, h13, e14, E⟩ := bI_of E
  refine Rn.callS1 (pc' := 38) (As := [.int (0 : Int32), .int (hI h9 x0 6)]) (rest := [.ref (hR h9 x0 5), .ref v8, .ref v4, .int (hI h1 x0 2), .ref (hN h + 1), .ref (hN h + 1)]) (f_Math_max_ok hst e14) (Nat.le_trans (by decide) hd) rfl kb_X6_36 ks_J9_max_7cf53 rfl rfl (Nat.le_of_ble_eq_true rfl) dX6_made_35 rfl rfl ?_
  obtain ⟨v15, h16, e17, E⟩ := bI_of E
  refine Rn.callS1 (pc' := 41) (As := [.ref (hR h9 x0 5), .int v12]) (rest := [.ref v8, .ref v4, .int (hI h1 x0 2), .ref (hN h + 1), .ref (hN h + 1)]) (f_Arrays_copyOf_ok hst e17) (Nat.le_trans (by decide) hd) rfl kb_X6_30 ks_J7_copyOf_59c91 rfl rfl (Nat.le_of_ble_eq_true rfl) dX6_made_38 rfl rfl ?_
  obtain ⟨g18, E⟩ := gd_of E
  obtain ⟨h20, e21, E⟩ := bV_of E
  refine Rn.callI1 (pc' := 44) (As := [.int (hI h1 x0 2), .ref v4, .ref v8, .ref v15]) (rest := [.ref (hN h + 1)]) (f_Law_init_ok hst e21) (Nat.le_trans (by decide) hd) rfl rfl kb_X6_42 kn_X5_init rfl rfl (kp_n0 g18) rfl (Nat.le_of_ble_eq_true rfl) dX6_made_41 rfl ?_
  cases E
  exact Rn.aret rfl (by first | exact Or.inl ⟨_, rfl⟩ | exact Or.inr ⟨_, rfl⟩) dX6_made_44
def f_LawText_made (h : Hp) (x0 : Nat) : Option (Nat × Hp) := f_LawText_made_b0  h x0
theorem f_LawText_made_ok {l : Launch} {X : Nat × (Nat → Int32)} (hst : l.stackTraces = false) {h : Hp} {x0 : Nat} {r : Nat × Hp} (E : f_LawText_made h x0 = some r) : MC l X yX6_made mX6_made 2 [.ref x0] h (eA r) r.2 :=
  MC.body (by decide +kernel) rfl (by decide) hst (Nat.le_of_ble_eq_true rfl) (f_LawText_made_b0_ok hst (Nat.le_refl _) E)
abbrev mX10_law : MI := (RX10, cX10_law, 2, (some Jvm.ClassFile.FieldType.int), [], false)
theorem ws_X10_law : ∀ w ∈ wsM yX10_law mX10_law, w ∈ gw := List.forall_mem_cons.mpr ⟨gw_at 1047 (by decide +kernel) (by decide +kernel), fun _ h => h⟩
theorem kb_X10_107 : KB RX10 107 yX6_begin mX6_begin 0 := ⟨gw_at 1048 (by decide +kernel) (by decide +kernel), gw_at 111 (by decide +kernel) (by decide +kernel), trivial, ws_X6_begin, by decide +kernel, by decide +kernel, by decide +kernel, by decide⟩
theorem ki_X6_begin : Cond.instanceMethod yX6_begin ∈ gw ∧ Cond.selects yX6_begin.cls yX6_begin yX6_begin ∈ gw := ⟨gw_at 1049 (by decide +kernel) (by decide +kernel), gw_at 1050 (by decide +kernel) (by decide +kernel)⟩
theorem ku_X10_109_6 : Cond.methodLink RX10 109 (⟨"VintageWater$LawText", "isRead", "()Z"⟩ : MethodName) ∈ gw ∧ Cond.sameMethod "VintageWater$LawText" "VintageWater$Lines" "isRead" "()Z" ∈ gw ∧ Cond.selects "VintageWater$LawText" (⟨"VintageWater$LawText", "isRead", "()Z"⟩ : MethodName) yX7_isRead ∈ gw ∧ Cond.instanceMethod yX7_isRead ∈ gw ∧ Cond.initialized yX7_isRead.cls ∈ gw := ⟨gw_at 1052 (by decide +kernel) (by decide +kernel), gw_at 1053 (by decide +kernel) (by decide +kernel), gw_at 1054 (by decide +kernel) (by decide +kernel), gw_at 727 (by decide +kernel) (by decide +kernel), gw_at 109 (by decide +kernel) (by decide +kernel)⟩
theorem fl_X10_87_8 : FL RX10 87 8 5 := ⟨_, rfl, by decide, "VintageWater$Tape", gw_at 154 (by decide +kernel) (by decide +kernel), Or.inl rfl⟩
theorem kb_X10_110 : KB RX10 110 yX6_made mX6_made 0 := ⟨gw_at 1055 (by decide +kernel) (by decide +kernel), gw_at 111 (by decide +kernel) (by decide +kernel), trivial, ws_X6_made, by decide +kernel, by decide +kernel, by decide +kernel, by decide⟩
theorem ki_X6_made : Cond.instanceMethod yX6_made ∈ gw ∧ Cond.selects yX6_made.cls yX6_made yX6_made ∈ gw := ⟨gw_at 1056 (by decide +kernel) (by decide +kernel), gw_at 1057 (by decide +kernel) (by decide +kernel)⟩
def f_Water_law_b0   (h : Hp) (x0 : Nat)  : Option ((Int32 ⊕ Nat) × Hp) :=
if hS h x0 = 10 then (
if hS h (hR h x0 2) = 7 then (
bV (f_LawText_begin h (hR h x0 2)) fun h4 =>
if hS h4 x0 = 10 then (
if hS h4 (hR h4 x0 2) = 7 then (
bI (f_Lines_isRead_6 h4 (hR h4 x0 2)) fun v8 h9 =>
if hS h9 x0 = 10 then (
if hS h9 (hR h9 x0 0) = 9 then (
wr (sI h9 x0 11 (hI h9 (hR h9 x0 0) 5)) fun h13 =>
if hS h13 (hR h13 x0 0) = 9 then (
wr (sI h13 (hR h13 x0 0) 1 (0 : Int32)) fun h16 =>
if v8 = 0 then (
some (.inr 2, hA h16 0 0 6)

) else (
if hS h16 (hR h16 x0 2) = 7 then (
bI (f_LawText_made h16 (hR h16 x0 2)) fun v20 h21 =>
if hS h21 (hR h16 x0 4) = 4 then (
wr (sR h21 (hR h16 x0 4) 8 v20) fun h24 =>
if hS h24 x0 = 10 then (
if hS h24 (hR h24 x0 4) = 4 then (
if hS h24 (hR h24 (hR h24 x0 4) 8) = 6 then (
some (.inl (hI h24 (hR h24 (hR h24 x0 4) 8) 0), h24)
) else none) else none) else none) else none) else none
)
) else none) else none) else none) else none) else none) else none) else none
set_option maxRecDepth 20000 in
set_option maxHeartbeats 4000000 in
theorem f_Water_law_b0_ok {l : Launch} {X : Nat × (Nat → Int32)} (hst : l.stackTraces = false) {d : Nat} (hd : 46 ≤ d)     {h : Hp} {x0 : Nat}  {r : (Int32 ⊕ Nat) × Hp} (E : f_Water_law_b0   h x0 = some r) : Rn l X mX10_law d 0 [(0, .ref x0)] [] h (xI r) r.2 := by
  unfold f_Water_law_b0 at E
  refine Rn.aload_n (pc' := 1) dX10_law_0 rfl 0 rfl rfl ?_
  obtain ⟨g1, E⟩ := gd_of E
  refine Rn.getR (pc' := 4) fl_X10_28_9 g1 rfl dX10_law_1 rfl ?_
  obtain ⟨g2, E⟩ := gd_of E
  obtain ⟨h4, e5, E⟩ := bV_of E
  refine Rn.callV1 (pc' := 7) (As := []) (rest := []) (f_LawText_begin_ok hst e5) (Nat.le_trans (by decide) hd) rfl kb_X10_107 ki_X6_begin rfl g2 rfl rfl (Nat.le_of_ble_eq_true rfl) dX10_law_4 rfl rfl ?_
  refine Rn.aload_n (pc' := 8) dX10_law_7 rfl 0 rfl rfl ?_
  obtain ⟨g6, E⟩ := gd_of E
  refine Rn.getR (pc' := 11) fl_X10_28_9 g6 rfl dX10_law_8 rfl ?_
  obtain ⟨g7, E⟩ := gd_of E
  obtain ⟨v8, h9, e10, E⟩ := bI_of E
  refine Rn.callU1 (pc' := 14) (x := ⟨"VintageWater$LawText", "isRead", "()Z"⟩) (As := []) (rest := []) (ci := 6) (C0 := "VintageWater$LawText") (owner := "VintageWater$Lines") (f_Lines_isRead_6_ok hst e10) (Nat.le_trans (by decide) hd) rfl ku_X10_109_6 (by decide) ws_X7_isRead (by decide +kernel) (by decide) rfl g7 rfl rfl (Nat.le_of_ble_eq_true rfl) dX10_law_11 rfl rfl ?_
  refine Rn.istore_n (pc' := 15) (L' := [(1, .int v8), (0, .ref x0)]) dX10_law_14 rfl (by decide) rfl rfl ?_
  refine Rn.aload_n (pc' := 16) dX10_law_15 rfl 1 rfl rfl ?_
  refine Rn.aload_n (pc' := 17) dX10_law_16 rfl 1 rfl rfl ?_
  obtain ⟨g11, E⟩ := gd_of E
  refine Rn.getR (pc' := 20) fl_X10_12_9 g11 rfl dX10_law_17 rfl ?_
  obtain ⟨g12, E⟩ := gd_of E
  refine Rn.getI (pc' := 23) fl_X10_87_8 g12 rfl dX10_law_20 rfl ?_
  refine Rn.putI (pc' := 26) fl_X10_62_9 (fun q hq => by cases hq; decide) g11 rfl rfl rfl dX10_law_23 rfl ?_
  replace E := wr_of E
  generalize eh14 : sI h9 x0 11 (hI h9 (hR h9 x0 0) 5) = h13 at E ⊢
  refine Rn.aload_n (pc' := 27) dX10_law_26 rfl 1 rfl rfl ?_
  refine Rn.getR (pc' := 30) fl_X10_12_9 (kp_sI eh14 g11) rfl dX10_law_27 rfl ?_
  refine Rn.iconst (pc' := 31) (v := (0 : Int32)) (hv := by decide) dX10_law_30 rfl ?_
  obtain ⟨g15, E⟩ := gd_of E
  refine Rn.putI (pc' := 34) fl_X10_66_8 (fun q hq => by cases hq; decide) g15 rfl rfl rfl dX10_law_31 rfl ?_
  replace E := wr_of E
  generalize eh17 : sI h13 (hR h13 x0 0) 1 (0 : Int32) = h16 at E ⊢
  refine Rn.iload_n (pc' := 35) dX10_law_34 rfl 0 rfl rfl ?_
  refine Rn.if_ne (pc' := 38) (tgt := 48) dX10_law_35 (by decide) rfl (fun c18 => ?_) (fun c18 => ?_)
  · replace E := (if_of E).2 c18
    refine Rn.aload_n (pc' := 49) dX10_law_48 rfl 1 rfl rfl ?_
    refine Rn.getR (pc' := 52) fl_X10_42_9 (kp_sI eh17 (kp_sI eh14 g11)) rfl dX10_law_49 rfl ?_
    refine Rn.aload_n (pc' := 53) dX10_law_52 rfl 1 rfl rfl ?_
    refine Rn.getR (pc' := 56) fl_X10_28_9 (kp_sI eh17 (kp_sI eh14 g11)) rfl dX10_law_53 rfl ?_
    obtain ⟨g19, E⟩ := gd_of E
    obtain ⟨v20, h21, e22, E⟩ := bI_of E
    refine Rn.callV1 (pc' := 59) (As := []) (rest := [.ref (hR h16 x0 4)]) (f_LawText_made_ok hst e22) (Nat.le_trans (by decide) hd) rfl kb_X10_110 ki_X6_made rfl g19 rfl rfl (Nat.le_of_ble_eq_true rfl) dX10_law_56 rfl rfl ?_
    obtain ⟨g23, E⟩ := gd_of E
    refine Rn.putR (pc' := 62) fl_X10_114_3 (fun q hq => by cases hq; decide) g23 rfl rfl dX10_law_59 rfl ?_
    replace E := wr_of E
    generalize eh25 : sR h21 (hR h16 x0 4) 8 v20 = h24 at E ⊢
    refine Rn.aload_n (pc' := 63) dX10_law_62 rfl 1 rfl rfl ?_
    obtain ⟨g26, E⟩ := gd_of E
    refine Rn.getR (pc' := 66) fl_X10_42_9 g26 rfl dX10_law_63 rfl ?_
    obtain ⟨g27, E⟩ := gd_of E
    refine Rn.getR (pc' := 69) fl_X10_114_3 g27 rfl dX10_law_66 rfl ?_
    obtain ⟨g28, E⟩ := gd_of E
    refine Rn.getI (pc' := 72) fl_X10_118_5 g28 rfl dX10_law_69 rfl ?_
    cases E
    exact Rn.zret rfl rfl dX10_law_72
  · replace E := (if_of E).1 c18
    cases E
    exact Rn.throwS (x := 2) (i := 1) kt_X10_88_92 rfl rfl dX10_law_38 dX10_law_41 dX10_law_42 dX10_law_44 dX10_law_47 (Nat.le_of_ble_eq_true rfl)
def f_Water_law (h : Hp) (x0 : Nat) : Option ((Int32 ⊕ Nat) × Hp) := f_Water_law_b0  h x0
theorem f_Water_law_ok {l : Launch} {X : Nat × (Nat → Int32)} (hst : l.stackTraces = false) {h : Hp} {x0 : Nat} {r : (Int32 ⊕ Nat) × Hp} (E : f_Water_law h x0 = some r) : MC l X yX10_law mX10_law 46 [.ref x0] h (xI r) r.2 :=
  MC.body (by decide +kernel) rfl (by decide) hst (Nat.le_of_ble_eq_true rfl) (f_Water_law_b0_ok hst (Nat.le_refl _) E)
abbrev mL_law : MI := (RL, cL_law, 3, (some Jvm.ClassFile.FieldType.int), [(0, 8, 11, 13)], false)
theorem ws_L_law : ∀ w ∈ wsM yL_law mL_law, w ∈ gw := List.forall_mem_cons.mpr ⟨gw_at 1043 (by decide +kernel) (by decide +kernel), fun _ h => h⟩
theorem kb_L_17 : KB RL 17 yX10_law mX10_law 0 := ⟨gw_at 1044 (by decide +kernel) (by decide +kernel), gw_at 107 (by decide +kernel) (by decide +kernel), trivial, ws_X10_law, by decide +kernel, by decide +kernel, by decide +kernel, by decide⟩
theorem ki_X10_law : Cond.instanceMethod yX10_law ∈ gw ∧ Cond.selects yX10_law.cls yX10_law yX10_law ∈ gw := ⟨gw_at 1045 (by decide +kernel) (by decide +kernel), gw_at 1046 (by decide +kernel) (by decide +kernel)⟩
def f_Lw_law_b0   (h : Hp) (x0 : Nat) (x1 : Nat)  : Option (Int32 × Hp) :=
if hS h x0 = 10 then (
bC (f_Water_law h x0) (fun v2 h3 =>
if hS h3 x1 = 22 then (
if ib (0 : Int32) (hL h3 x1) = true then (
wr (sJ h3 x1 (ix (0 : Int32)) (Int32.toInt64 v2)) fun h7 =>
some ((0 : Int32), h7)
) else none) else none
) (fun x_ h3 =>
if x_ = 2 then (
some ((1 : Int32), h3)

) else (
none))
) else none
set_option maxRecDepth 20000 in
set_option maxHeartbeats 4000000 in
theorem f_Lw_law_b0_ok {l : Launch} {X : Nat × (Nat → Int32)} (hst : l.stackTraces = false) {d : Nat} (hd : 47 ≤ d)     {h : Hp} {x0 : Nat} {x1 : Nat}  {r : Int32 × Hp} (E : f_Lw_law_b0   h x0 x1 = some r) : Rn l X mL_law d 0 [(0, .ref x0), (1, .ref x1)] [] h (eI r) r.2 := by
  unfold f_Lw_law_b0 at E
  refine Rn.aload_n (pc' := 1) dL_law_0 rfl 1 rfl rfl ?_
  refine Rn.iconst (pc' := 2) (v := (0 : Int32)) (hv := by decide) dL_law_1 rfl ?_
  refine Rn.aload_n (pc' := 3) dL_law_2 rfl 0 rfl rfl ?_
  obtain ⟨g1, E⟩ := gd_of E
  rcases bC_of E with ⟨v2, h3, e4, E⟩ | ⟨x_, h3, e4, E⟩
  · refine Rn.callV1 (pc' := 6) (As := []) (rest := [.int (0 : Int32), .ref x1]) (f_Water_law_ok hst e4) (Nat.le_trans (by decide) hd) rfl kb_L_17 ki_X10_law rfl g1 rfl rfl (Nat.le_of_ble_eq_true rfl) dL_law_3 rfl rfl ?_
    refine Rn.i2l (pc' := 7) dL_law_6 rfl ?_
    obtain ⟨g5, E⟩ := gd_of E
    obtain ⟨g6, E⟩ := gd_of E
    refine Rn.last (pc' := 8) g5 g6 dL_law_7 rfl ?_
    replace E := wr_of E
    generalize eh8 : sJ h3 x1 (ix (0 : Int32)) (Int32.toInt64 v2) = h7 at E ⊢
    refine Rn.goto (pc' := 14) dL_law_8 (by decide) ?_
    refine Rn.iconst (pc' := 15) (v := (0 : Int32)) (hv := by decide) dL_law_14 rfl ?_
    cases E
    exact Rn.zret rfl rfl dL_law_15
  · refine Rn.callVX (As := []) (rest := [.int (0 : Int32), .ref x1]) (f_Water_law_ok hst e4) (Nat.le_trans (by decide) hd) rfl kb_L_17 ki_X10_law rfl g1 rfl rfl (Nat.le_of_ble_eq_true rfl) dL_law_3 ?_
    by_cases c9 : x_ = 2
    · replace E := (if_of E).1 c9
      subst c9
      refine RnX.catch (x := 2) (i := 2) (pch := 12) 0 rfl (pre0) (by decide) (by decide) kk_L_13 (by decide) (Or.inl ⟨2, rfl, dL_law_11, rfl⟩) (by decide) ?_
      change Rn _ _ _ _ _ [(0, .ref x0), (1, .ref x1)] _ _ _ _
      refine Rn.iconst (pc' := 13) (v := (1 : Int32)) (hv := by decide) dL_law_12 rfl ?_
      cases E
      exact Rn.zret rfl rfl dL_law_13
    replace E := (if_of E).2 c9
    cases E
def f_Lw_law (h : Hp) (x0 : Nat) (x1 : Nat) : Option (Int32 × Hp) := f_Lw_law_b0  h x0 x1
theorem f_Lw_law_ok {l : Launch} {X : Nat × (Nat → Int32)} (hst : l.stackTraces = false) {h : Hp} {x0 : Nat} {x1 : Nat} {r : Int32 × Hp} (E : f_Lw_law h x0 x1 = some r) : MC l X yL_law mL_law 47 [.ref x0, .ref x1] h (eI r) r.2 :=
  MC.body (by decide +kernel) rfl (by decide) hst (Nat.le_of_ble_eq_true rfl) (f_Lw_law_b0_ok hst (Nat.le_refl _) E)
abbrev mX11_isAt : MI := (RX11, cX11_isAt, 3, (some Jvm.ClassFile.FieldType.boolean), [], false)
theorem ws_X11_isAt : ∀ w ∈ wsM yX11_isAt mX11_isAt, w ∈ gw := List.forall_mem_cons.mpr ⟨gw_at 1526 (by decide +kernel) (by decide +kernel), fun _ h => h⟩
def f_Model_isAt_b0   (h : Hp) (x0 : Nat) (x1 : Int32) (x2 : Int32)  : Option (Int32 × Hp) :=
if hS h x0 = 11 then (
if (hI h x0 11) ≤ (hI h x0 10) then (
some ((0 : Int32), h)

) else (
if hS h (hR h x0 8) = 21 then (
if ib (hI h x0 10) (hL h (hR h x0 8)) = true then (
if (hI h (hR h x0 8) (ix (hI h x0 10))) < x1 then (
some ((0 : Int32), h)

) else (
if ib (hI h x0 10) (hL h (hR h x0 8)) = true then (
if x2 < (hI h (hR h x0 8) (ix (hI h x0 10))) then (
some ((0 : Int32), h)

) else (
some ((1 : Int32), h)

)
) else none
)
) else none) else none
)
) else none
set_option maxRecDepth 20000 in
set_option maxHeartbeats 4000000 in
theorem f_Model_isAt_b0_ok {l : Launch} {X : Nat × (Nat → Int32)} (hst : l.stackTraces = false) {d : Nat} (hd : 0 ≤ d)     {h : Hp} {x0 : Nat} {x1 : Int32} {x2 : Int32}  {r : Int32 × Hp} (E : f_Model_isAt_b0   h x0 x1 x2 = some r) : Rn l X mX11_isAt d 0 [(0, .ref x0), (1, .int x1), (2, .int x2)] [] h (eI r) r.2 := by
  unfold f_Model_isAt_b0 at E
  refine Rn.aload_n (pc' := 1) dX11_isAt_0 rfl 0 rfl rfl ?_
  obtain ⟨g1, E⟩ := gd_of E
  refine Rn.getI (pc' := 4) fl_X11_89_10 g1 rfl dX11_isAt_1 rfl ?_
  refine Rn.aload_n (pc' := 5) dX11_isAt_4 rfl 0 rfl rfl ?_
  refine Rn.getI (pc' := 8) fl_X11_92_10 g1 rfl dX11_isAt_5 rfl ?_
  refine Rn.icmp_ge (pc' := 11) (tgt := 41) dX11_isAt_8 (by decide) rfl (fun c2 => ?_) (fun c2 => ?_)
  · replace E := (if_of E).1 c2
    refine Rn.iconst (pc' := 42) (v := (0 : Int32)) (hv := by decide) dX11_isAt_41 rfl ?_
    cases E
    exact Rn.zret rfl rfl dX11_isAt_42
  · replace E := (if_of E).2 c2
    refine Rn.aload_n (pc' := 12) dX11_isAt_11 rfl 0 rfl rfl ?_
    refine Rn.getR (pc' := 15) fl_X11_29_10 g1 rfl dX11_isAt_12 rfl ?_
    refine Rn.aload_n (pc' := 16) dX11_isAt_15 rfl 0 rfl rfl ?_
    refine Rn.getI (pc' := 19) fl_X11_89_10 g1 rfl dX11_isAt_16 rfl ?_
    obtain ⟨g3, E⟩ := gd_of E
    obtain ⟨g4, E⟩ := gd_of E
    refine Rn.bald (pc' := 20) g3 g4 dX11_isAt_19 rfl ?_
    refine Rn.iload_n (pc' := 21) dX11_isAt_20 rfl 1 rfl rfl ?_
    refine Rn.icmp_lt (pc' := 24) (tgt := 41) dX11_isAt_21 (by decide) rfl (fun c5 => ?_) (fun c5 => ?_)
    · replace E := (if_of E).1 c5
      refine Rn.iconst (pc' := 42) (v := (0 : Int32)) (hv := by decide) dX11_isAt_41 rfl ?_
      cases E
      exact Rn.zret rfl rfl dX11_isAt_42
    · replace E := (if_of E).2 c5
      refine Rn.aload_n (pc' := 25) dX11_isAt_24 rfl 0 rfl rfl ?_
      refine Rn.getR (pc' := 28) fl_X11_29_10 g1 rfl dX11_isAt_25 rfl ?_
      refine Rn.aload_n (pc' := 29) dX11_isAt_28 rfl 0 rfl rfl ?_
      refine Rn.getI (pc' := 32) fl_X11_89_10 g1 rfl dX11_isAt_29 rfl ?_
      obtain ⟨g6, E⟩ := gd_of E
      refine Rn.bald (pc' := 33) g3 g6 dX11_isAt_32 rfl ?_
      refine Rn.iload_n (pc' := 34) dX11_isAt_33 rfl 2 rfl rfl ?_
      refine Rn.icmp_gt (pc' := 37) (tgt := 41) dX11_isAt_34 (by decide) rfl (fun c7 => ?_) (fun c7 => ?_)
      · replace E := (if_of E).1 c7
        refine Rn.iconst (pc' := 42) (v := (0 : Int32)) (hv := by decide) dX11_isAt_41 rfl ?_
        cases E
        exact Rn.zret rfl rfl dX11_isAt_42
      · replace E := (if_of E).2 c7
        refine Rn.iconst (pc' := 38) (v := (1 : Int32)) (hv := by decide) dX11_isAt_37 rfl ?_
        refine Rn.goto (pc' := 42) dX11_isAt_38 (by decide) ?_
        cases E
        exact Rn.zret rfl rfl dX11_isAt_42
def f_Model_isAt (h : Hp) (x0 : Nat) (x1 : Int32) (x2 : Int32) : Option (Int32 × Hp) := f_Model_isAt_b0  h x0 x1 x2
theorem f_Model_isAt_ok {l : Launch} {X : Nat × (Nat → Int32)} (hst : l.stackTraces = false) {h : Hp} {x0 : Nat} {x1 : Int32} {x2 : Int32} {r : Int32 × Hp} (E : f_Model_isAt h x0 x1 x2 = some r) : MC l X yX11_isAt mX11_isAt 0 [.ref x0, .int x1, .int x2] h (eI r) r.2 :=
  MC.body (by decide +kernel) rfl (by decide) hst (Nat.le_of_ble_eq_true rfl) (f_Model_isAt_b0_ok hst (Nat.le_refl _) E)
abbrev mX11_blanks : MI := (RX11, cX11_blanks, 1, none, [], false)
theorem ws_X11_blanks : ∀ w ∈ wsM yX11_blanks mX11_blanks, w ∈ gw := List.forall_mem_cons.mpr ⟨gw_at 1522 (by decide +kernel) (by decide +kernel), fun _ h => h⟩
theorem kb_X11_95 : KB RX11 95 yX11_isAt mX11_isAt 2 := ⟨gw_at 1523 (by decide +kernel) (by decide +kernel), gw_at 117 (by decide +kernel) (by decide +kernel), trivial, ws_X11_isAt, by decide +kernel, by decide +kernel, by decide +kernel, by decide⟩
theorem ki_X11_isAt : Cond.instanceMethod yX11_isAt ∈ gw ∧ Cond.selects yX11_isAt.cls yX11_isAt yX11_isAt ∈ gw := ⟨gw_at 1525 (by decide +kernel) (by decide +kernel), gw_at 43 (by decide +kernel) (by decide +kernel)⟩
theorem fl_X11_99_10 : FL RX11 99 10 12 := ⟨_, rfl, by decide, "VintageWaterModel", gw_at 1438 (by decide +kernel) (by decide +kernel), Or.inl rfl⟩
def f_Model_blanks_b0  (k0 : Hp → Nat → Option (Hp)) (h : Hp) (x0 : Nat)  : Option (Hp) :=
if hS h x0 = 11 then (
bI (f_Model_isAt h x0 (32 : Int32) (32 : Int32)) fun v2 h3 =>
if v2 = 0 then (
if hS h3 x0 = 11 then (
wr (sI h3 x0 12 (hI h3 x0 10)) fun h7 =>
some h7
) else none
) else (
if hS h3 x0 = 11 then (
wr (sI h3 x0 10 ((hI h3 x0 10) + (1 : Int32))) fun h10 =>
k0 h10 x0
) else none
)
) else none
set_option maxRecDepth 20000 in
set_option maxHeartbeats 4000000 in
theorem f_Model_blanks_b0_ok {l : Launch} {X : Nat × (Nat → Int32)} (hst : l.stackTraces = false) {d : Nat} (hd : 1 ≤ d)   {k0 : Hp → Nat → Option (Hp)} (hk0 : ∀ (h : Hp) (x0 : Nat)  (r : Hp), k0 h x0 = some r → Rn l X mX11_blanks d 0 [(0, .ref x0)] [] h (eV r) r) {h : Hp} {x0 : Nat}  {r : Hp} (E : f_Model_blanks_b0  k0 h x0 = some r) : Rn l X mX11_blanks d 0 [(0, .ref x0)] [] h (eV r) r := by
  unfold f_Model_blanks_b0 at E
  refine Rn.aload_n (pc' := 1) dX11_blanks_0 rfl 0 rfl rfl ?_
  refine Rn.bipush (pc' := 3) (v := (32 : Int32)) (hv := by decide) dX11_blanks_1 rfl ?_
  refine Rn.bipush (pc' := 5) (v := (32 : Int32)) (hv := by decide) dX11_blanks_3 rfl ?_
  obtain ⟨g1, E⟩ := gd_of E
  obtain ⟨v2, h3, e4, E⟩ := bI_of E
  refine Rn.callV1 (pc' := 8) (As := [.int (32 : Int32), .int (32 : Int32)]) (rest := []) (f_Model_isAt_ok hst e4) (Nat.le_trans (by decide) hd) rfl kb_X11_95 ki_X11_isAt rfl g1 rfl rfl (Nat.le_of_ble_eq_true rfl) dX11_blanks_5 rfl rfl ?_
  refine Rn.if_eq (pc' := 11) (tgt := 24) dX11_blanks_8 (by decide) rfl (fun c5 => ?_) (fun c5 => ?_)
  · replace E := (if_of E).1 c5
    refine Rn.aload_n (pc' := 25) dX11_blanks_24 rfl 0 rfl rfl ?_
    refine Rn.aload_n (pc' := 26) dX11_blanks_25 rfl 0 rfl rfl ?_
    obtain ⟨g6, E⟩ := gd_of E
    refine Rn.getI (pc' := 29) fl_X11_89_10 g6 rfl dX11_blanks_26 rfl ?_
    refine Rn.putI (pc' := 32) fl_X11_99_10 (fun q hq => by cases hq; decide) g6 rfl rfl rfl dX11_blanks_29 rfl ?_
    replace E := wr_of E
    generalize eh8 : sI h3 x0 12 (hI h3 x0 10) = h7 at E ⊢
    cases E
    exact Rn.vret rfl dX11_blanks_32
  · replace E := (if_of E).2 c5
    refine Rn.aload_n (pc' := 12) dX11_blanks_11 rfl 0 rfl rfl ?_
    refine Rn.dup (pc' := 13) (hc := rfl) dX11_blanks_12 rfl ?_
    obtain ⟨g9, E⟩ := gd_of E
    refine Rn.getI (pc' := 16) fl_X11_89_10 g9 rfl dX11_blanks_13 rfl ?_
    refine Rn.iconst (pc' := 17) (v := (1 : Int32)) (hv := by decide) dX11_blanks_16 rfl ?_
    refine Rn.iadd (pc' := 18) dX11_blanks_17 rfl ?_
    refine Rn.putI (pc' := 21) fl_X11_89_10 (fun q hq => by cases hq; decide) g9 rfl rfl rfl dX11_blanks_18 rfl ?_
    replace E := wr_of E
    generalize eh11 : sI h3 x0 10 ((hI h3 x0 10) + (1 : Int32)) = h10 at E ⊢
    refine Rn.goto (pc' := 0) dX11_blanks_21 (by decide) ?_
    exact hk0 _ _ _ E
def f_Model_blanks_L0   (n : Nat) : Hp → Nat → Option (Hp) := Nat.rec (motive := fun _ => Hp → Nat → Option (Hp)) (fun _ _ => none) (fun _ rec => f_Model_blanks_b0   rec) n
theorem f_Model_blanks_L0_ok {l : Launch} {X : Nat × (Nat → Int32)} (hst : l.stackTraces = false) {d : Nat} (hd : 1 ≤ d)     : ∀ (n : Nat) (h : Hp) (x0 : Nat)  (r : Hp), f_Model_blanks_L0   n h x0 = some r → Rn l X mX11_blanks d 0 [(0, .ref x0)] [] h (eV r) r := by
  intro n
  induction n with
  | zero => intro h x0 r E; cases E
  | succ n ih => intro h x0 r E; exact f_Model_blanks_b0_ok hst hd   ih E
def f_Model_blanks (h : Hp) (x0 : Nat) : Option (Hp) := f_Model_blanks_L0 FU h x0
theorem f_Model_blanks_ok {l : Launch} {X : Nat × (Nat → Int32)} (hst : l.stackTraces = false) {h : Hp} {x0 : Nat} {r : Hp} (E : f_Model_blanks h x0 = some r) : MC l X yX11_blanks mX11_blanks 1 [.ref x0] h (eV r) r :=
  MC.body (by decide +kernel) rfl (by decide) hst (Nat.le_of_ble_eq_true rfl) (f_Model_blanks_L0_ok hst (Nat.le_refl _) FU _ _ _ E)
abbrev mX11_letters : MI := (RX11, cX11_letters, 1, none, [], false)
theorem ws_X11_letters : ∀ w ∈ wsM yX11_letters mX11_letters, w ∈ gw := List.forall_mem_cons.mpr ⟨gw_at 1534 (by decide +kernel) (by decide +kernel), fun _ h => h⟩
def f_Model_letters_b4  (k4 : Hp → Nat → Option (Hp)) (h : Hp) (x0 : Nat)  : Option (Hp) :=
if hS h x0 = 11 then (
bI (f_Model_isAt h x0 (97 : Int32) (122 : Int32)) fun v2 h3 =>
if v2 = 0 then (
some h3

) else (
if hS h3 x0 = 11 then (
wr (sI h3 x0 10 ((hI h3 x0 10) + (1 : Int32))) fun h7 =>
k4 h7 x0
) else none
)
) else none
set_option maxRecDepth 20000 in
set_option maxHeartbeats 4000000 in
theorem f_Model_letters_b4_ok {l : Launch} {X : Nat × (Nat → Int32)} (hst : l.stackTraces = false) {d : Nat} (hd : 2 ≤ d)   {k4 : Hp → Nat → Option (Hp)} (hk4 : ∀ (h : Hp) (x0 : Nat)  (r : Hp), k4 h x0 = some r → Rn l X mX11_letters d 4 [(0, .ref x0)] [] h (eV r) r) {h : Hp} {x0 : Nat}  {r : Hp} (E : f_Model_letters_b4  k4 h x0 = some r) : Rn l X mX11_letters d 4 [(0, .ref x0)] [] h (eV r) r := by
  unfold f_Model_letters_b4 at E
  refine Rn.aload_n (pc' := 5) dX11_letters_4 rfl 0 rfl rfl ?_
  refine Rn.bipush (pc' := 7) (v := (97 : Int32)) (hv := by decide) dX11_letters_5 rfl ?_
  refine Rn.bipush (pc' := 9) (v := (122 : Int32)) (hv := by decide) dX11_letters_7 rfl ?_
  obtain ⟨g1, E⟩ := gd_of E
  obtain ⟨v2, h3, e4, E⟩ := bI_of E
  refine Rn.callV1 (pc' := 12) (As := [.int (97 : Int32), .int (122 : Int32)]) (rest := []) (f_Model_isAt_ok hst e4) (Nat.le_trans (by decide) hd) rfl kb_X11_95 ki_X11_isAt rfl g1 rfl rfl (Nat.le_of_ble_eq_true rfl) dX11_letters_9 rfl rfl ?_
  refine Rn.if_eq (pc' := 15) (tgt := 28) dX11_letters_12 (by decide) rfl (fun c5 => ?_) (fun c5 => ?_)
  · replace E := (if_of E).1 c5
    cases E
    exact Rn.vret rfl dX11_letters_28
  · replace E := (if_of E).2 c5
    refine Rn.aload_n (pc' := 16) dX11_letters_15 rfl 0 rfl rfl ?_
    refine Rn.dup (pc' := 17) (hc := rfl) dX11_letters_16 rfl ?_
    obtain ⟨g6, E⟩ := gd_of E
    refine Rn.getI (pc' := 20) fl_X11_89_10 g6 rfl dX11_letters_17 rfl ?_
    refine Rn.iconst (pc' := 21) (v := (1 : Int32)) (hv := by decide) dX11_letters_20 rfl ?_
    refine Rn.iadd (pc' := 22) dX11_letters_21 rfl ?_
    refine Rn.putI (pc' := 25) fl_X11_89_10 (fun q hq => by cases hq; decide) g6 rfl rfl rfl dX11_letters_22 rfl ?_
    replace E := wr_of E
    generalize eh8 : sI h3 x0 10 ((hI h3 x0 10) + (1 : Int32)) = h7 at E ⊢
    refine Rn.goto (pc' := 4) dX11_letters_25 (by decide) ?_
    exact hk4 _ _ _ E
def f_Model_letters_L4   (n : Nat) : Hp → Nat → Option (Hp) := Nat.rec (motive := fun _ => Hp → Nat → Option (Hp)) (fun _ _ => none) (fun _ rec => f_Model_letters_b4   rec) n
theorem f_Model_letters_L4_ok {l : Launch} {X : Nat × (Nat → Int32)} (hst : l.stackTraces = false) {d : Nat} (hd : 2 ≤ d)     : ∀ (n : Nat) (h : Hp) (x0 : Nat)  (r : Hp), f_Model_letters_L4   n h x0 = some r → Rn l X mX11_letters d 4 [(0, .ref x0)] [] h (eV r) r := by
  intro n
  induction n with
  | zero => intro h x0 r E; cases E
  | succ n ih => intro h x0 r E; exact f_Model_letters_b4_ok hst hd   ih E
theorem kb_X11_102 : KB RX11 102 yX11_blanks mX11_blanks 0 := ⟨gw_at 1519 (by decide +kernel) (by decide +kernel), gw_at 117 (by decide +kernel) (by decide +kernel), trivial, ws_X11_blanks, by decide +kernel, by decide +kernel, by decide +kernel, by decide⟩
theorem ki_X11_blanks : Cond.instanceMethod yX11_blanks ∈ gw ∧ Cond.selects yX11_blanks.cls yX11_blanks yX11_blanks ∈ gw := ⟨gw_at 1521 (by decide +kernel) (by decide +kernel), gw_at 42 (by decide +kernel) (by decide +kernel)⟩
def f_Model_letters_b0   (h : Hp) (x0 : Nat)  : Option (Hp) :=
if hS h x0 = 11 then (
bV (f_Model_blanks h x0) fun h3 =>
f_Model_letters_L4   FU h3 x0
) else none
set_option maxRecDepth 20000 in
set_option maxHeartbeats 4000000 in
theorem f_Model_letters_b0_ok {l : Launch} {X : Nat × (Nat → Int32)} (hst : l.stackTraces = false) {d : Nat} (hd : 2 ≤ d)     {h : Hp} {x0 : Nat}  {r : Hp} (E : f_Model_letters_b0   h x0 = some r) : Rn l X mX11_letters d 0 [(0, .ref x0)] [] h (eV r) r := by
  unfold f_Model_letters_b0 at E
  refine Rn.aload_n (pc' := 1) dX11_letters_0 rfl 0 rfl rfl ?_
  obtain ⟨g1, E⟩ := gd_of E
  obtain ⟨h3, e4, E⟩ := bV_of E
  refine Rn.callV1 (pc' := 4) (As := []) (rest := []) (f_Model_blanks_ok hst e4) (Nat.le_trans (by decide) hd) rfl kb_X11_102 ki_X11_blanks rfl g1 rfl rfl (Nat.le_of_ble_eq_true rfl) dX11_letters_1 rfl rfl ?_
  exact f_Model_letters_L4_ok hst hd   FU _ _ _ E
def f_Model_letters (h : Hp) (x0 : Nat) : Option (Hp) := f_Model_letters_b0  h x0
theorem f_Model_letters_ok {l : Launch} {X : Nat × (Nat → Int32)} (hst : l.stackTraces = false) {h : Hp} {x0 : Nat} {r : Hp} (E : f_Model_letters h x0 = some r) : MC l X yX11_letters mX11_letters 2 [.ref x0] h (eV r) r :=
  MC.body (by decide +kernel) rfl (by decide) hst (Nat.le_of_ble_eq_true rfl) (f_Model_letters_b0_ok hst (Nat.le_refl _) E)
abbrev mX11_isWord : MI := (RX11, cX11_isWord, 4, (some Jvm.ClassFile.FieldType.boolean), [], false)
theorem ws_X11_isWord : ∀ w ∈ wsM yX11_isWord mX11_isWord, w ∈ gw := List.forall_mem_cons.mpr ⟨gw_at 1543 (by decide +kernel) (by decide +kernel), fun _ h => h⟩
def f_Model_isWord_b60  (k24 : Hp → Nat → Nat → Int32 → Int32 → Option (Int32 × Hp)) (h : Hp) (x0 : Nat) (x1 : Nat) (x3 : Int32) (s0 : Int32) : Option (Int32 × Hp) :=
k24 h x0 x1 s0 (x3 + (1 : Int32))

set_option maxRecDepth 20000 in
set_option maxHeartbeats 4000000 in
theorem f_Model_isWord_b60_ok {l : Launch} {X : Nat × (Nat → Int32)} (hst : l.stackTraces = false) {d : Nat} (hd : 4 ≤ d)   {k24 : Hp → Nat → Nat → Int32 → Int32 → Option (Int32 × Hp)} (hk24 : ∀ (h : Hp) (x0 : Nat) (x1 : Nat) (x2 : Int32) (x3 : Int32)  (r : Int32 × Hp), k24 h x0 x1 x2 x3 = some r → Rn l X mX11_isWord d 24 [(0, .ref x0), (1, .ref x1), (2, .int x2), (3, .int x3)] [] h (eI r) r.2) {h : Hp} {x0 : Nat} {x1 : Nat} {x3 : Int32} {s0 : Int32} {r : Int32 × Hp} (E : f_Model_isWord_b60  k24 h x0 x1 x3 s0 = some r) : Rn l X mX11_isWord d 60 [(0, .ref x0), (1, .ref x1), (3, .int x3)] [.int s0] h (eI r) r.2 := by
  unfold f_Model_isWord_b60 at E
  refine Rn.istore_n (pc' := 61) (L' := [(2, .int s0), (0, .ref x0), (1, .ref x1), (3, .int x3)]) dX11_isWord_60 rfl (by decide) rfl rfl ?_
  refine Rn.iinc (pc' := 64) (v := (x3 + (1 : Int32))) (L' := [(3, .int (x3 + (1 : Int32))), (2, .int s0), (0, .ref x0), (1, .ref x1)]) dX11_isWord_61 3 rfl rfl (by decide) rfl rfl ?_
  refine Rn.goto (pc' := 24) dX11_isWord_64 (by decide) ?_
  refine Rn.sub [2, 3, 1, 0] rfl ?_
  exact hk24 _ _ _ _ _ _ E
theorem kst_X11_105 : Cond.methodLink RX11 105 yJ0_length_8abf5 ∈ gw := gw_at 1544 (by decide +kernel) (by decide +kernel)
theorem kst_X11_110 : Cond.methodLink RX11 110 yJ0_charAt_5068e ∈ gw := gw_at 1545 (by decide +kernel) (by decide +kernel)
def f_Model_isWord_b24  (k24 : Hp → Nat → Nat → Int32 → Int32 → Option (Int32 × Hp)) (h : Hp) (x0 : Nat) (x1 : Nat) (x2 : Int32) (x3 : Int32)  : Option (Int32 × Hp) :=
if x2 = 0 then (
if x2 = 0 ∨ x2 = 1 then (
some (x2, h)
) else none
) else (
if jst x1 then (
if (jlen x1) ≤ x3 then (
if x2 = 0 ∨ x2 = 1 then (
some (x2, h)
) else none
) else (
if hS h x0 = 11 then (
if hS h (hR h x0 8) = 21 then (
if ib ((hI h x0 12) + x3) (hL h (hR h x0 8)) = true then (
if jst x1 then (
if ib x3 (stx x1).length = true then (
if (hI h (hR h x0 8) (ix ((hI h x0 12) + x3))) = (jch x1 x3) then (
f_Model_isWord_b60  k24 h x0 x1 x3 (1 : Int32)

) else (
f_Model_isWord_b60  k24 h x0 x1 x3 (0 : Int32)

)
) else none) else none) else none) else none) else none
)
) else none
)

set_option maxRecDepth 20000 in
set_option maxHeartbeats 4000000 in
theorem f_Model_isWord_b24_ok {l : Launch} {X : Nat × (Nat → Int32)} (hst : l.stackTraces = false) {d : Nat} (hd : 4 ≤ d)   {k24 : Hp → Nat → Nat → Int32 → Int32 → Option (Int32 × Hp)} (hk24 : ∀ (h : Hp) (x0 : Nat) (x1 : Nat) (x2 : Int32) (x3 : Int32)  (r : Int32 × Hp), k24 h x0 x1 x2 x3 = some r → Rn l X mX11_isWord d 24 [(0, .ref x0), (1, .ref x1), (2, .int x2), (3, .int x3)] [] h (eI r) r.2) {h : Hp} {x0 : Nat} {x1 : Nat} {x2 : Int32} {x3 : Int32}  {r : Int32 × Hp} (E : f_Model_isWord_b24  k24 h x0 x1 x2 x3 = some r) : Rn l X mX11_isWord d 24 [(0, .ref x0), (1, .ref x1), (2, .int x2), (3, .int x3)] [] h (eI r) r.2 := by
  unfold f_Model_isWord_b24 at E
  refine Rn.iload_n (pc' := 25) dX11_isWord_24 rfl 2 rfl rfl ?_
  refine Rn.if_eq (pc' := 28) (tgt := 67) dX11_isWord_25 (by decide) rfl (fun c1 => ?_) (fun c1 => ?_)
  · replace E := (if_of E).1 c1
    refine Rn.iload_n (pc' := 68) dX11_isWord_67 rfl 2 rfl rfl ?_
    obtain ⟨g2, E⟩ := gd_of E
    cases E
    exact Rn.zret rfl (nar_b g2) dX11_isWord_68
  · replace E := (if_of E).2 c1
    refine Rn.iload_n (pc' := 29) dX11_isWord_28 rfl 3 rfl rfl ?_
    refine Rn.aload_n (pc' := 30) dX11_isWord_29 rfl 1 rfl rfl ?_
    obtain ⟨g3, E⟩ := gd_of E
    refine Rn.strlen (pc' := 33) g3 hst (Nat.le_trans (by decide) hd) kst_X11_105 dX11_isWord_30 (Nat.le_of_ble_eq_true rfl) rfl ?_
    refine Rn.icmp_ge (pc' := 36) (tgt := 67) dX11_isWord_33 (by decide) rfl (fun c4 => ?_) (fun c4 => ?_)
    · replace E := (if_of E).1 c4
      refine Rn.iload_n (pc' := 68) dX11_isWord_67 rfl 2 rfl rfl ?_
      obtain ⟨g5, E⟩ := gd_of E
      cases E
      exact Rn.zret rfl (nar_b g5) dX11_isWord_68
    · replace E := (if_of E).2 c4
      refine Rn.aload_n (pc' := 37) dX11_isWord_36 rfl 0 rfl rfl ?_
      obtain ⟨g6, E⟩ := gd_of E
      refine Rn.getR (pc' := 40) fl_X11_29_10 g6 rfl dX11_isWord_37 rfl ?_
      refine Rn.aload_n (pc' := 41) dX11_isWord_40 rfl 0 rfl rfl ?_
      refine Rn.getI (pc' := 44) fl_X11_99_10 g6 rfl dX11_isWord_41 rfl ?_
      refine Rn.iload_n (pc' := 45) dX11_isWord_44 rfl 3 rfl rfl ?_
      refine Rn.iadd (pc' := 46) dX11_isWord_45 rfl ?_
      obtain ⟨g7, E⟩ := gd_of E
      obtain ⟨g8, E⟩ := gd_of E
      refine Rn.bald (pc' := 47) g7 g8 dX11_isWord_46 rfl ?_
      refine Rn.aload_n (pc' := 48) dX11_isWord_47 rfl 1 rfl rfl ?_
      refine Rn.iload_n (pc' := 49) dX11_isWord_48 rfl 3 rfl rfl ?_
      obtain ⟨g9, E⟩ := gd_of E
      obtain ⟨g10, E⟩ := gd_of E
      refine Rn.strch (pc' := 52) g9 g10 hst (Nat.le_trans (by decide) hd) kst_X11_110 dX11_isWord_49 (Nat.le_of_ble_eq_true rfl) rfl ?_
      refine Rn.icmp_ne (pc' := 55) (tgt := 59) dX11_isWord_52 (by decide) rfl (fun c11 => ?_) (fun c11 => ?_)
      · replace E := (if_of E).2 c11
        refine Rn.iconst (pc' := 60) (v := (0 : Int32)) (hv := by decide) dX11_isWord_59 rfl ?_
        refine Rn.sub [0, 1, 3] rfl ?_
        exact f_Model_isWord_b60_ok hst hd  hk24 E
      · replace E := (if_of E).1 c11
        refine Rn.iconst (pc' := 56) (v := (1 : Int32)) (hv := by decide) dX11_isWord_55 rfl ?_
        refine Rn.goto (pc' := 60) dX11_isWord_56 (by decide) ?_
        refine Rn.sub [0, 1, 3] rfl ?_
        exact f_Model_isWord_b60_ok hst hd  hk24 E
def f_Model_isWord_L24   (n : Nat) : Hp → Nat → Nat → Int32 → Int32 → Option (Int32 × Hp) := Nat.rec (motive := fun _ => Hp → Nat → Nat → Int32 → Int32 → Option (Int32 × Hp)) (fun _ _ _ _ _ => none) (fun _ rec => f_Model_isWord_b24   rec) n
theorem f_Model_isWord_L24_ok {l : Launch} {X : Nat × (Nat → Int32)} (hst : l.stackTraces = false) {d : Nat} (hd : 4 ≤ d)     : ∀ (n : Nat) (h : Hp) (x0 : Nat) (x1 : Nat) (x2 : Int32) (x3 : Int32)  (r : Int32 × Hp), f_Model_isWord_L24   n h x0 x1 x2 x3 = some r → Rn l X mX11_isWord d 24 [(0, .ref x0), (1, .ref x1), (2, .int x2), (3, .int x3)] [] h (eI r) r.2 := by
  intro n
  induction n with
  | zero => intro h x0 x1 x2 x3 r E; cases E
  | succ n ih => intro h x0 x1 x2 x3 r E; exact f_Model_isWord_b24_ok hst hd   ih E
def f_Model_isWord_b21   (h : Hp) (x0 : Nat) (x1 : Nat) (s0 : Int32) : Option (Int32 × Hp) :=
f_Model_isWord_L24   FU h x0 x1 s0 (0 : Int32)

set_option maxRecDepth 20000 in
set_option maxHeartbeats 4000000 in
theorem f_Model_isWord_b21_ok {l : Launch} {X : Nat × (Nat → Int32)} (hst : l.stackTraces = false) {d : Nat} (hd : 4 ≤ d)     {h : Hp} {x0 : Nat} {x1 : Nat} {s0 : Int32} {r : Int32 × Hp} (E : f_Model_isWord_b21   h x0 x1 s0 = some r) : Rn l X mX11_isWord d 21 [(0, .ref x0), (1, .ref x1)] [.int s0] h (eI r) r.2 := by
  unfold f_Model_isWord_b21 at E
  refine Rn.istore_n (pc' := 22) (L' := [(2, .int s0), (0, .ref x0), (1, .ref x1)]) dX11_isWord_21 rfl (by decide) rfl rfl ?_
  refine Rn.iconst (pc' := 23) (v := (0 : Int32)) (hv := by decide) dX11_isWord_22 rfl ?_
  refine Rn.istore_n (pc' := 24) (L' := [(3, .int (0 : Int32)), (2, .int s0), (0, .ref x0), (1, .ref x1)]) dX11_isWord_23 rfl (by decide) rfl rfl ?_
  refine Rn.sub [2, 3, 1, 0] rfl ?_
  exact f_Model_isWord_L24_ok hst hd   FU _ _ _ _ _ _ E
def f_Model_isWord_b0   (h : Hp) (x0 : Nat) (x1 : Nat)  : Option (Int32 × Hp) :=
if hS h x0 = 11 then (
if jst x1 then (
if ((hI h x0 10) - (hI h x0 12)) = (jlen x1) then (
f_Model_isWord_b21   h x0 x1 (1 : Int32)

) else (
f_Model_isWord_b21   h x0 x1 (0 : Int32)

)
) else none) else none
set_option maxRecDepth 20000 in
set_option maxHeartbeats 4000000 in
theorem f_Model_isWord_b0_ok {l : Launch} {X : Nat × (Nat → Int32)} (hst : l.stackTraces = false) {d : Nat} (hd : 4 ≤ d)     {h : Hp} {x0 : Nat} {x1 : Nat}  {r : Int32 × Hp} (E : f_Model_isWord_b0   h x0 x1 = some r) : Rn l X mX11_isWord d 0 [(0, .ref x0), (1, .ref x1)] [] h (eI r) r.2 := by
  unfold f_Model_isWord_b0 at E
  refine Rn.aload_n (pc' := 1) dX11_isWord_0 rfl 0 rfl rfl ?_
  obtain ⟨g1, E⟩ := gd_of E
  refine Rn.getI (pc' := 4) fl_X11_89_10 g1 rfl dX11_isWord_1 rfl ?_
  refine Rn.aload_n (pc' := 5) dX11_isWord_4 rfl 0 rfl rfl ?_
  refine Rn.getI (pc' := 8) fl_X11_99_10 g1 rfl dX11_isWord_5 rfl ?_
  refine Rn.isub (pc' := 9) dX11_isWord_8 rfl ?_
  refine Rn.aload_n (pc' := 10) dX11_isWord_9 rfl 1 rfl rfl ?_
  obtain ⟨g2, E⟩ := gd_of E
  refine Rn.strlen (pc' := 13) g2 hst (Nat.le_trans (by decide) hd) kst_X11_105 dX11_isWord_10 (Nat.le_of_ble_eq_true rfl) rfl ?_
  refine Rn.icmp_ne (pc' := 16) (tgt := 20) dX11_isWord_13 (by decide) rfl (fun c3 => ?_) (fun c3 => ?_)
  · replace E := (if_of E).2 c3
    refine Rn.iconst (pc' := 21) (v := (0 : Int32)) (hv := by decide) dX11_isWord_20 rfl ?_
    exact f_Model_isWord_b21_ok hst hd   E
  · replace E := (if_of E).1 c3
    refine Rn.iconst (pc' := 17) (v := (1 : Int32)) (hv := by decide) dX11_isWord_16 rfl ?_
    refine Rn.goto (pc' := 21) dX11_isWord_17 (by decide) ?_
    exact f_Model_isWord_b21_ok hst hd   E
def f_Model_isWord (h : Hp) (x0 : Nat) (x1 : Nat) : Option (Int32 × Hp) := f_Model_isWord_b0  h x0 x1
theorem f_Model_isWord_ok {l : Launch} {X : Nat × (Nat → Int32)} (hst : l.stackTraces = false) {h : Hp} {x0 : Nat} {x1 : Nat} {r : Int32 × Hp} (E : f_Model_isWord h x0 x1 = some r) : MC l X yX11_isWord mX11_isWord 4 [.ref x0, .ref x1] h (eI r) r.2 :=
  MC.body (by decide +kernel) rfl (by decide) hst (Nat.le_of_ble_eq_true rfl) (f_Model_isWord_b0_ok hst (Nat.le_refl _) E)
abbrev mX11_number : MI := (RX11, cX11_number, 4, (some Jvm.ClassFile.FieldType.int), [], false)
theorem ws_X11_number : ∀ w ∈ wsM yX11_number mX11_number, w ∈ gw := List.forall_mem_cons.mpr ⟨gw_at 1561 (by decide +kernel) (by decide +kernel), fun _ h => h⟩
def f_Model_number_b51  (k6 : Hp → Nat → Int32 → Int32 → Int32 → Option (Int32 × Hp)) (h : Hp) (x0 : Nat) (x1 : Int32) (x2 : Int32) (s0 : Int32) : Option (Int32 × Hp) :=
if hS h x0 = 11 then (
wr (sI h x0 10 ((hI h x0 10) + (1 : Int32))) fun h2 =>
k6 h2 x0 x1 x2 s0
) else none
set_option maxRecDepth 20000 in
set_option maxHeartbeats 4000000 in
theorem f_Model_number_b51_ok {l : Launch} {X : Nat × (Nat → Int32)} (hst : l.stackTraces = false) {d : Nat} (hd : 2 ≤ d)   {k6 : Hp → Nat → Int32 → Int32 → Int32 → Option (Int32 × Hp)} (hk6 : ∀ (h : Hp) (x0 : Nat) (x1 : Int32) (x2 : Int32) (x3 : Int32)  (r : Int32 × Hp), k6 h x0 x1 x2 x3 = some r → Rn l X mX11_number d 6 [(0, .ref x0), (1, .int x1), (2, .int x2), (3, .int x3)] [] h (eI r) r.2) {h : Hp} {x0 : Nat} {x1 : Int32} {x2 : Int32} {s0 : Int32} {r : Int32 × Hp} (E : f_Model_number_b51  k6 h x0 x1 x2 s0 = some r) : Rn l X mX11_number d 51 [(0, .ref x0), (1, .int x1), (2, .int x2)] [.int s0] h (eI r) r.2 := by
  unfold f_Model_number_b51 at E
  refine Rn.istore_n (pc' := 52) (L' := [(3, .int s0), (0, .ref x0), (1, .int x1), (2, .int x2)]) dX11_number_51 rfl (by decide) rfl rfl ?_
  refine Rn.aload_n (pc' := 53) dX11_number_52 rfl 1 rfl rfl ?_
  refine Rn.dup (pc' := 54) (hc := rfl) dX11_number_53 rfl ?_
  obtain ⟨g1, E⟩ := gd_of E
  refine Rn.getI (pc' := 57) fl_X11_89_10 g1 rfl dX11_number_54 rfl ?_
  refine Rn.iconst (pc' := 58) (v := (1 : Int32)) (hv := by decide) dX11_number_57 rfl ?_
  refine Rn.iadd (pc' := 59) dX11_number_58 rfl ?_
  refine Rn.putI (pc' := 62) fl_X11_89_10 (fun q hq => by cases hq; decide) g1 rfl rfl rfl dX11_number_59 rfl ?_
  replace E := wr_of E
  generalize eh3 : sI h x0 10 ((hI h x0 10) + (1 : Int32)) = h2 at E ⊢
  refine Rn.goto (pc' := 6) dX11_number_62 (by decide) ?_
  refine Rn.sub [1, 2, 3, 0] rfl ?_
  exact hk6 _ _ _ _ _ _ E
def f_Model_number_b99   (h : Hp)   : Option (Int32 × Hp) :=
some ((-1 : Int32), h)

set_option maxRecDepth 20000 in
set_option maxHeartbeats 4000000 in
theorem f_Model_number_b99_ok {l : Launch} {X : Nat × (Nat → Int32)} (hst : l.stackTraces = false) {d : Nat} (hd : 2 ≤ d)     {h : Hp}   {r : Int32 × Hp} (E : f_Model_number_b99   h  = some r) : Rn l X mX11_number d 99 [] [] h (eI r) r.2 := by
  unfold f_Model_number_b99 at E
  refine Rn.iconst (pc' := 100) (v := (-1 : Int32)) (hv := by decide) dX11_number_99 rfl ?_
  refine Rn.goto (pc' := 104) dX11_number_100 (by decide) ?_
  cases E
  exact Rn.zret rfl rfl dX11_number_104
def f_Model_number_b6  (k6 : Hp → Nat → Int32 → Int32 → Int32 → Option (Int32 × Hp)) (h : Hp) (x0 : Nat) (x1 : Int32) (x2 : Int32) (x3 : Int32)  : Option (Int32 × Hp) :=
if hS h x0 = 11 then (
bI (f_Model_isAt h x0 (48 : Int32) (57 : Int32)) fun v2 h3 =>
if v2 = 0 then (
if hS h3 x0 = 11 then (
if (hI h3 x0 10) = (hI h3 x0 12) then (
f_Model_number_b99   h3

) else (
if (3 : Int32) < ((hI h3 x0 10) - (hI h3 x0 12)) then (
f_Model_number_b99   h3

) else (
if x3 < x1 then (
f_Model_number_b99   h3

) else (
if x3 ≤ x2 then (
some (x3, h3)

) else (
f_Model_number_b99   h3

)

)

)

)
) else none
) else (
if hS h3 x0 = 11 then (
if (3 : Int32) ≤ ((hI h3 x0 10) - (hI h3 x0 12)) then (
f_Model_number_b51  k6 h3 x0 x1 x2 x3

) else (
if hS h3 (hR h3 x0 8) = 21 then (
if ib (hI h3 x0 10) (hL h3 (hR h3 x0 8)) = true then (
f_Model_number_b51  k6 h3 x0 x1 x2 ((((10 : Int32) * x3) + (hI h3 (hR h3 x0 8) (ix (hI h3 x0 10)))) - (48 : Int32))
) else none) else none
)
) else none
)
) else none
set_option maxRecDepth 20000 in
set_option maxHeartbeats 4000000 in
theorem f_Model_number_b6_ok {l : Launch} {X : Nat × (Nat → Int32)} (hst : l.stackTraces = false) {d : Nat} (hd : 2 ≤ d)   {k6 : Hp → Nat → Int32 → Int32 → Int32 → Option (Int32 × Hp)} (hk6 : ∀ (h : Hp) (x0 : Nat) (x1 : Int32) (x2 : Int32) (x3 : Int32)  (r : Int32 × Hp), k6 h x0 x1 x2 x3 = some r → Rn l X mX11_number d 6 [(0, .ref x0), (1, .int x1), (2, .int x2), (3, .int x3)] [] h (eI r) r.2) {h : Hp} {x0 : Nat} {x1 : Int32} {x2 : Int32} {x3 : Int32}  {r : Int32 × Hp} (E : f_Model_number_b6  k6 h x0 x1 x2 x3 = some r) : Rn l X mX11_number d 6 [(0, .ref x0), (1, .int x1), (2, .int x2), (3, .int x3)] [] h (eI r) r.2 := by
  unfold f_Model_number_b6 at E
  refine Rn.aload_n (pc' := 7) dX11_number_6 rfl 0 rfl rfl ?_
  refine Rn.bipush (pc' := 9) (v := (48 : Int32)) (hv := by decide) dX11_number_7 rfl ?_
  refine Rn.bipush (pc' := 11) (v := (57 : Int32)) (hv := by decide) dX11_number_9 rfl ?_
  obtain ⟨g1, E⟩ := gd_of E
  obtain ⟨v2, h3, e4, E⟩ := bI_of E
  refine Rn.callV1 (pc' := 14) (As := [.int (48 : Int32), .int (57 : Int32)]) (rest := []) (f_Model_isAt_ok hst e4) (Nat.le_trans (by decide) hd) rfl kb_X11_95 ki_X11_isAt rfl g1 rfl rfl (Nat.le_of_ble_eq_true rfl) dX11_number_11 rfl rfl ?_
  refine Rn.if_eq (pc' := 17) (tgt := 65) dX11_number_14 (by decide) rfl (fun c5 => ?_) (fun c5 => ?_)
  · replace E := (if_of E).1 c5
    refine Rn.aload_n (pc' := 66) dX11_number_65 rfl 0 rfl rfl ?_
    obtain ⟨g6, E⟩ := gd_of E
    refine Rn.getI (pc' := 69) fl_X11_89_10 g6 rfl dX11_number_66 rfl ?_
    refine Rn.aload_n (pc' := 70) dX11_number_69 rfl 0 rfl rfl ?_
    refine Rn.getI (pc' := 73) fl_X11_99_10 g6 rfl dX11_number_70 rfl ?_
    refine Rn.icmp_eq (pc' := 76) (tgt := 99) dX11_number_73 (by decide) rfl (fun c7 => ?_) (fun c7 => ?_)
    · replace E := (if_of E).1 c7
      refine Rn.sub [] rfl ?_
      exact f_Model_number_b99_ok hst hd   E
    · replace E := (if_of E).2 c7
      refine Rn.aload_n (pc' := 77) dX11_number_76 rfl 0 rfl rfl ?_
      refine Rn.getI (pc' := 80) fl_X11_89_10 g6 rfl dX11_number_77 rfl ?_
      refine Rn.aload_n (pc' := 81) dX11_number_80 rfl 0 rfl rfl ?_
      refine Rn.getI (pc' := 84) fl_X11_99_10 g6 rfl dX11_number_81 rfl ?_
      refine Rn.isub (pc' := 85) dX11_number_84 rfl ?_
      refine Rn.iconst (pc' := 86) (v := (3 : Int32)) (hv := by decide) dX11_number_85 rfl ?_
      refine Rn.icmp_gt (pc' := 89) (tgt := 99) dX11_number_86 (by decide) rfl (fun c8 => ?_) (fun c8 => ?_)
      · replace E := (if_of E).1 c8
        refine Rn.sub [] rfl ?_
        exact f_Model_number_b99_ok hst hd   E
      · replace E := (if_of E).2 c8
        refine Rn.iload_n (pc' := 90) dX11_number_89 rfl 3 rfl rfl ?_
        refine Rn.iload_n (pc' := 91) dX11_number_90 rfl 1 rfl rfl ?_
        refine Rn.icmp_lt (pc' := 94) (tgt := 99) dX11_number_91 (by decide) rfl (fun c9 => ?_) (fun c9 => ?_)
        · replace E := (if_of E).1 c9
          refine Rn.sub [] rfl ?_
          exact f_Model_number_b99_ok hst hd   E
        · replace E := (if_of E).2 c9
          refine Rn.iload_n (pc' := 95) dX11_number_94 rfl 3 rfl rfl ?_
          refine Rn.iload_n (pc' := 96) dX11_number_95 rfl 2 rfl rfl ?_
          refine Rn.icmp_le (pc' := 99) (tgt := 103) dX11_number_96 (by decide) rfl (fun c10 => ?_) (fun c10 => ?_)
          · replace E := (if_of E).1 c10
            refine Rn.iload_n (pc' := 104) dX11_number_103 rfl 3 rfl rfl ?_
            cases E
            exact Rn.zret rfl rfl dX11_number_104
          · replace E := (if_of E).2 c10
            refine Rn.sub [] rfl ?_
            exact f_Model_number_b99_ok hst hd   E
  · replace E := (if_of E).2 c5
    refine Rn.aload_n (pc' := 18) dX11_number_17 rfl 0 rfl rfl ?_
    obtain ⟨g11, E⟩ := gd_of E
    refine Rn.getI (pc' := 21) fl_X11_89_10 g11 rfl dX11_number_18 rfl ?_
    refine Rn.aload_n (pc' := 22) dX11_number_21 rfl 0 rfl rfl ?_
    refine Rn.getI (pc' := 25) fl_X11_99_10 g11 rfl dX11_number_22 rfl ?_
    refine Rn.isub (pc' := 26) dX11_number_25 rfl ?_
    refine Rn.iconst (pc' := 27) (v := (3 : Int32)) (hv := by decide) dX11_number_26 rfl ?_
    refine Rn.icmp_ge (pc' := 30) (tgt := 50) dX11_number_27 (by decide) rfl (fun c12 => ?_) (fun c12 => ?_)
    · replace E := (if_of E).1 c12
      refine Rn.iload_n (pc' := 51) dX11_number_50 rfl 3 rfl rfl ?_
      refine Rn.sub [0, 1, 2] rfl ?_
      exact f_Model_number_b51_ok hst hd  hk6 E
    · replace E := (if_of E).2 c12
      refine Rn.bipush (pc' := 32) (v := (10 : Int32)) (hv := by decide) dX11_number_30 rfl ?_
      refine Rn.iload_n (pc' := 33) dX11_number_32 rfl 3 rfl rfl ?_
      refine Rn.imul (pc' := 34) dX11_number_33 rfl ?_
      refine Rn.aload_n (pc' := 35) dX11_number_34 rfl 0 rfl rfl ?_
      refine Rn.getR (pc' := 38) fl_X11_29_10 g11 rfl dX11_number_35 rfl ?_
      refine Rn.aload_n (pc' := 39) dX11_number_38 rfl 0 rfl rfl ?_
      refine Rn.getI (pc' := 42) fl_X11_89_10 g11 rfl dX11_number_39 rfl ?_
      obtain ⟨g13, E⟩ := gd_of E
      obtain ⟨g14, E⟩ := gd_of E
      refine Rn.bald (pc' := 43) g13 g14 dX11_number_42 rfl ?_
      refine Rn.iadd (pc' := 44) dX11_number_43 rfl ?_
      refine Rn.bipush (pc' := 46) (v := (48 : Int32)) (hv := by decide) dX11_number_44 rfl ?_
      refine Rn.isub (pc' := 47) dX11_number_46 rfl ?_
      refine Rn.goto (pc' := 51) dX11_number_47 (by decide) ?_
      refine Rn.sub [0, 1, 2] rfl ?_
      exact f_Model_number_b51_ok hst hd  hk6 E
def f_Model_number_L6   (n : Nat) : Hp → Nat → Int32 → Int32 → Int32 → Option (Int32 × Hp) := Nat.rec (motive := fun _ => Hp → Nat → Int32 → Int32 → Int32 → Option (Int32 × Hp)) (fun _ _ _ _ _ => none) (fun _ rec => f_Model_number_b6   rec) n
theorem f_Model_number_L6_ok {l : Launch} {X : Nat × (Nat → Int32)} (hst : l.stackTraces = false) {d : Nat} (hd : 2 ≤ d)     : ∀ (n : Nat) (h : Hp) (x0 : Nat) (x1 : Int32) (x2 : Int32) (x3 : Int32)  (r : Int32 × Hp), f_Model_number_L6   n h x0 x1 x2 x3 = some r → Rn l X mX11_number d 6 [(0, .ref x0), (1, .int x1), (2, .int x2), (3, .int x3)] [] h (eI r) r.2 := by
  intro n
  induction n with
  | zero => intro h x0 x1 x2 x3 r E; cases E
  | succ n ih => intro h x0 x1 x2 x3 r E; exact f_Model_number_b6_ok hst hd   ih E
def f_Model_number_b0   (h : Hp) (x0 : Nat) (x1 : Int32) (x2 : Int32)  : Option (Int32 × Hp) :=
if hS h x0 = 11 then (
bV (f_Model_blanks h x0) fun h3 =>
f_Model_number_L6   FU h3 x0 x1 x2 (0 : Int32)
) else none
set_option maxRecDepth 20000 in
set_option maxHeartbeats 4000000 in
theorem f_Model_number_b0_ok {l : Launch} {X : Nat × (Nat → Int32)} (hst : l.stackTraces = false) {d : Nat} (hd : 2 ≤ d)     {h : Hp} {x0 : Nat} {x1 : Int32} {x2 : Int32}  {r : Int32 × Hp} (E : f_Model_number_b0   h x0 x1 x2 = some r) : Rn l X mX11_number d 0 [(0, .ref x0), (1, .int x1), (2, .int x2)] [] h (eI r) r.2 := by
  unfold f_Model_number_b0 at E
  refine Rn.aload_n (pc' := 1) dX11_number_0 rfl 0 rfl rfl ?_
  obtain ⟨g1, E⟩ := gd_of E
  obtain ⟨h3, e4, E⟩ := bV_of E
  refine Rn.callV1 (pc' := 4) (As := []) (rest := []) (f_Model_blanks_ok hst e4) (Nat.le_trans (by decide) hd) rfl kb_X11_102 ki_X11_blanks rfl g1 rfl rfl (Nat.le_of_ble_eq_true rfl) dX11_number_1 rfl rfl ?_
  refine Rn.iconst (pc' := 5) (v := (0 : Int32)) (hv := by decide) dX11_number_4 rfl ?_
  refine Rn.istore_n (pc' := 6) (L' := [(3, .int (0 : Int32)), (0, .ref x0), (1, .int x1), (2, .int x2)]) dX11_number_5 rfl (by decide) rfl rfl ?_
  refine Rn.sub [1, 2, 3, 0] rfl ?_
  exact f_Model_number_L6_ok hst hd   FU _ _ _ _ _ _ E
def f_Model_number (h : Hp) (x0 : Nat) (x1 : Int32) (x2 : Int32) : Option (Int32 × Hp) := f_Model_number_b0  h x0 x1 x2
theorem f_Model_number_ok {l : Launch} {X : Nat × (Nat → Int32)} (hst : l.stackTraces = false) {h : Hp} {x0 : Nat} {x1 : Int32} {x2 : Int32} {r : Int32 × Hp} (E : f_Model_number h x0 x1 x2 = some r) : MC l X yX11_number mX11_number 2 [.ref x0, .int x1, .int x2] h (eI r) r.2 :=
  MC.body (by decide +kernel) rfl (by decide) hst (Nat.le_of_ble_eq_true rfl) (f_Model_number_b0_ok hst (Nat.le_refl _) E)
abbrev mX11_passes : MI := (RX11, cX11_passes, 2, (some Jvm.ClassFile.FieldType.boolean), [], false)
theorem ws_X11_passes : ∀ w ∈ wsM yX11_passes mX11_passes, w ∈ gw := List.forall_mem_cons.mpr ⟨gw_at 1570 (by decide +kernel) (by decide +kernel), fun _ h => h⟩
theorem kb_X11_114 : KB RX11 114 yX11_letters mX11_letters 0 := ⟨gw_at 1531 (by decide +kernel) (by decide +kernel), gw_at 117 (by decide +kernel) (by decide +kernel), trivial, ws_X11_letters, by decide +kernel, by decide +kernel, by decide +kernel, by decide⟩
theorem ki_X11_letters : Cond.instanceMethod yX11_letters ∈ gw ∧ Cond.selects yX11_letters.cls yX11_letters yX11_letters ∈ gw := ⟨gw_at 1533 (by decide +kernel) (by decide +kernel), gw_at 45 (by decide +kernel) (by decide +kernel)⟩
theorem kb_X11_117 : KB RX11 117 yX11_isWord mX11_isWord 1 := ⟨gw_at 1540 (by decide +kernel) (by decide +kernel), gw_at 117 (by decide +kernel) (by decide +kernel), trivial, ws_X11_isWord, by decide +kernel, by decide +kernel, by decide +kernel, by decide⟩
theorem ki_X11_isWord : Cond.instanceMethod yX11_isWord ∈ gw ∧ Cond.selects yX11_isWord.cls yX11_isWord yX11_isWord ∈ gw := ⟨gw_at 1542 (by decide +kernel) (by decide +kernel), gw_at 47 (by decide +kernel) (by decide +kernel)⟩
def f_Model_passes_b0   (h : Hp) (x0 : Nat) (x1 : Nat)  : Option (Int32 × Hp) :=
if hS h x0 = 11 then (
bV (f_Model_letters h x0) fun h3 =>
if hS h3 x0 = 11 then (
bI (f_Model_isWord h3 x0 x1) fun v6 h7 =>
if v6 = 0 then (
if hS h7 x0 = 11 then (
wr (sI h7 x0 10 (hI h7 x0 12)) fun h11 =>
some ((0 : Int32), h11)
) else none
) else (
some ((1 : Int32), h7)

)
) else none) else none
set_option maxRecDepth 20000 in
set_option maxHeartbeats 4000000 in
theorem f_Model_passes_b0_ok {l : Launch} {X : Nat × (Nat → Int32)} (hst : l.stackTraces = false) {d : Nat} (hd : 5 ≤ d)     {h : Hp} {x0 : Nat} {x1 : Nat}  {r : Int32 × Hp} (E : f_Model_passes_b0   h x0 x1 = some r) : Rn l X mX11_passes d 0 [(0, .ref x0), (1, .ref x1)] [] h (eI r) r.2 := by
  unfold f_Model_passes_b0 at E
  refine Rn.aload_n (pc' := 1) dX11_passes_0 rfl 0 rfl rfl ?_
  obtain ⟨g1, E⟩ := gd_of E
  obtain ⟨h3, e4, E⟩ := bV_of E
  refine Rn.callV1 (pc' := 4) (As := []) (rest := []) (f_Model_letters_ok hst e4) (Nat.le_trans (by decide) hd) rfl kb_X11_114 ki_X11_letters rfl g1 rfl rfl (Nat.le_of_ble_eq_true rfl) dX11_passes_1 rfl rfl ?_
  refine Rn.aload_n (pc' := 5) dX11_passes_4 rfl 0 rfl rfl ?_
  refine Rn.aload_n (pc' := 6) dX11_passes_5 rfl 1 rfl rfl ?_
  obtain ⟨g5, E⟩ := gd_of E
  obtain ⟨v6, h7, e8, E⟩ := bI_of E
  refine Rn.callV1 (pc' := 9) (As := [.ref x1]) (rest := []) (f_Model_isWord_ok hst e8) (Nat.le_trans (by decide) hd) rfl kb_X11_117 ki_X11_isWord rfl g5 rfl rfl (Nat.le_of_ble_eq_true rfl) dX11_passes_6 rfl rfl ?_
  refine Rn.if_eq (pc' := 12) (tgt := 14) dX11_passes_9 (by decide) rfl (fun c9 => ?_) (fun c9 => ?_)
  · replace E := (if_of E).1 c9
    refine Rn.aload_n (pc' := 15) dX11_passes_14 rfl 0 rfl rfl ?_
    refine Rn.aload_n (pc' := 16) dX11_passes_15 rfl 0 rfl rfl ?_
    obtain ⟨g10, E⟩ := gd_of E
    refine Rn.getI (pc' := 19) fl_X11_99_10 g10 rfl dX11_passes_16 rfl ?_
    refine Rn.putI (pc' := 22) fl_X11_89_10 (fun q hq => by cases hq; decide) g10 rfl rfl rfl dX11_passes_19 rfl ?_
    replace E := wr_of E
    generalize eh12 : sI h7 x0 10 (hI h7 x0 12) = h11 at E ⊢
    refine Rn.iconst (pc' := 23) (v := (0 : Int32)) (hv := by decide) dX11_passes_22 rfl ?_
    cases E
    exact Rn.zret rfl rfl dX11_passes_23
  · replace E := (if_of E).2 c9
    refine Rn.iconst (pc' := 13) (v := (1 : Int32)) (hv := by decide) dX11_passes_12 rfl ?_
    cases E
    exact Rn.zret rfl rfl dX11_passes_13
def f_Model_passes (h : Hp) (x0 : Nat) (x1 : Nat) : Option (Int32 × Hp) := f_Model_passes_b0  h x0 x1
theorem f_Model_passes_ok {l : Launch} {X : Nat × (Nat → Int32)} (hst : l.stackTraces = false) {h : Hp} {x0 : Nat} {x1 : Nat} {r : Int32 × Hp} (E : f_Model_passes h x0 x1 = some r) : MC l X yX11_passes mX11_passes 5 [.ref x0, .ref x1] h (eI r) r.2 :=
  MC.body (by decide +kernel) rfl (by decide) hst (Nat.le_of_ble_eq_true rfl) (f_Model_passes_b0_ok hst (Nat.le_refl _) E)
abbrev mX11_readCistern : MI := (RX11, cX11_readCistern, 3, (some Jvm.ClassFile.FieldType.boolean), [], false)
theorem ws_X11_readCistern : ∀ w ∈ wsM yX11_readCistern mX11_readCistern, w ∈ gw := List.forall_mem_cons.mpr ⟨gw_at 1549 (by decide +kernel) (by decide +kernel), fun _ h => h⟩
def f_Model_readCistern_b109   (h : Hp) (x0 : Nat) (s0 : Nat) (s1 : Int32) (s2 : Int32) (s3 : Int32) : Option (Int32 × Hp) :=
if hS h s0 = 11 then (
bV (f_Model_setsCistern h s0 s1 s2 s3) fun h3 =>
if hS h3 x0 = 11 then (
if hS h3 (hR h3 x0 1) = 20 then (
if ib (0 : Int32) (hL h3 (hR h3 x0 1)) = true then (
if ib (0 : Int32) (hL h3 (hR h3 x0 1)) = true then (
wr (sI h3 (hR h3 x0 1) (ix (0 : Int32)) ((hI h3 (hR h3 x0 1) (ix (0 : Int32))) + (1 : Int32))) fun h9 =>
some ((1 : Int32), h9)
) else none) else none) else none) else none) else none
set_option maxRecDepth 20000 in
set_option maxHeartbeats 4000000 in
theorem f_Model_readCistern_b109_ok {l : Launch} {X : Nat × (Nat → Int32)} (hst : l.stackTraces = false) {d : Nat} (hd : 6 ≤ d)     {h : Hp} {x0 : Nat} {s0 : Nat} {s1 : Int32} {s2 : Int32} {s3 : Int32} {r : Int32 × Hp} (E : f_Model_readCistern_b109   h x0 s0 s1 s2 s3 = some r) : Rn l X mX11_readCistern d 109 [(0, .ref x0)] [.int s3, .int s2, .int s1, .ref s0] h (eI r) r.2 := by
  unfold f_Model_readCistern_b109 at E
  obtain ⟨g1, E⟩ := gd_of E
  obtain ⟨h3, e4, E⟩ := bV_of E
  refine Rn.callV1 (pc' := 112) (As := [.int s1, .int s2, .int s3]) (rest := []) (f_Model_setsCistern_ok hst e4) (Nat.le_trans (by decide) hd) rfl kb_X11_124 ki_X11_setsCistern rfl g1 rfl rfl (Nat.le_of_ble_eq_true rfl) dX11_readCistern_109 rfl rfl ?_
  refine Rn.aload_n (pc' := 113) dX11_readCistern_112 rfl 0 rfl rfl ?_
  obtain ⟨g5, E⟩ := gd_of E
  refine Rn.getR (pc' := 116) fl_X11_13_10 g5 rfl dX11_readCistern_113 rfl ?_
  refine Rn.iconst (pc' := 117) (v := (0 : Int32)) (hv := by decide) dX11_readCistern_116 rfl ?_
  refine Rn.dup2 (pc' := 118) (hc := rfl) (hd := rfl) dX11_readCistern_117 rfl ?_
  obtain ⟨g6, E⟩ := gd_of E
  obtain ⟨g7, E⟩ := gd_of E
  refine Rn.iald (pc' := 119) g6 g7 dX11_readCistern_118 rfl ?_
  refine Rn.iconst (pc' := 120) (v := (1 : Int32)) (hv := by decide) dX11_readCistern_119 rfl ?_
  refine Rn.iadd (pc' := 121) dX11_readCistern_120 rfl ?_
  obtain ⟨g8, E⟩ := gd_of E
  refine Rn.iast (pc' := 122) g6 g8 dX11_readCistern_121 rfl ?_
  replace E := wr_of E
  generalize eh10 : sI h3 (hR h3 x0 1) (ix (0 : Int32)) ((hI h3 (hR h3 x0 1) (ix (0 : Int32))) + (1 : Int32)) = h9 at E ⊢
  refine Rn.iconst (pc' := 123) (v := (1 : Int32)) (hv := by decide) dX11_readCistern_122 rfl ?_
  cases E
  exact Rn.zret rfl rfl dX11_readCistern_123
theorem kb_X11_121 : KB RX11 121 yX11_number mX11_number 2 := ⟨gw_at 1558 (by decide +kernel) (by decide +kernel), gw_at 117 (by decide +kernel) (by decide +kernel), trivial, ws_X11_number, by decide +kernel, by decide +kernel, by decide +kernel, by decide⟩
theorem ki_X11_number : Cond.instanceMethod yX11_number ∈ gw ∧ Cond.selects yX11_number.cls yX11_number yX11_number ∈ gw := ⟨gw_at 1560 (by decide +kernel) (by decide +kernel), gw_at 51 (by decide +kernel) (by decide +kernel)⟩
theorem kb_X11_129 : KB RX11 129 yX11_passes mX11_passes 1 := ⟨gw_at 1567 (by decide +kernel) (by decide +kernel), gw_at 117 (by decide +kernel) (by decide +kernel), trivial, ws_X11_passes, by decide +kernel, by decide +kernel, by decide +kernel, by decide⟩
theorem ki_X11_passes : Cond.instanceMethod yX11_passes ∈ gw ∧ Cond.selects yX11_passes.cls yX11_passes yX11_passes ∈ gw := ⟨gw_at 1569 (by decide +kernel) (by decide +kernel), gw_at 53 (by decide +kernel) (by decide +kernel)⟩
def f_Model_readCistern_b15  (k15 : Hp → Nat → Int32 → Int32 → Option (Int32 × Hp)) (h : Hp) (x0 : Nat) (x1 : Int32) (x2 : Int32)  : Option (Int32 × Hp) :=
if (35 : Int32) ≤ x2 then (
if hS h x0 = 11 then (
bV (f_Model_setsCistern h x0 x1 (4 : Int32) (-1 : Int32)) fun h4 =>
if hS h4 x0 = 11 then (
bI (f_Model_number h4 x0 (1 : Int32) (999 : Int32)) fun v7 h8 =>
if hS h8 x0 = 11 then (
bV (f_Model_setsCistern h8 x0 x1 (0 : Int32) v7) fun h12 =>
if hS h12 x0 = 11 then (
bI (f_Model_ofCistern h12 x0 x1 (0 : Int32)) fun v15 h16 =>
if 0 ≤ v15 then (
if hS h16 x0 = 11 then (
bI (f_Model_passes h16 x0 (STR + 23)) fun v20 h21 =>
if v20 = 0 then (
if hS h21 x0 = 11 then (
bI (f_Model_passes h21 x0 (STR + 24)) fun v25 h26 =>
if v25 = 0 then (
if hS h26 x0 = 11 then (
bI (f_Model_passes h26 x0 (STR + 25)) fun v30 h31 =>
if v30 = 0 then (
f_Model_readCistern_b109   h31 x0 x0 x1 (1 : Int32) (0 : Int32)

) else (
f_Model_readCistern_b109   h31 x0 x0 x1 (1 : Int32) (3 : Int32)

)
) else none
) else (
f_Model_readCistern_b109   h26 x0 x0 x1 (1 : Int32) (2 : Int32)

)
) else none
) else (
f_Model_readCistern_b109   h21 x0 x0 x1 (1 : Int32) (1 : Int32)

)
) else none
) else (
some ((0 : Int32), h16)

)
) else none) else none) else none) else none
) else (
if hS h x0 = 11 then (
bV (f_Model_setsCistern h x0 x1 x2 (0 : Int32)) fun h36 =>
k15 h36 x0 x1 (x2 + (1 : Int32))
) else none
)

set_option maxRecDepth 20000 in
set_option maxHeartbeats 4000000 in
theorem f_Model_readCistern_b15_ok {l : Launch} {X : Nat × (Nat → Int32)} (hst : l.stackTraces = false) {d : Nat} (hd : 6 ≤ d)   {k15 : Hp → Nat → Int32 → Int32 → Option (Int32 × Hp)} (hk15 : ∀ (h : Hp) (x0 : Nat) (x1 : Int32) (x2 : Int32)  (r : Int32 × Hp), k15 h x0 x1 x2 = some r → Rn l X mX11_readCistern d 15 [(0, .ref x0), (1, .int x1), (2, .int x2)] [] h (eI r) r.2) {h : Hp} {x0 : Nat} {x1 : Int32} {x2 : Int32}  {r : Int32 × Hp} (E : f_Model_readCistern_b15  k15 h x0 x1 x2 = some r) : Rn l X mX11_readCistern d 15 [(0, .ref x0), (1, .int x1), (2, .int x2)] [] h (eI r) r.2 := by
  unfold f_Model_readCistern_b15 at E
  refine Rn.iload_n (pc' := 16) dX11_readCistern_15 rfl 2 rfl rfl ?_
  refine Rn.bipush (pc' := 18) (v := (35 : Int32)) (hv := by decide) dX11_readCistern_16 rfl ?_
  refine Rn.icmp_ge (pc' := 21) (tgt := 34) dX11_readCistern_18 (by decide) rfl (fun c1 => ?_) (fun c1 => ?_)
  · replace E := (if_of E).1 c1
    refine Rn.aload_n (pc' := 35) dX11_readCistern_34 rfl 0 rfl rfl ?_
    refine Rn.iload_n (pc' := 36) dX11_readCistern_35 rfl 1 rfl rfl ?_
    refine Rn.iconst (pc' := 37) (v := (4 : Int32)) (hv := by decide) dX11_readCistern_36 rfl ?_
    refine Rn.iconst (pc' := 38) (v := (-1 : Int32)) (hv := by decide) dX11_readCistern_37 rfl ?_
    obtain ⟨g2, E⟩ := gd_of E
    obtain ⟨h4, e5, E⟩ := bV_of E
    refine Rn.callV1 (pc' := 41) (As := [.int x1, .int (4 : Int32), .int (-1 : Int32)]) (rest := []) (f_Model_setsCistern_ok hst e5) (Nat.le_trans (by decide) hd) rfl kb_X11_124 ki_X11_setsCistern rfl g2 rfl rfl (Nat.le_of_ble_eq_true rfl) dX11_readCistern_38 rfl rfl ?_
    refine Rn.aload_n (pc' := 42) dX11_readCistern_41 rfl 0 rfl rfl ?_
    refine Rn.iload_n (pc' := 43) dX11_readCistern_42 rfl 1 rfl rfl ?_
    refine Rn.iconst (pc' := 44) (v := (0 : Int32)) (hv := by decide) dX11_readCistern_43 rfl ?_
    refine Rn.aload_n (pc' := 45) dX11_readCistern_44 rfl 0 rfl rfl ?_
    refine Rn.iconst (pc' := 46) (v := (1 : Int32)) (hv := by decide) dX11_readCistern_45 rfl ?_
    refine Rn.sipush (pc' := 49) (v := (999 : Int32)) (hv := by decide) dX11_readCistern_46 rfl ?_
    obtain ⟨g6, E⟩ := gd_of E
    obtain ⟨v7, h8, e9, E⟩ := bI_of E
    refine Rn.callV1 (pc' := 52) (As := [.int (1 : Int32), .int (999 : Int32)]) (rest := [.int (0 : Int32), .int x1, .ref x0]) (f_Model_number_ok hst e9) (Nat.le_trans (by decide) hd) rfl kb_X11_121 ki_X11_number rfl g6 rfl rfl (Nat.le_of_ble_eq_true rfl) dX11_readCistern_49 rfl rfl ?_
    obtain ⟨g10, E⟩ := gd_of E
    obtain ⟨h12, e13, E⟩ := bV_of E
    refine Rn.callV1 (pc' := 55) (As := [.int x1, .int (0 : Int32), .int v7]) (rest := []) (f_Model_setsCistern_ok hst e13) (Nat.le_trans (by decide) hd) rfl kb_X11_124 ki_X11_setsCistern rfl g10 rfl rfl (Nat.le_of_ble_eq_true rfl) dX11_readCistern_52 rfl rfl ?_
    refine Rn.aload_n (pc' := 56) dX11_readCistern_55 rfl 0 rfl rfl ?_
    refine Rn.iload_n (pc' := 57) dX11_readCistern_56 rfl 1 rfl rfl ?_
    refine Rn.iconst (pc' := 58) (v := (0 : Int32)) (hv := by decide) dX11_readCistern_57 rfl ?_
    obtain ⟨g14, E⟩ := gd_of E
    obtain ⟨v15, h16, e17, E⟩ := bI_of E
    refine Rn.callV1 (pc' := 61) (As := [.int x1, .int (0 : Int32)]) (rest := []) (f_Model_ofCistern_ok hst e17) (Nat.le_trans (by decide) hd) rfl kb_X11_69 ki_X11_ofCistern rfl g14 rfl rfl (Nat.le_of_ble_eq_true rfl) dX11_readCistern_58 rfl rfl ?_
    refine Rn.if_ge (pc' := 64) (tgt := 66) dX11_readCistern_61 (by decide) rfl (fun c18 => ?_) (fun c18 => ?_)
    · replace E := (if_of E).1 c18
      refine Rn.aload_n (pc' := 67) dX11_readCistern_66 rfl 0 rfl rfl ?_
      refine Rn.iload_n (pc' := 68) dX11_readCistern_67 rfl 1 rfl rfl ?_
      refine Rn.iconst (pc' := 69) (v := (1 : Int32)) (hv := by decide) dX11_readCistern_68 rfl ?_
      refine Rn.aload_n (pc' := 70) dX11_readCistern_69 rfl 0 rfl rfl ?_
      refine Rn.ldcS (pc' := 72) (i := 23) rfl dX11_readCistern_70 rfl ?_
      obtain ⟨g19, E⟩ := gd_of E
      obtain ⟨v20, h21, e22, E⟩ := bI_of E
      refine Rn.callV1 (pc' := 75) (As := [.ref (STR + 23)]) (rest := [.int (1 : Int32), .int x1, .ref x0]) (f_Model_passes_ok hst e22) (Nat.le_trans (by decide) hd) rfl kb_X11_129 ki_X11_passes rfl g19 rfl rfl (Nat.le_of_ble_eq_true rfl) dX11_readCistern_72 rfl rfl ?_
      refine Rn.if_eq (pc' := 78) (tgt := 82) dX11_readCistern_75 (by decide) rfl (fun c23 => ?_) (fun c23 => ?_)
      · replace E := (if_of E).1 c23
        refine Rn.aload_n (pc' := 83) dX11_readCistern_82 rfl 0 rfl rfl ?_
        refine Rn.ldcS (pc' := 85) (i := 24) rfl dX11_readCistern_83 rfl ?_
        obtain ⟨g24, E⟩ := gd_of E
        obtain ⟨v25, h26, e27, E⟩ := bI_of E
        refine Rn.callV1 (pc' := 88) (As := [.ref (STR + 24)]) (rest := [.int (1 : Int32), .int x1, .ref x0]) (f_Model_passes_ok hst e27) (Nat.le_trans (by decide) hd) rfl kb_X11_129 ki_X11_passes rfl g24 rfl rfl (Nat.le_of_ble_eq_true rfl) dX11_readCistern_85 rfl rfl ?_
        refine Rn.if_eq (pc' := 91) (tgt := 95) dX11_readCistern_88 (by decide) rfl (fun c28 => ?_) (fun c28 => ?_)
        · replace E := (if_of E).1 c28
          refine Rn.aload_n (pc' := 96) dX11_readCistern_95 rfl 0 rfl rfl ?_
          refine Rn.ldcS (pc' := 98) (i := 25) rfl dX11_readCistern_96 rfl ?_
          obtain ⟨g29, E⟩ := gd_of E
          obtain ⟨v30, h31, e32, E⟩ := bI_of E
          refine Rn.callV1 (pc' := 101) (As := [.ref (STR + 25)]) (rest := [.int (1 : Int32), .int x1, .ref x0]) (f_Model_passes_ok hst e32) (Nat.le_trans (by decide) hd) rfl kb_X11_129 ki_X11_passes rfl g29 rfl rfl (Nat.le_of_ble_eq_true rfl) dX11_readCistern_98 rfl rfl ?_
          refine Rn.if_eq (pc' := 104) (tgt := 108) dX11_readCistern_101 (by decide) rfl (fun c33 => ?_) (fun c33 => ?_)
          · replace E := (if_of E).1 c33
            refine Rn.iconst (pc' := 109) (v := (0 : Int32)) (hv := by decide) dX11_readCistern_108 rfl ?_
            refine Rn.sub [0] rfl ?_
            exact f_Model_readCistern_b109_ok hst hd   E
          · replace E := (if_of E).2 c33
            refine Rn.iconst (pc' := 105) (v := (3 : Int32)) (hv := by decide) dX11_readCistern_104 rfl ?_
            refine Rn.goto (pc' := 109) dX11_readCistern_105 (by decide) ?_
            refine Rn.sub [0] rfl ?_
            exact f_Model_readCistern_b109_ok hst hd   E
        · replace E := (if_of E).2 c28
          refine Rn.iconst (pc' := 92) (v := (2 : Int32)) (hv := by decide) dX11_readCistern_91 rfl ?_
          refine Rn.goto (pc' := 109) dX11_readCistern_92 (by decide) ?_
          refine Rn.sub [0] rfl ?_
          exact f_Model_readCistern_b109_ok hst hd   E
      · replace E := (if_of E).2 c23
        refine Rn.iconst (pc' := 79) (v := (1 : Int32)) (hv := by decide) dX11_readCistern_78 rfl ?_
        refine Rn.goto (pc' := 109) dX11_readCistern_79 (by decide) ?_
        refine Rn.sub [0] rfl ?_
        exact f_Model_readCistern_b109_ok hst hd   E
    · replace E := (if_of E).2 c18
      refine Rn.iconst (pc' := 65) (v := (0 : Int32)) (hv := by decide) dX11_readCistern_64 rfl ?_
      cases E
      exact Rn.zret rfl rfl dX11_readCistern_65
  · replace E := (if_of E).2 c1
    refine Rn.aload_n (pc' := 22) dX11_readCistern_21 rfl 0 rfl rfl ?_
    refine Rn.iload_n (pc' := 23) dX11_readCistern_22 rfl 1 rfl rfl ?_
    refine Rn.iload_n (pc' := 24) dX11_readCistern_23 rfl 2 rfl rfl ?_
    refine Rn.iconst (pc' := 25) (v := (0 : Int32)) (hv := by decide) dX11_readCistern_24 rfl ?_
    obtain ⟨g34, E⟩ := gd_of E
    obtain ⟨h36, e37, E⟩ := bV_of E
    refine Rn.callV1 (pc' := 28) (As := [.int x1, .int x2, .int (0 : Int32)]) (rest := []) (f_Model_setsCistern_ok hst e37) (Nat.le_trans (by decide) hd) rfl kb_X11_124 ki_X11_setsCistern rfl g34 rfl rfl (Nat.le_of_ble_eq_true rfl) dX11_readCistern_25 rfl rfl ?_
    refine Rn.iinc (pc' := 31) (v := (x2 + (1 : Int32))) (L' := [(2, .int (x2 + (1 : Int32))), (0, .ref x0), (1, .int x1)]) dX11_readCistern_28 2 rfl rfl (by decide) rfl rfl ?_
    refine Rn.goto (pc' := 15) dX11_readCistern_31 (by decide) ?_
    refine Rn.sub [1, 2, 0] rfl ?_
    exact hk15 _ _ _ _ _ E
def f_Model_readCistern_L15   (n : Nat) : Hp → Nat → Int32 → Int32 → Option (Int32 × Hp) := Nat.rec (motive := fun _ => Hp → Nat → Int32 → Int32 → Option (Int32 × Hp)) (fun _ _ _ _ => none) (fun _ rec => f_Model_readCistern_b15   rec) n
theorem f_Model_readCistern_L15_ok {l : Launch} {X : Nat × (Nat → Int32)} (hst : l.stackTraces = false) {d : Nat} (hd : 6 ≤ d)     : ∀ (n : Nat) (h : Hp) (x0 : Nat) (x1 : Int32) (x2 : Int32)  (r : Int32 × Hp), f_Model_readCistern_L15   n h x0 x1 x2 = some r → Rn l X mX11_readCistern d 15 [(0, .ref x0), (1, .int x1), (2, .int x2)] [] h (eI r) r.2 := by
  intro n
  induction n with
  | zero => intro h x0 x1 x2 r E; cases E
  | succ n ih => intro h x0 x1 x2 r E; exact f_Model_readCistern_b15_ok hst hd   ih E
def f_Model_readCistern_b0   (h : Hp) (x0 : Nat)  : Option (Int32 × Hp) :=
if hS h x0 = 11 then (
bI (f_Model_cisterns h x0) fun v2 h3 =>
if v2 = (8 : Int32) then (
some ((0 : Int32), h3)

) else (
f_Model_readCistern_L15   FU h3 x0 v2 (0 : Int32)

)
) else none
set_option maxRecDepth 20000 in
set_option maxHeartbeats 4000000 in
theorem f_Model_readCistern_b0_ok {l : Launch} {X : Nat × (Nat → Int32)} (hst : l.stackTraces = false) {d : Nat} (hd : 6 ≤ d)     {h : Hp} {x0 : Nat}  {r : Int32 × Hp} (E : f_Model_readCistern_b0   h x0 = some r) : Rn l X mX11_readCistern d 0 [(0, .ref x0)] [] h (eI r) r.2 := by
  unfold f_Model_readCistern_b0 at E
  refine Rn.aload_n (pc' := 1) dX11_readCistern_0 rfl 0 rfl rfl ?_
  obtain ⟨g1, E⟩ := gd_of E
  obtain ⟨v2, h3, e4, E⟩ := bI_of E
  refine Rn.callV1 (pc' := 4) (As := []) (rest := []) (f_Model_cisterns_ok hst e4) (Nat.le_trans (by decide) hd) rfl kb_X11_52 ki_X11_cisterns rfl g1 rfl rfl (Nat.le_of_ble_eq_true rfl) dX11_readCistern_1 rfl rfl ?_
  refine Rn.istore_n (pc' := 5) (L' := [(1, .int v2), (0, .ref x0)]) dX11_readCistern_4 rfl (by decide) rfl rfl ?_
  refine Rn.iload_n (pc' := 6) dX11_readCistern_5 rfl 0 rfl rfl ?_
  refine Rn.bipush (pc' := 8) (v := (8 : Int32)) (hv := by decide) dX11_readCistern_6 rfl ?_
  refine Rn.icmp_ne (pc' := 11) (tgt := 13) dX11_readCistern_8 (by decide) rfl (fun c5 => ?_) (fun c5 => ?_)
  · replace E := (if_of E).2 c5
    refine Rn.iconst (pc' := 14) (v := (0 : Int32)) (hv := by decide) dX11_readCistern_13 rfl ?_
    refine Rn.istore_n (pc' := 15) (L' := [(2, .int (0 : Int32)), (1, .int v2), (0, .ref x0)]) dX11_readCistern_14 rfl (by decide) rfl rfl ?_
    refine Rn.sub [2, 1, 0] rfl ?_
    exact f_Model_readCistern_L15_ok hst hd   FU _ _ _ _ _ E
  · replace E := (if_of E).1 c5
    refine Rn.iconst (pc' := 12) (v := (0 : Int32)) (hv := by decide) dX11_readCistern_11 rfl ?_
    cases E
    exact Rn.zret rfl rfl dX11_readCistern_12
def f_Model_readCistern (h : Hp) (x0 : Nat) : Option (Int32 × Hp) := f_Model_readCistern_b0  h x0
theorem f_Model_readCistern_ok {l : Launch} {X : Nat × (Nat → Int32)} (hst : l.stackTraces = false) {h : Hp} {x0 : Nat} {r : Int32 × Hp} (E : f_Model_readCistern h x0 = some r) : MC l X yX11_readCistern mX11_readCistern 6 [.ref x0] h (eI r) r.2 :=
  MC.body (by decide +kernel) rfl (by decide) hst (Nat.le_of_ble_eq_true rfl) (f_Model_readCistern_b0_ok hst (Nat.le_refl _) E)
abbrev mX11_needs : MI := (RX11, cX11_needs, 2, (some Jvm.ClassFile.FieldType.boolean), [], false)
theorem ws_X11_needs : ∀ w ∈ wsM yX11_needs mX11_needs, w ∈ gw := List.forall_mem_cons.mpr ⟨gw_at 1582 (by decide +kernel) (by decide +kernel), fun _ h => h⟩
def f_Model_needs_b0   (h : Hp) (x0 : Nat) (x1 : Nat)  : Option (Int32 × Hp) :=
if hS h x0 = 11 then (
bV (f_Model_letters h x0) fun h3 =>
if hS h3 x0 = 11 then (
bI (f_Model_isWord h3 x0 x1) fun v6 h7 =>
if v6 = 0 ∨ v6 = 1 then (
some (v6, h7)
) else none) else none) else none
set_option maxRecDepth 20000 in
set_option maxHeartbeats 4000000 in
theorem f_Model_needs_b0_ok {l : Launch} {X : Nat × (Nat → Int32)} (hst : l.stackTraces = false) {d : Nat} (hd : 5 ≤ d)     {h : Hp} {x0 : Nat} {x1 : Nat}  {r : Int32 × Hp} (E : f_Model_needs_b0   h x0 x1 = some r) : Rn l X mX11_needs d 0 [(0, .ref x0), (1, .ref x1)] [] h (eI r) r.2 := by
  unfold f_Model_needs_b0 at E
  refine Rn.aload_n (pc' := 1) dX11_needs_0 rfl 0 rfl rfl ?_
  obtain ⟨g1, E⟩ := gd_of E
  obtain ⟨h3, e4, E⟩ := bV_of E
  refine Rn.callV1 (pc' := 4) (As := []) (rest := []) (f_Model_letters_ok hst e4) (Nat.le_trans (by decide) hd) rfl kb_X11_114 ki_X11_letters rfl g1 rfl rfl (Nat.le_of_ble_eq_true rfl) dX11_needs_1 rfl rfl ?_
  refine Rn.aload_n (pc' := 5) dX11_needs_4 rfl 0 rfl rfl ?_
  refine Rn.aload_n (pc' := 6) dX11_needs_5 rfl 1 rfl rfl ?_
  obtain ⟨g5, E⟩ := gd_of E
  obtain ⟨v6, h7, e8, E⟩ := bI_of E
  refine Rn.callV1 (pc' := 9) (As := [.ref x1]) (rest := []) (f_Model_isWord_ok hst e8) (Nat.le_trans (by decide) hd) rfl kb_X11_117 ki_X11_isWord rfl g5 rfl rfl (Nat.le_of_ble_eq_true rfl) dX11_needs_6 rfl rfl ?_
  obtain ⟨g9, E⟩ := gd_of E
  cases E
  exact Rn.zret rfl (nar_b g9) dX11_needs_9
def f_Model_needs (h : Hp) (x0 : Nat) (x1 : Nat) : Option (Int32 × Hp) := f_Model_needs_b0  h x0 x1
theorem f_Model_needs_ok {l : Launch} {X : Nat × (Nat → Int32)} (hst : l.stackTraces = false) {h : Hp} {x0 : Nat} {x1 : Nat} {r : Int32 × Hp} (E : f_Model_needs h x0 x1 = some r) : MC l X yX11_needs mX11_needs 5 [.ref x0, .ref x1] h (eI r) r.2 :=
  MC.body (by decide +kernel) rfl (by decide) hst (Nat.le_of_ble_eq_true rfl) (f_Model_needs_b0_ok hst (Nat.le_refl _) E)
abbrev mX11_cisternTold : MI := (RX11, cX11_cisternTold, 1, (some Jvm.ClassFile.FieldType.int), [], false)
theorem ws_X11_cisternTold : ∀ w ∈ wsM yX11_cisternTold mX11_cisternTold, w ∈ gw := List.forall_mem_cons.mpr ⟨gw_at 1587 (by decide +kernel) (by decide +kernel), fun _ h => h⟩
def f_Model_cisternTold_b0   (h : Hp) (x0 : Nat)  : Option (Int32 × Hp) :=
if hS h x0 = 11 then (
bI (f_Model_cisterns h x0) fun v2 h3 =>
if hS h3 x0 = 11 then (
bI (f_Model_number h3 x0 (0 : Int32) (v2 - (1 : Int32))) fun v6 h7 =>
some (v6, h7)
) else none) else none
set_option maxRecDepth 20000 in
set_option maxHeartbeats 4000000 in
theorem f_Model_cisternTold_b0_ok {l : Launch} {X : Nat × (Nat → Int32)} (hst : l.stackTraces = false) {d : Nat} (hd : 3 ≤ d)     {h : Hp} {x0 : Nat}  {r : Int32 × Hp} (E : f_Model_cisternTold_b0   h x0 = some r) : Rn l X mX11_cisternTold d 0 [(0, .ref x0)] [] h (eI r) r.2 := by
  unfold f_Model_cisternTold_b0 at E
  refine Rn.aload_n (pc' := 1) dX11_cisternTold_0 rfl 0 rfl rfl ?_
  refine Rn.iconst (pc' := 2) (v := (0 : Int32)) (hv := by decide) dX11_cisternTold_1 rfl ?_
  refine Rn.aload_n (pc' := 3) dX11_cisternTold_2 rfl 0 rfl rfl ?_
  obtain ⟨g1, E⟩ := gd_of E
  obtain ⟨v2, h3, e4, E⟩ := bI_of E
  refine Rn.callV1 (pc' := 6) (As := []) (rest := [.int (0 : Int32), .ref x0]) (f_Model_cisterns_ok hst e4) (Nat.le_trans (by decide) hd) rfl kb_X11_52 ki_X11_cisterns rfl g1 rfl rfl (Nat.le_of_ble_eq_true rfl) dX11_cisternTold_3 rfl rfl ?_
  refine Rn.iconst (pc' := 7) (v := (1 : Int32)) (hv := by decide) dX11_cisternTold_6 rfl ?_
  refine Rn.isub (pc' := 8) dX11_cisternTold_7 rfl ?_
  obtain ⟨g5, E⟩ := gd_of E
  obtain ⟨v6, h7, e8, E⟩ := bI_of E
  refine Rn.callV1 (pc' := 11) (As := [.int (0 : Int32), .int (v2 - (1 : Int32))]) (rest := []) (f_Model_number_ok hst e8) (Nat.le_trans (by decide) hd) rfl kb_X11_121 ki_X11_number rfl g5 rfl rfl (Nat.le_of_ble_eq_true rfl) dX11_cisternTold_8 rfl rfl ?_
  cases E
  exact Rn.zret rfl rfl dX11_cisternTold_11
def f_Model_cisternTold (h : Hp) (x0 : Nat) : Option (Int32 × Hp) := f_Model_cisternTold_b0  h x0
theorem f_Model_cisternTold_ok {l : Launch} {X : Nat × (Nat → Int32)} (hst : l.stackTraces = false) {h : Hp} {x0 : Nat} {r : Int32 × Hp} (E : f_Model_cisternTold h x0 = some r) : MC l X yX11_cisternTold mX11_cisternTold 3 [.ref x0] h (eI r) r.2 :=
  MC.body (by decide +kernel) rfl (by decide) hst (Nat.le_of_ble_eq_true rfl) (f_Model_cisternTold_b0_ok hst (Nat.le_refl _) E)
abbrev mX11_readPour : MI := (RX11, cX11_readPour, 4, (some Jvm.ClassFile.FieldType.boolean), [], false)
theorem ws_X11_readPour : ∀ w ∈ wsM yX11_readPour mX11_readPour, w ∈ gw := List.forall_mem_cons.mpr ⟨gw_at 1577 (by decide +kernel) (by decide +kernel), fun _ h => h⟩
def f_Model_readPour_b63   (h : Hp) (x3 : Int32)  : Option (Int32 × Hp) :=
if x3 < 0 then (
some ((0 : Int32), h)

) else (
some ((1 : Int32), h)

)

set_option maxRecDepth 20000 in
set_option maxHeartbeats 4000000 in
theorem f_Model_readPour_b63_ok {l : Launch} {X : Nat × (Nat → Int32)} (hst : l.stackTraces = false) {d : Nat} (hd : 6 ≤ d)     {h : Hp} {x3 : Int32}  {r : Int32 × Hp} (E : f_Model_readPour_b63   h x3 = some r) : Rn l X mX11_readPour d 63 [(3, .int x3)] [] h (eI r) r.2 := by
  unfold f_Model_readPour_b63 at E
  refine Rn.iload_n (pc' := 64) dX11_readPour_63 rfl 0 rfl rfl ?_
  refine Rn.if_lt (pc' := 67) (tgt := 71) dX11_readPour_64 (by decide) rfl (fun c1 => ?_) (fun c1 => ?_)
  · replace E := (if_of E).1 c1
    refine Rn.iconst (pc' := 72) (v := (0 : Int32)) (hv := by decide) dX11_readPour_71 rfl ?_
    cases E
    exact Rn.zret rfl rfl dX11_readPour_72
  · replace E := (if_of E).2 c1
    refine Rn.iconst (pc' := 68) (v := (1 : Int32)) (hv := by decide) dX11_readPour_67 rfl ?_
    refine Rn.goto (pc' := 72) dX11_readPour_68 (by decide) ?_
    cases E
    exact Rn.zret rfl rfl dX11_readPour_72
theorem kb_X11_138 : KB RX11 138 yX11_needs mX11_needs 1 := ⟨gw_at 1579 (by decide +kernel) (by decide +kernel), gw_at 117 (by decide +kernel) (by decide +kernel), trivial, ws_X11_needs, by decide +kernel, by decide +kernel, by decide +kernel, by decide⟩
theorem ki_X11_needs : Cond.instanceMethod yX11_needs ∈ gw ∧ Cond.selects yX11_needs.cls yX11_needs yX11_needs ∈ gw := ⟨gw_at 1581 (by decide +kernel) (by decide +kernel), gw_at 55 (by decide +kernel) (by decide +kernel)⟩
theorem kb_X11_142 : KB RX11 142 yX11_cisternTold mX11_cisternTold 0 := ⟨gw_at 1584 (by decide +kernel) (by decide +kernel), gw_at 117 (by decide +kernel) (by decide +kernel), trivial, ws_X11_cisternTold, by decide +kernel, by decide +kernel, by decide +kernel, by decide⟩
theorem ki_X11_cisternTold : Cond.instanceMethod yX11_cisternTold ∈ gw ∧ Cond.selects yX11_cisternTold.cls yX11_cisternTold yX11_cisternTold ∈ gw := ⟨gw_at 1586 (by decide +kernel) (by decide +kernel), gw_at 56 (by decide +kernel) (by decide +kernel)⟩
def f_Model_readPour_b0   (h : Hp) (x0 : Nat)  : Option (Int32 × Hp) :=
if hS h x0 = 11 then (
bI (f_Model_number h x0 (0 : Int32) (999 : Int32)) fun v2 h3 =>
if v2 < 0 then (
some ((0 : Int32), h3)

) else (
if hS h3 x0 = 11 then (
bI (f_Model_needs h3 x0 (STR + 27)) fun v7 h8 =>
if v7 = 0 then (
some ((0 : Int32), h8)

) else (
if hS h8 x0 = 11 then (
bI (f_Model_number h8 x0 (0 : Int32) (29 : Int32)) fun v12 h13 =>
if v12 < 0 then (
some ((0 : Int32), h13)

) else (
if hS h13 x0 = 11 then (
bI (f_Model_needs h13 x0 (STR + 28)) fun v17 h18 =>
if v17 = 0 then (
some ((0 : Int32), h18)

) else (
if hS h18 x0 = 11 then (
bI (f_Model_cisternTold h18 x0) fun v22 h23 =>
if v22 < 0 then (
f_Model_readPour_b63   h23 v22

) else (
if hS h23 x0 = 11 then (
bV (f_Model_pours h23 x0 v22 v12 v2) fun h28 =>
f_Model_readPour_b63   h28 v22
) else none
)
) else none
)
) else none
)
) else none
)
) else none
)
) else none
set_option maxRecDepth 20000 in
set_option maxHeartbeats 4000000 in
theorem f_Model_readPour_b0_ok {l : Launch} {X : Nat × (Nat → Int32)} (hst : l.stackTraces = false) {d : Nat} (hd : 6 ≤ d)     {h : Hp} {x0 : Nat}  {r : Int32 × Hp} (E : f_Model_readPour_b0   h x0 = some r) : Rn l X mX11_readPour d 0 [(0, .ref x0)] [] h (eI r) r.2 := by
  unfold f_Model_readPour_b0 at E
  refine Rn.aload_n (pc' := 1) dX11_readPour_0 rfl 0 rfl rfl ?_
  refine Rn.iconst (pc' := 2) (v := (0 : Int32)) (hv := by decide) dX11_readPour_1 rfl ?_
  refine Rn.sipush (pc' := 5) (v := (999 : Int32)) (hv := by decide) dX11_readPour_2 rfl ?_
  obtain ⟨g1, E⟩ := gd_of E
  obtain ⟨v2, h3, e4, E⟩ := bI_of E
  refine Rn.callV1 (pc' := 8) (As := [.int (0 : Int32), .int (999 : Int32)]) (rest := []) (f_Model_number_ok hst e4) (Nat.le_trans (by decide) hd) rfl kb_X11_121 ki_X11_number rfl g1 rfl rfl (Nat.le_of_ble_eq_true rfl) dX11_readPour_5 rfl rfl ?_
  refine Rn.istore_n (pc' := 9) (L' := [(1, .int v2), (0, .ref x0)]) dX11_readPour_8 rfl (by decide) rfl rfl ?_
  refine Rn.iload_n (pc' := 10) dX11_readPour_9 rfl 0 rfl rfl ?_
  refine Rn.if_lt (pc' := 13) (tgt := 22) dX11_readPour_10 (by decide) rfl (fun c5 => ?_) (fun c5 => ?_)
  · replace E := (if_of E).1 c5
    refine Rn.iconst (pc' := 23) (v := (0 : Int32)) (hv := by decide) dX11_readPour_22 rfl ?_
    cases E
    exact Rn.zret rfl rfl dX11_readPour_23
  · replace E := (if_of E).2 c5
    refine Rn.aload_n (pc' := 14) dX11_readPour_13 rfl 1 rfl rfl ?_
    refine Rn.ldcS (pc' := 16) (i := 27) rfl dX11_readPour_14 rfl ?_
    obtain ⟨g6, E⟩ := gd_of E
    obtain ⟨v7, h8, e9, E⟩ := bI_of E
    refine Rn.callV1 (pc' := 19) (As := [.ref (STR + 27)]) (rest := []) (f_Model_needs_ok hst e9) (Nat.le_trans (by decide) hd) rfl kb_X11_138 ki_X11_needs rfl g6 rfl rfl (Nat.le_of_ble_eq_true rfl) dX11_readPour_16 rfl rfl ?_
    refine Rn.if_ne (pc' := 22) (tgt := 24) dX11_readPour_19 (by decide) rfl (fun c10 => ?_) (fun c10 => ?_)
    · replace E := (if_of E).2 c10
      refine Rn.aload_n (pc' := 25) dX11_readPour_24 rfl 1 rfl rfl ?_
      refine Rn.iconst (pc' := 26) (v := (0 : Int32)) (hv := by decide) dX11_readPour_25 rfl ?_
      refine Rn.bipush (pc' := 28) (v := (29 : Int32)) (hv := by decide) dX11_readPour_26 rfl ?_
      obtain ⟨g11, E⟩ := gd_of E
      obtain ⟨v12, h13, e14, E⟩ := bI_of E
      refine Rn.callV1 (pc' := 31) (As := [.int (0 : Int32), .int (29 : Int32)]) (rest := []) (f_Model_number_ok hst e14) (Nat.le_trans (by decide) hd) rfl kb_X11_121 ki_X11_number rfl g11 rfl rfl (Nat.le_of_ble_eq_true rfl) dX11_readPour_28 rfl rfl ?_
      refine Rn.istore_n (pc' := 32) (L' := [(2, .int v12), (1, .int v2), (0, .ref x0)]) dX11_readPour_31 rfl (by decide) rfl rfl ?_
      refine Rn.iload_n (pc' := 33) dX11_readPour_32 rfl 0 rfl rfl ?_
      refine Rn.if_lt (pc' := 36) (tgt := 45) dX11_readPour_33 (by decide) rfl (fun c15 => ?_) (fun c15 => ?_)
      · replace E := (if_of E).1 c15
        refine Rn.iconst (pc' := 46) (v := (0 : Int32)) (hv := by decide) dX11_readPour_45 rfl ?_
        cases E
        exact Rn.zret rfl rfl dX11_readPour_46
      · replace E := (if_of E).2 c15
        refine Rn.aload_n (pc' := 37) dX11_readPour_36 rfl 2 rfl rfl ?_
        refine Rn.ldcS (pc' := 39) (i := 28) rfl dX11_readPour_37 rfl ?_
        obtain ⟨g16, E⟩ := gd_of E
        obtain ⟨v17, h18, e19, E⟩ := bI_of E
        refine Rn.callV1 (pc' := 42) (As := [.ref (STR + 28)]) (rest := []) (f_Model_needs_ok hst e19) (Nat.le_trans (by decide) hd) rfl kb_X11_138 ki_X11_needs rfl g16 rfl rfl (Nat.le_of_ble_eq_true rfl) dX11_readPour_39 rfl rfl ?_
        refine Rn.if_ne (pc' := 45) (tgt := 47) dX11_readPour_42 (by decide) rfl (fun c20 => ?_) (fun c20 => ?_)
        · replace E := (if_of E).2 c20
          refine Rn.aload_n (pc' := 48) dX11_readPour_47 rfl 2 rfl rfl ?_
          obtain ⟨g21, E⟩ := gd_of E
          obtain ⟨v22, h23, e24, E⟩ := bI_of E
          refine Rn.callV1 (pc' := 51) (As := []) (rest := []) (f_Model_cisternTold_ok hst e24) (Nat.le_trans (by decide) hd) rfl kb_X11_142 ki_X11_cisternTold rfl g21 rfl rfl (Nat.le_of_ble_eq_true rfl) dX11_readPour_48 rfl rfl ?_
          refine Rn.istore_n (pc' := 52) (L' := [(3, .int v22), (2, .int v12), (1, .int v2), (0, .ref x0)]) dX11_readPour_51 rfl (by decide) rfl rfl ?_
          refine Rn.iload_n (pc' := 53) dX11_readPour_52 rfl 0 rfl rfl ?_
          refine Rn.if_lt (pc' := 56) (tgt := 63) dX11_readPour_53 (by decide) rfl (fun c25 => ?_) (fun c25 => ?_)
          · replace E := (if_of E).1 c25
            refine Rn.sub [0] rfl ?_
            exact f_Model_readPour_b63_ok hst hd   E
          · replace E := (if_of E).2 c25
            refine Rn.aload_n (pc' := 57) dX11_readPour_56 rfl 3 rfl rfl ?_
            refine Rn.iload_n (pc' := 58) dX11_readPour_57 rfl 0 rfl rfl ?_
            refine Rn.iload_n (pc' := 59) dX11_readPour_58 rfl 1 rfl rfl ?_
            refine Rn.iload_n (pc' := 60) dX11_readPour_59 rfl 2 rfl rfl ?_
            obtain ⟨g26, E⟩ := gd_of E
            obtain ⟨h28, e29, E⟩ := bV_of E
            refine Rn.callV1 (pc' := 63) (As := [.int v22, .int v12, .int v2]) (rest := []) (f_Model_pours_ok hst e29) (Nat.le_trans (by decide) hd) rfl kb_X11_145 ki_X11_pours rfl g26 rfl rfl (Nat.le_of_ble_eq_true rfl) dX11_readPour_60 rfl rfl ?_
            refine Rn.sub [0] rfl ?_
            exact f_Model_readPour_b63_ok hst hd   E
        · replace E := (if_of E).1 c20
          refine Rn.iconst (pc' := 46) (v := (0 : Int32)) (hv := by decide) dX11_readPour_45 rfl ?_
          cases E
          exact Rn.zret rfl rfl dX11_readPour_46
    · replace E := (if_of E).1 c10
      refine Rn.iconst (pc' := 23) (v := (0 : Int32)) (hv := by decide) dX11_readPour_22 rfl ?_
      cases E
      exact Rn.zret rfl rfl dX11_readPour_23
def f_Model_readPour (h : Hp) (x0 : Nat) : Option (Int32 × Hp) := f_Model_readPour_b0  h x0
theorem f_Model_readPour_ok {l : Launch} {X : Nat × (Nat → Int32)} (hst : l.stackTraces = false) {h : Hp} {x0 : Nat} {r : Int32 × Hp} (E : f_Model_readPour h x0 = some r) : MC l X yX11_readPour mX11_readPour 6 [.ref x0] h (eI r) r.2 :=
  MC.body (by decide +kernel) rfl (by decide) hst (Nat.le_of_ble_eq_true rfl) (f_Model_readPour_b0_ok hst (Nat.le_refl _) E)
abbrev mX11_readSalt : MI := (RX11, cX11_readSalt, 3, (some Jvm.ClassFile.FieldType.boolean), [], false)
theorem ws_X11_readSalt : ∀ w ∈ wsM yX11_readSalt mX11_readSalt, w ∈ gw := List.forall_mem_cons.mpr ⟨gw_at 1609 (by decide +kernel) (by decide +kernel), fun _ h => h⟩
def f_Model_readSalt_b38   (h : Hp) (x2 : Int32)  : Option (Int32 × Hp) :=
if x2 < 0 then (
some ((0 : Int32), h)

) else (
some ((1 : Int32), h)

)

set_option maxRecDepth 20000 in
set_option maxHeartbeats 4000000 in
theorem f_Model_readSalt_b38_ok {l : Launch} {X : Nat × (Nat → Int32)} (hst : l.stackTraces = false) {d : Nat} (hd : 3 ≤ d)     {h : Hp} {x2 : Int32}  {r : Int32 × Hp} (E : f_Model_readSalt_b38   h x2 = some r) : Rn l X mX11_readSalt d 38 [(2, .int x2)] [] h (eI r) r.2 := by
  unfold f_Model_readSalt_b38 at E
  refine Rn.iload_n (pc' := 39) dX11_readSalt_38 rfl 0 rfl rfl ?_
  refine Rn.if_lt (pc' := 42) (tgt := 46) dX11_readSalt_39 (by decide) rfl (fun c1 => ?_) (fun c1 => ?_)
  · replace E := (if_of E).1 c1
    refine Rn.iconst (pc' := 47) (v := (0 : Int32)) (hv := by decide) dX11_readSalt_46 rfl ?_
    cases E
    exact Rn.zret rfl rfl dX11_readSalt_47
  · replace E := (if_of E).2 c1
    refine Rn.iconst (pc' := 43) (v := (1 : Int32)) (hv := by decide) dX11_readSalt_42 rfl ?_
    refine Rn.goto (pc' := 47) dX11_readSalt_43 (by decide) ?_
    cases E
    exact Rn.zret rfl rfl dX11_readSalt_47
def f_Model_readSalt_b23   (h : Hp) (x0 : Nat) (x1 : Int32) (s0 : Int32) : Option (Int32 × Hp) :=
if s0 < 0 then (
f_Model_readSalt_b38   h s0

) else (
if hS h x0 = 11 then (
if hS h (hR h x0 1) = 20 then (
if ib ((35 : Int32) + x1) (hL h (hR h x0 1)) = true then (
wr (sI h (hR h x0 1) (ix ((35 : Int32) + x1)) s0) fun h5 =>
f_Model_readSalt_b38   h5 s0
) else none) else none) else none
)

set_option maxRecDepth 20000 in
set_option maxHeartbeats 4000000 in
theorem f_Model_readSalt_b23_ok {l : Launch} {X : Nat × (Nat → Int32)} (hst : l.stackTraces = false) {d : Nat} (hd : 3 ≤ d)     {h : Hp} {x0 : Nat} {x1 : Int32} {s0 : Int32} {r : Int32 × Hp} (E : f_Model_readSalt_b23   h x0 x1 s0 = some r) : Rn l X mX11_readSalt d 23 [(0, .ref x0), (1, .int x1)] [.int s0] h (eI r) r.2 := by
  unfold f_Model_readSalt_b23 at E
  refine Rn.istore_n (pc' := 24) (L' := [(2, .int s0), (0, .ref x0), (1, .int x1)]) dX11_readSalt_23 rfl (by decide) rfl rfl ?_
  refine Rn.iload_n (pc' := 25) dX11_readSalt_24 rfl 0 rfl rfl ?_
  refine Rn.if_lt (pc' := 28) (tgt := 38) dX11_readSalt_25 (by decide) rfl (fun c1 => ?_) (fun c1 => ?_)
  · replace E := (if_of E).1 c1
    refine Rn.sub [0] rfl ?_
    exact f_Model_readSalt_b38_ok hst hd   E
  · replace E := (if_of E).2 c1
    refine Rn.aload_n (pc' := 29) dX11_readSalt_28 rfl 1 rfl rfl ?_
    obtain ⟨g2, E⟩ := gd_of E
    refine Rn.getR (pc' := 32) fl_X11_13_10 g2 rfl dX11_readSalt_29 rfl ?_
    refine Rn.bipush (pc' := 34) (v := (35 : Int32)) (hv := by decide) dX11_readSalt_32 rfl ?_
    refine Rn.iload_n (pc' := 35) dX11_readSalt_34 rfl 2 rfl rfl ?_
    refine Rn.iadd (pc' := 36) dX11_readSalt_35 rfl ?_
    refine Rn.iload_n (pc' := 37) dX11_readSalt_36 rfl 0 rfl rfl ?_
    obtain ⟨g3, E⟩ := gd_of E
    obtain ⟨g4, E⟩ := gd_of E
    refine Rn.iast (pc' := 38) g3 g4 dX11_readSalt_37 rfl ?_
    replace E := wr_of E
    generalize eh6 : sI h (hR h x0 1) (ix ((35 : Int32) + x1)) s0 = h5 at E ⊢
    refine Rn.sub [0] rfl ?_
    exact f_Model_readSalt_b38_ok hst hd   E
def f_Model_readSalt_b0   (h : Hp) (x0 : Nat)  : Option (Int32 × Hp) :=
if hS h x0 = 11 then (
bI (f_Model_number h x0 (0 : Int32) (29 : Int32)) fun v2 h3 =>
if 0 ≤ v2 then (
if hS h3 x0 = 11 then (
bI (f_Model_number h3 x0 (0 : Int32) (99 : Int32)) fun v7 h8 =>
f_Model_readSalt_b23   h8 x0 v2 v7
) else none
) else (
f_Model_readSalt_b23   h3 x0 v2 (-1 : Int32)

)
) else none
set_option maxRecDepth 20000 in
set_option maxHeartbeats 4000000 in
theorem f_Model_readSalt_b0_ok {l : Launch} {X : Nat × (Nat → Int32)} (hst : l.stackTraces = false) {d : Nat} (hd : 3 ≤ d)     {h : Hp} {x0 : Nat}  {r : Int32 × Hp} (E : f_Model_readSalt_b0   h x0 = some r) : Rn l X mX11_readSalt d 0 [(0, .ref x0)] [] h (eI r) r.2 := by
  unfold f_Model_readSalt_b0 at E
  refine Rn.aload_n (pc' := 1) dX11_readSalt_0 rfl 0 rfl rfl ?_
  refine Rn.iconst (pc' := 2) (v := (0 : Int32)) (hv := by decide) dX11_readSalt_1 rfl ?_
  refine Rn.bipush (pc' := 4) (v := (29 : Int32)) (hv := by decide) dX11_readSalt_2 rfl ?_
  obtain ⟨g1, E⟩ := gd_of E
  obtain ⟨v2, h3, e4, E⟩ := bI_of E
  refine Rn.callV1 (pc' := 7) (As := [.int (0 : Int32), .int (29 : Int32)]) (rest := []) (f_Model_number_ok hst e4) (Nat.le_trans (by decide) hd) rfl kb_X11_121 ki_X11_number rfl g1 rfl rfl (Nat.le_of_ble_eq_true rfl) dX11_readSalt_4 rfl rfl ?_
  refine Rn.istore_n (pc' := 8) (L' := [(1, .int v2), (0, .ref x0)]) dX11_readSalt_7 rfl (by decide) rfl rfl ?_
  refine Rn.iload_n (pc' := 9) dX11_readSalt_8 rfl 0 rfl rfl ?_
  refine Rn.if_ge (pc' := 12) (tgt := 16) dX11_readSalt_9 (by decide) rfl (fun c5 => ?_) (fun c5 => ?_)
  · replace E := (if_of E).1 c5
    refine Rn.aload_n (pc' := 17) dX11_readSalt_16 rfl 1 rfl rfl ?_
    refine Rn.iconst (pc' := 18) (v := (0 : Int32)) (hv := by decide) dX11_readSalt_17 rfl ?_
    refine Rn.bipush (pc' := 20) (v := (99 : Int32)) (hv := by decide) dX11_readSalt_18 rfl ?_
    obtain ⟨g6, E⟩ := gd_of E
    obtain ⟨v7, h8, e9, E⟩ := bI_of E
    refine Rn.callV1 (pc' := 23) (As := [.int (0 : Int32), .int (99 : Int32)]) (rest := []) (f_Model_number_ok hst e9) (Nat.le_trans (by decide) hd) rfl kb_X11_121 ki_X11_number rfl g6 rfl rfl (Nat.le_of_ble_eq_true rfl) dX11_readSalt_20 rfl rfl ?_
    refine Rn.sub [1, 0] rfl ?_
    exact f_Model_readSalt_b23_ok hst hd   E
  · replace E := (if_of E).2 c5
    refine Rn.iconst (pc' := 13) (v := (-1 : Int32)) (hv := by decide) dX11_readSalt_12 rfl ?_
    refine Rn.goto (pc' := 23) dX11_readSalt_13 (by decide) ?_
    refine Rn.sub [1, 0] rfl ?_
    exact f_Model_readSalt_b23_ok hst hd   E
def f_Model_readSalt (h : Hp) (x0 : Nat) : Option (Int32 × Hp) := f_Model_readSalt_b0  h x0
theorem f_Model_readSalt_ok {l : Launch} {X : Nat × (Nat → Int32)} (hst : l.stackTraces = false) {h : Hp} {x0 : Nat} {r : Int32 × Hp} (E : f_Model_readSalt h x0 = some r) : MC l X yX11_readSalt mX11_readSalt 3 [.ref x0] h (eI r) r.2 :=
  MC.body (by decide +kernel) rfl (by decide) hst (Nat.le_of_ble_eq_true rfl) (f_Model_readSalt_b0_ok hst (Nat.le_refl _) E)
abbrev mX11_readHouse : MI := (RX11, cX11_readHouse, 3, (some Jvm.ClassFile.FieldType.boolean), [], false)
theorem ws_X11_readHouse : ∀ w ∈ wsM yX11_readHouse mX11_readHouse, w ∈ gw := List.forall_mem_cons.mpr ⟨gw_at 1614 (by decide +kernel) (by decide +kernel), fun _ h => h⟩
def f_Model_readHouse_b112   (h : Hp) (x0 : Nat) (x1 : Int32) (s0 : Nat) (s1 : Int32) (s2 : Int32) (s3 : Int32) : Option (Int32 × Hp) :=
if hS h s0 = 11 then (
bV (f_Model_setsHouse h s0 s1 s2 s3) fun h3 =>
if hS h3 x0 = 11 then (
bI (f_Model_ofHouse h3 x0 x1 (2 : Int32)) fun v6 h7 =>
if 0 ≤ v6 then (
if hS h7 x0 = 11 then (
if hS h7 (hR h7 x0 1) = 20 then (
if ib (1 : Int32) (hL h7 (hR h7 x0 1)) = true then (
if ib (1 : Int32) (hL h7 (hR h7 x0 1)) = true then (
wr (sI h7 (hR h7 x0 1) (ix (1 : Int32)) ((hI h7 (hR h7 x0 1) (ix (1 : Int32))) + (1 : Int32))) fun h14 =>
some ((1 : Int32), h14)
) else none) else none) else none) else none
) else (
some ((0 : Int32), h7)

)
) else none) else none
set_option maxRecDepth 20000 in
set_option maxHeartbeats 4000000 in
theorem f_Model_readHouse_b112_ok {l : Launch} {X : Nat × (Nat → Int32)} (hst : l.stackTraces = false) {d : Nat} (hd : 6 ≤ d)     {h : Hp} {x0 : Nat} {x1 : Int32} {s0 : Nat} {s1 : Int32} {s2 : Int32} {s3 : Int32} {r : Int32 × Hp} (E : f_Model_readHouse_b112   h x0 x1 s0 s1 s2 s3 = some r) : Rn l X mX11_readHouse d 112 [(0, .ref x0), (1, .int x1)] [.int s3, .int s2, .int s1, .ref s0] h (eI r) r.2 := by
  unfold f_Model_readHouse_b112 at E
  obtain ⟨g1, E⟩ := gd_of E
  obtain ⟨h3, e4, E⟩ := bV_of E
  refine Rn.callV1 (pc' := 115) (As := [.int s1, .int s2, .int s3]) (rest := []) (f_Model_setsHouse_ok hst e4) (Nat.le_trans (by decide) hd) rfl kb_X11_148 ki_X11_setsHouse rfl g1 rfl rfl (Nat.le_of_ble_eq_true rfl) dX11_readHouse_112 rfl rfl ?_
  refine Rn.aload_n (pc' := 116) dX11_readHouse_115 rfl 0 rfl rfl ?_
  refine Rn.iload_n (pc' := 117) dX11_readHouse_116 rfl 1 rfl rfl ?_
  refine Rn.iconst (pc' := 118) (v := (2 : Int32)) (hv := by decide) dX11_readHouse_117 rfl ?_
  obtain ⟨g5, E⟩ := gd_of E
  obtain ⟨v6, h7, e8, E⟩ := bI_of E
  refine Rn.callV1 (pc' := 121) (As := [.int x1, .int (2 : Int32)]) (rest := []) (f_Model_ofHouse_ok hst e8) (Nat.le_trans (by decide) hd) rfl kb_X11_151 ki_X11_ofHouse rfl g5 rfl rfl (Nat.le_of_ble_eq_true rfl) dX11_readHouse_118 rfl rfl ?_
  refine Rn.if_ge (pc' := 124) (tgt := 126) dX11_readHouse_121 (by decide) rfl (fun c9 => ?_) (fun c9 => ?_)
  · replace E := (if_of E).1 c9
    refine Rn.aload_n (pc' := 127) dX11_readHouse_126 rfl 0 rfl rfl ?_
    obtain ⟨g10, E⟩ := gd_of E
    refine Rn.getR (pc' := 130) fl_X11_13_10 g10 rfl dX11_readHouse_127 rfl ?_
    refine Rn.iconst (pc' := 131) (v := (1 : Int32)) (hv := by decide) dX11_readHouse_130 rfl ?_
    refine Rn.dup2 (pc' := 132) (hc := rfl) (hd := rfl) dX11_readHouse_131 rfl ?_
    obtain ⟨g11, E⟩ := gd_of E
    obtain ⟨g12, E⟩ := gd_of E
    refine Rn.iald (pc' := 133) g11 g12 dX11_readHouse_132 rfl ?_
    refine Rn.iconst (pc' := 134) (v := (1 : Int32)) (hv := by decide) dX11_readHouse_133 rfl ?_
    refine Rn.iadd (pc' := 135) dX11_readHouse_134 rfl ?_
    obtain ⟨g13, E⟩ := gd_of E
    refine Rn.iast (pc' := 136) g11 g13 dX11_readHouse_135 rfl ?_
    replace E := wr_of E
    generalize eh15 : sI h7 (hR h7 x0 1) (ix (1 : Int32)) ((hI h7 (hR h7 x0 1) (ix (1 : Int32))) + (1 : Int32)) = h14 at E ⊢
    refine Rn.iconst (pc' := 137) (v := (1 : Int32)) (hv := by decide) dX11_readHouse_136 rfl ?_
    cases E
    exact Rn.zret rfl rfl dX11_readHouse_137
  · replace E := (if_of E).2 c9
    refine Rn.iconst (pc' := 125) (v := (0 : Int32)) (hv := by decide) dX11_readHouse_124 rfl ?_
    cases E
    exact Rn.zret rfl rfl dX11_readHouse_125
def f_Model_readHouse_b15  (k15 : Hp → Nat → Int32 → Int32 → Option (Int32 × Hp)) (h : Hp) (x0 : Nat) (x1 : Int32) (x2 : Int32)  : Option (Int32 × Hp) :=
if (34 : Int32) ≤ x2 then (
if hS h x0 = 11 then (
bI (f_Model_number h x0 (0 : Int32) (99 : Int32)) fun v3 h4 =>
if hS h4 x0 = 11 then (
bV (f_Model_setsHouse h4 x0 x1 (0 : Int32) v3) fun h8 =>
if hS h8 x0 = 11 then (
bI (f_Model_ofHouse h8 x0 x1 (0 : Int32)) fun v11 h12 =>
if v11 < 0 then (
some ((0 : Int32), h12)

) else (
if hS h12 x0 = 11 then (
bI (f_Model_needs h12 x0 (STR + 31)) fun v16 h17 =>
if v16 = 0 then (
some ((0 : Int32), h17)

) else (
if hS h17 x0 = 11 then (
bI (f_Model_cisternTold h17 x0) fun v21 h22 =>
if hS h22 x0 = 11 then (
bV (f_Model_setsHouse h22 x0 x1 (1 : Int32) v21) fun h26 =>
if hS h26 x0 = 11 then (
bI (f_Model_ofHouse h26 x0 x1 (1 : Int32)) fun v29 h30 =>
if 0 ≤ v29 then (
if hS h30 x0 = 11 then (
bI (f_Model_passes h30 x0 (STR + 32)) fun v34 h35 =>
if v34 = 0 then (
f_Model_readHouse_b112   h35 x0 x1 x0 x1 (2 : Int32) (99 : Int32)

) else (
if hS h35 x0 = 11 then (
bI (f_Model_number h35 x0 (0 : Int32) (99 : Int32)) fun v39 h40 =>
f_Model_readHouse_b112   h40 x0 x1 x0 x1 (2 : Int32) v39
) else none
)
) else none
) else (
some ((0 : Int32), h30)

)
) else none) else none) else none
)
) else none
)
) else none) else none) else none
) else (
if hS h x0 = 11 then (
bV (f_Model_setsHouse h x0 x1 x2 (0 : Int32)) fun h44 =>
k15 h44 x0 x1 (x2 + (1 : Int32))
) else none
)

set_option maxRecDepth 20000 in
set_option maxHeartbeats 4000000 in
theorem f_Model_readHouse_b15_ok {l : Launch} {X : Nat × (Nat → Int32)} (hst : l.stackTraces = false) {d : Nat} (hd : 6 ≤ d)   {k15 : Hp → Nat → Int32 → Int32 → Option (Int32 × Hp)} (hk15 : ∀ (h : Hp) (x0 : Nat) (x1 : Int32) (x2 : Int32)  (r : Int32 × Hp), k15 h x0 x1 x2 = some r → Rn l X mX11_readHouse d 15 [(0, .ref x0), (1, .int x1), (2, .int x2)] [] h (eI r) r.2) {h : Hp} {x0 : Nat} {x1 : Int32} {x2 : Int32}  {r : Int32 × Hp} (E : f_Model_readHouse_b15  k15 h x0 x1 x2 = some r) : Rn l X mX11_readHouse d 15 [(0, .ref x0), (1, .int x1), (2, .int x2)] [] h (eI r) r.2 := by
  unfold f_Model_readHouse_b15 at E
  refine Rn.iload_n (pc' := 16) dX11_readHouse_15 rfl 2 rfl rfl ?_
  refine Rn.bipush (pc' := 18) (v := (34 : Int32)) (hv := by decide) dX11_readHouse_16 rfl ?_
  refine Rn.icmp_ge (pc' := 21) (tgt := 34) dX11_readHouse_18 (by decide) rfl (fun c1 => ?_) (fun c1 => ?_)
  · replace E := (if_of E).1 c1
    refine Rn.aload_n (pc' := 35) dX11_readHouse_34 rfl 0 rfl rfl ?_
    refine Rn.iload_n (pc' := 36) dX11_readHouse_35 rfl 1 rfl rfl ?_
    refine Rn.iconst (pc' := 37) (v := (0 : Int32)) (hv := by decide) dX11_readHouse_36 rfl ?_
    refine Rn.aload_n (pc' := 38) dX11_readHouse_37 rfl 0 rfl rfl ?_
    refine Rn.iconst (pc' := 39) (v := (0 : Int32)) (hv := by decide) dX11_readHouse_38 rfl ?_
    refine Rn.bipush (pc' := 41) (v := (99 : Int32)) (hv := by decide) dX11_readHouse_39 rfl ?_
    obtain ⟨g2, E⟩ := gd_of E
    obtain ⟨v3, h4, e5, E⟩ := bI_of E
    refine Rn.callV1 (pc' := 44) (As := [.int (0 : Int32), .int (99 : Int32)]) (rest := [.int (0 : Int32), .int x1, .ref x0]) (f_Model_number_ok hst e5) (Nat.le_trans (by decide) hd) rfl kb_X11_121 ki_X11_number rfl g2 rfl rfl (Nat.le_of_ble_eq_true rfl) dX11_readHouse_41 rfl rfl ?_
    obtain ⟨g6, E⟩ := gd_of E
    obtain ⟨h8, e9, E⟩ := bV_of E
    refine Rn.callV1 (pc' := 47) (As := [.int x1, .int (0 : Int32), .int v3]) (rest := []) (f_Model_setsHouse_ok hst e9) (Nat.le_trans (by decide) hd) rfl kb_X11_148 ki_X11_setsHouse rfl g6 rfl rfl (Nat.le_of_ble_eq_true rfl) dX11_readHouse_44 rfl rfl ?_
    refine Rn.aload_n (pc' := 48) dX11_readHouse_47 rfl 0 rfl rfl ?_
    refine Rn.iload_n (pc' := 49) dX11_readHouse_48 rfl 1 rfl rfl ?_
    refine Rn.iconst (pc' := 50) (v := (0 : Int32)) (hv := by decide) dX11_readHouse_49 rfl ?_
    obtain ⟨g10, E⟩ := gd_of E
    obtain ⟨v11, h12, e13, E⟩ := bI_of E
    refine Rn.callV1 (pc' := 53) (As := [.int x1, .int (0 : Int32)]) (rest := []) (f_Model_ofHouse_ok hst e13) (Nat.le_trans (by decide) hd) rfl kb_X11_151 ki_X11_ofHouse rfl g10 rfl rfl (Nat.le_of_ble_eq_true rfl) dX11_readHouse_50 rfl rfl ?_
    refine Rn.if_lt (pc' := 56) (tgt := 65) dX11_readHouse_53 (by decide) rfl (fun c14 => ?_) (fun c14 => ?_)
    · replace E := (if_of E).1 c14
      refine Rn.iconst (pc' := 66) (v := (0 : Int32)) (hv := by decide) dX11_readHouse_65 rfl ?_
      cases E
      exact Rn.zret rfl rfl dX11_readHouse_66
    · replace E := (if_of E).2 c14
      refine Rn.aload_n (pc' := 57) dX11_readHouse_56 rfl 0 rfl rfl ?_
      refine Rn.ldcS (pc' := 59) (i := 31) rfl dX11_readHouse_57 rfl ?_
      obtain ⟨g15, E⟩ := gd_of E
      obtain ⟨v16, h17, e18, E⟩ := bI_of E
      refine Rn.callV1 (pc' := 62) (As := [.ref (STR + 31)]) (rest := []) (f_Model_needs_ok hst e18) (Nat.le_trans (by decide) hd) rfl kb_X11_138 ki_X11_needs rfl g15 rfl rfl (Nat.le_of_ble_eq_true rfl) dX11_readHouse_59 rfl rfl ?_
      refine Rn.if_ne (pc' := 65) (tgt := 67) dX11_readHouse_62 (by decide) rfl (fun c19 => ?_) (fun c19 => ?_)
      · replace E := (if_of E).2 c19
        refine Rn.aload_n (pc' := 68) dX11_readHouse_67 rfl 0 rfl rfl ?_
        refine Rn.iload_n (pc' := 69) dX11_readHouse_68 rfl 1 rfl rfl ?_
        refine Rn.iconst (pc' := 70) (v := (1 : Int32)) (hv := by decide) dX11_readHouse_69 rfl ?_
        refine Rn.aload_n (pc' := 71) dX11_readHouse_70 rfl 0 rfl rfl ?_
        obtain ⟨g20, E⟩ := gd_of E
        obtain ⟨v21, h22, e23, E⟩ := bI_of E
        refine Rn.callV1 (pc' := 74) (As := []) (rest := [.int (1 : Int32), .int x1, .ref x0]) (f_Model_cisternTold_ok hst e23) (Nat.le_trans (by decide) hd) rfl kb_X11_142 ki_X11_cisternTold rfl g20 rfl rfl (Nat.le_of_ble_eq_true rfl) dX11_readHouse_71 rfl rfl ?_
        obtain ⟨g24, E⟩ := gd_of E
        obtain ⟨h26, e27, E⟩ := bV_of E
        refine Rn.callV1 (pc' := 77) (As := [.int x1, .int (1 : Int32), .int v21]) (rest := []) (f_Model_setsHouse_ok hst e27) (Nat.le_trans (by decide) hd) rfl kb_X11_148 ki_X11_setsHouse rfl g24 rfl rfl (Nat.le_of_ble_eq_true rfl) dX11_readHouse_74 rfl rfl ?_
        refine Rn.aload_n (pc' := 78) dX11_readHouse_77 rfl 0 rfl rfl ?_
        refine Rn.iload_n (pc' := 79) dX11_readHouse_78 rfl 1 rfl rfl ?_
        refine Rn.iconst (pc' := 80) (v := (1 : Int32)) (hv := by decide) dX11_readHouse_79 rfl ?_
        obtain ⟨g28, E⟩ := gd_of E
        obtain ⟨v29, h30, e31, E⟩ := bI_of E
        refine Rn.callV1 (pc' := 83) (As := [.int x1, .int (1 : Int32)]) (rest := []) (f_Model_ofHouse_ok hst e31) (Nat.le_trans (by decide) hd) rfl kb_X11_151 ki_X11_ofHouse rfl g28 rfl rfl (Nat.le_of_ble_eq_true rfl) dX11_readHouse_80 rfl rfl ?_
        refine Rn.if_ge (pc' := 86) (tgt := 88) dX11_readHouse_83 (by decide) rfl (fun c32 => ?_) (fun c32 => ?_)
        · replace E := (if_of E).1 c32
          refine Rn.aload_n (pc' := 89) dX11_readHouse_88 rfl 0 rfl rfl ?_
          refine Rn.iload_n (pc' := 90) dX11_readHouse_89 rfl 1 rfl rfl ?_
          refine Rn.iconst (pc' := 91) (v := (2 : Int32)) (hv := by decide) dX11_readHouse_90 rfl ?_
          refine Rn.aload_n (pc' := 92) dX11_readHouse_91 rfl 0 rfl rfl ?_
          refine Rn.ldcS (pc' := 94) (i := 32) rfl dX11_readHouse_92 rfl ?_
          obtain ⟨g33, E⟩ := gd_of E
          obtain ⟨v34, h35, e36, E⟩ := bI_of E
          refine Rn.callV1 (pc' := 97) (As := [.ref (STR + 32)]) (rest := [.int (2 : Int32), .int x1, .ref x0]) (f_Model_passes_ok hst e36) (Nat.le_trans (by decide) hd) rfl kb_X11_129 ki_X11_passes rfl g33 rfl rfl (Nat.le_of_ble_eq_true rfl) dX11_readHouse_94 rfl rfl ?_
          refine Rn.if_eq (pc' := 100) (tgt := 110) dX11_readHouse_97 (by decide) rfl (fun c37 => ?_) (fun c37 => ?_)
          · replace E := (if_of E).1 c37
            refine Rn.bipush (pc' := 112) (v := (99 : Int32)) (hv := by decide) dX11_readHouse_110 rfl ?_
            refine Rn.sub [0, 1] rfl ?_
            exact f_Model_readHouse_b112_ok hst hd   E
          · replace E := (if_of E).2 c37
            refine Rn.aload_n (pc' := 101) dX11_readHouse_100 rfl 0 rfl rfl ?_
            refine Rn.iconst (pc' := 102) (v := (0 : Int32)) (hv := by decide) dX11_readHouse_101 rfl ?_
            refine Rn.bipush (pc' := 104) (v := (99 : Int32)) (hv := by decide) dX11_readHouse_102 rfl ?_
            obtain ⟨g38, E⟩ := gd_of E
            obtain ⟨v39, h40, e41, E⟩ := bI_of E
            refine Rn.callV1 (pc' := 107) (As := [.int (0 : Int32), .int (99 : Int32)]) (rest := [.int (2 : Int32), .int x1, .ref x0]) (f_Model_number_ok hst e41) (Nat.le_trans (by decide) hd) rfl kb_X11_121 ki_X11_number rfl g38 rfl rfl (Nat.le_of_ble_eq_true rfl) dX11_readHouse_104 rfl rfl ?_
            refine Rn.goto (pc' := 112) dX11_readHouse_107 (by decide) ?_
            refine Rn.sub [0, 1] rfl ?_
            exact f_Model_readHouse_b112_ok hst hd   E
        · replace E := (if_of E).2 c32
          refine Rn.iconst (pc' := 87) (v := (0 : Int32)) (hv := by decide) dX11_readHouse_86 rfl ?_
          cases E
          exact Rn.zret rfl rfl dX11_readHouse_87
      · replace E := (if_of E).1 c19
        refine Rn.iconst (pc' := 66) (v := (0 : Int32)) (hv := by decide) dX11_readHouse_65 rfl ?_
        cases E
        exact Rn.zret rfl rfl dX11_readHouse_66
  · replace E := (if_of E).2 c1
    refine Rn.aload_n (pc' := 22) dX11_readHouse_21 rfl 0 rfl rfl ?_
    refine Rn.iload_n (pc' := 23) dX11_readHouse_22 rfl 1 rfl rfl ?_
    refine Rn.iload_n (pc' := 24) dX11_readHouse_23 rfl 2 rfl rfl ?_
    refine Rn.iconst (pc' := 25) (v := (0 : Int32)) (hv := by decide) dX11_readHouse_24 rfl ?_
    obtain ⟨g42, E⟩ := gd_of E
    obtain ⟨h44, e45, E⟩ := bV_of E
    refine Rn.callV1 (pc' := 28) (As := [.int x1, .int x2, .int (0 : Int32)]) (rest := []) (f_Model_setsHouse_ok hst e45) (Nat.le_trans (by decide) hd) rfl kb_X11_148 ki_X11_setsHouse rfl g42 rfl rfl (Nat.le_of_ble_eq_true rfl) dX11_readHouse_25 rfl rfl ?_
    refine Rn.iinc (pc' := 31) (v := (x2 + (1 : Int32))) (L' := [(2, .int (x2 + (1 : Int32))), (0, .ref x0), (1, .int x1)]) dX11_readHouse_28 2 rfl rfl (by decide) rfl rfl ?_
    refine Rn.goto (pc' := 15) dX11_readHouse_31 (by decide) ?_
    refine Rn.sub [1, 2, 0] rfl ?_
    exact hk15 _ _ _ _ _ E
def f_Model_readHouse_L15   (n : Nat) : Hp → Nat → Int32 → Int32 → Option (Int32 × Hp) := Nat.rec (motive := fun _ => Hp → Nat → Int32 → Int32 → Option (Int32 × Hp)) (fun _ _ _ _ => none) (fun _ rec => f_Model_readHouse_b15   rec) n
theorem f_Model_readHouse_L15_ok {l : Launch} {X : Nat × (Nat → Int32)} (hst : l.stackTraces = false) {d : Nat} (hd : 6 ≤ d)     : ∀ (n : Nat) (h : Hp) (x0 : Nat) (x1 : Int32) (x2 : Int32)  (r : Int32 × Hp), f_Model_readHouse_L15   n h x0 x1 x2 = some r → Rn l X mX11_readHouse d 15 [(0, .ref x0), (1, .int x1), (2, .int x2)] [] h (eI r) r.2 := by
  intro n
  induction n with
  | zero => intro h x0 x1 x2 r E; cases E
  | succ n ih => intro h x0 x1 x2 r E; exact f_Model_readHouse_b15_ok hst hd   ih E
def f_Model_readHouse_b0   (h : Hp) (x0 : Nat)  : Option (Int32 × Hp) :=
if hS h x0 = 11 then (
bI (f_Model_houses h x0) fun v2 h3 =>
if v2 = (8 : Int32) then (
some ((0 : Int32), h3)

) else (
f_Model_readHouse_L15   FU h3 x0 v2 (0 : Int32)

)
) else none
set_option maxRecDepth 20000 in
set_option maxHeartbeats 4000000 in
theorem f_Model_readHouse_b0_ok {l : Launch} {X : Nat × (Nat → Int32)} (hst : l.stackTraces = false) {d : Nat} (hd : 6 ≤ d)     {h : Hp} {x0 : Nat}  {r : Int32 × Hp} (E : f_Model_readHouse_b0   h x0 = some r) : Rn l X mX11_readHouse d 0 [(0, .ref x0)] [] h (eI r) r.2 := by
  unfold f_Model_readHouse_b0 at E
  refine Rn.aload_n (pc' := 1) dX11_readHouse_0 rfl 0 rfl rfl ?_
  obtain ⟨g1, E⟩ := gd_of E
  obtain ⟨v2, h3, e4, E⟩ := bI_of E
  refine Rn.callV1 (pc' := 4) (As := []) (rest := []) (f_Model_houses_ok hst e4) (Nat.le_trans (by decide) hd) rfl kb_X11_60 ki_X11_houses rfl g1 rfl rfl (Nat.le_of_ble_eq_true rfl) dX11_readHouse_1 rfl rfl ?_
  refine Rn.istore_n (pc' := 5) (L' := [(1, .int v2), (0, .ref x0)]) dX11_readHouse_4 rfl (by decide) rfl rfl ?_
  refine Rn.iload_n (pc' := 6) dX11_readHouse_5 rfl 0 rfl rfl ?_
  refine Rn.bipush (pc' := 8) (v := (8 : Int32)) (hv := by decide) dX11_readHouse_6 rfl ?_
  refine Rn.icmp_ne (pc' := 11) (tgt := 13) dX11_readHouse_8 (by decide) rfl (fun c5 => ?_) (fun c5 => ?_)
  · replace E := (if_of E).2 c5
    refine Rn.iconst (pc' := 14) (v := (0 : Int32)) (hv := by decide) dX11_readHouse_13 rfl ?_
    refine Rn.istore_n (pc' := 15) (L' := [(2, .int (0 : Int32)), (1, .int v2), (0, .ref x0)]) dX11_readHouse_14 rfl (by decide) rfl rfl ?_
    refine Rn.sub [2, 1, 0] rfl ?_
    exact f_Model_readHouse_L15_ok hst hd   FU _ _ _ _ _ E
  · replace E := (if_of E).1 c5
    refine Rn.iconst (pc' := 12) (v := (0 : Int32)) (hv := by decide) dX11_readHouse_11 rfl ?_
    cases E
    exact Rn.zret rfl rfl dX11_readHouse_12
def f_Model_readHouse (h : Hp) (x0 : Nat) : Option (Int32 × Hp) := f_Model_readHouse_b0  h x0
theorem f_Model_readHouse_ok {l : Launch} {X : Nat × (Nat → Int32)} (hst : l.stackTraces = false) {h : Hp} {x0 : Nat} {r : Int32 × Hp} (E : f_Model_readHouse h x0 = some r) : MC l X yX11_readHouse mX11_readHouse 6 [.ref x0] h (eI r) r.2 :=
  MC.body (by decide +kernel) rfl (by decide) hst (Nat.le_of_ble_eq_true rfl) (f_Model_readHouse_b0_ok hst (Nat.le_refl _) E)
abbrev mX11_readLeak : MI := (RX11, cX11_readLeak, 4, (some Jvm.ClassFile.FieldType.boolean), [], false)
theorem ws_X11_readLeak : ∀ w ∈ wsM yX11_readLeak mX11_readLeak, w ∈ gw := List.forall_mem_cons.mpr ⟨gw_at 1633 (by decide +kernel) (by decide +kernel), fun _ h => h⟩
def f_Model_readLeak_b49   (h : Hp) (x0 : Nat) (x1 : Int32) (x2 : Int32)  : Option (Int32 × Hp) :=
if hS h x0 = 11 then (
bI (f_Model_number h x0 (0 : Int32) (99 : Int32)) fun v2 h3 =>
if 0 ≤ v2 then (
if hS h3 x0 = 11 then (
bV (f_Model_setsCistern h3 x0 x1 (3 : Int32) v2) fun h8 =>
if hS h8 x0 = 11 then (
bV (f_Model_setsCistern h8 x0 x1 (4 : Int32) x2) fun h12 =>
some ((1 : Int32), h12)
) else none) else none
) else (
some ((0 : Int32), h3)

)
) else none
set_option maxRecDepth 20000 in
set_option maxHeartbeats 4000000 in
theorem f_Model_readLeak_b49_ok {l : Launch} {X : Nat × (Nat → Int32)} (hst : l.stackTraces = false) {d : Nat} (hd : 6 ≤ d)     {h : Hp} {x0 : Nat} {x1 : Int32} {x2 : Int32}  {r : Int32 × Hp} (E : f_Model_readLeak_b49   h x0 x1 x2 = some r) : Rn l X mX11_readLeak d 49 [(0, .ref x0), (1, .int x1), (2, .int x2)] [] h (eI r) r.2 := by
  unfold f_Model_readLeak_b49 at E
  refine Rn.aload_n (pc' := 50) dX11_readLeak_49 rfl 0 rfl rfl ?_
  refine Rn.iconst (pc' := 51) (v := (0 : Int32)) (hv := by decide) dX11_readLeak_50 rfl ?_
  refine Rn.bipush (pc' := 53) (v := (99 : Int32)) (hv := by decide) dX11_readLeak_51 rfl ?_
  obtain ⟨g1, E⟩ := gd_of E
  obtain ⟨v2, h3, e4, E⟩ := bI_of E
  refine Rn.callV1 (pc' := 56) (As := [.int (0 : Int32), .int (99 : Int32)]) (rest := []) (f_Model_number_ok hst e4) (Nat.le_trans (by decide) hd) rfl kb_X11_121 ki_X11_number rfl g1 rfl rfl (Nat.le_of_ble_eq_true rfl) dX11_readLeak_53 rfl rfl ?_
  refine Rn.istore_n (pc' := 57) (L' := [(3, .int v2), (0, .ref x0), (1, .int x1), (2, .int x2)]) dX11_readLeak_56 rfl (by decide) rfl rfl ?_
  refine Rn.iload_n (pc' := 58) dX11_readLeak_57 rfl 0 rfl rfl ?_
  refine Rn.if_ge (pc' := 61) (tgt := 63) dX11_readLeak_58 (by decide) rfl (fun c5 => ?_) (fun c5 => ?_)
  · replace E := (if_of E).1 c5
    refine Rn.aload_n (pc' := 64) dX11_readLeak_63 rfl 1 rfl rfl ?_
    refine Rn.iload_n (pc' := 65) dX11_readLeak_64 rfl 2 rfl rfl ?_
    refine Rn.iconst (pc' := 66) (v := (3 : Int32)) (hv := by decide) dX11_readLeak_65 rfl ?_
    refine Rn.iload_n (pc' := 67) dX11_readLeak_66 rfl 0 rfl rfl ?_
    obtain ⟨g6, E⟩ := gd_of E
    obtain ⟨h8, e9, E⟩ := bV_of E
    refine Rn.callV1 (pc' := 70) (As := [.int x1, .int (3 : Int32), .int v2]) (rest := []) (f_Model_setsCistern_ok hst e9) (Nat.le_trans (by decide) hd) rfl kb_X11_124 ki_X11_setsCistern rfl g6 rfl rfl (Nat.le_of_ble_eq_true rfl) dX11_readLeak_67 rfl rfl ?_
    refine Rn.aload_n (pc' := 71) dX11_readLeak_70 rfl 1 rfl rfl ?_
    refine Rn.iload_n (pc' := 72) dX11_readLeak_71 rfl 2 rfl rfl ?_
    refine Rn.iconst (pc' := 73) (v := (4 : Int32)) (hv := by decide) dX11_readLeak_72 rfl ?_
    refine Rn.iload_n (pc' := 74) dX11_readLeak_73 rfl 3 rfl rfl ?_
    obtain ⟨g10, E⟩ := gd_of E
    obtain ⟨h12, e13, E⟩ := bV_of E
    refine Rn.callV1 (pc' := 77) (As := [.int x1, .int (4 : Int32), .int x2]) (rest := []) (f_Model_setsCistern_ok hst e13) (Nat.le_trans (by decide) hd) rfl kb_X11_124 ki_X11_setsCistern rfl g10 rfl rfl (Nat.le_of_ble_eq_true rfl) dX11_readLeak_74 rfl rfl ?_
    refine Rn.iconst (pc' := 78) (v := (1 : Int32)) (hv := by decide) dX11_readLeak_77 rfl ?_
    cases E
    exact Rn.zret rfl rfl dX11_readLeak_78
  · replace E := (if_of E).2 c5
    refine Rn.iconst (pc' := 62) (v := (0 : Int32)) (hv := by decide) dX11_readLeak_61 rfl ?_
    cases E
    exact Rn.zret rfl rfl dX11_readLeak_62
def f_Model_readLeak_b0   (h : Hp) (x0 : Nat)  : Option (Int32 × Hp) :=
if hS h x0 = 11 then (
bI (f_Model_cisternTold h x0) fun v2 h3 =>
if 0 ≤ v2 then (
if hS h3 x0 = 11 then (
bI (f_Model_passes h3 x0 (STR + 34)) fun v7 h8 =>
if v7 = 0 then (
if hS h8 x0 = 11 then (
bI (f_Model_needs h8 x0 (STR + 35)) fun v12 h13 =>
if v12 = 0 then (
some ((0 : Int32), h13)

) else (
if hS h13 x0 = 11 then (
bI (f_Model_cisternTold h13 x0) fun v17 h18 =>
if v17 < 0 then (
some ((0 : Int32), h18)

) else (
if v17 = v2 then (
some ((0 : Int32), h18)

) else (
f_Model_readLeak_b49   h18 x0 v2 v17

)

)
) else none
)
) else none
) else (
f_Model_readLeak_b49   h8 x0 v2 (-1 : Int32)

)
) else none
) else (
some ((0 : Int32), h3)

)
) else none
set_option maxRecDepth 20000 in
set_option maxHeartbeats 4000000 in
theorem f_Model_readLeak_b0_ok {l : Launch} {X : Nat × (Nat → Int32)} (hst : l.stackTraces = false) {d : Nat} (hd : 6 ≤ d)     {h : Hp} {x0 : Nat}  {r : Int32 × Hp} (E : f_Model_readLeak_b0   h x0 = some r) : Rn l X mX11_readLeak d 0 [(0, .ref x0)] [] h (eI r) r.2 := by
  unfold f_Model_readLeak_b0 at E
  refine Rn.aload_n (pc' := 1) dX11_readLeak_0 rfl 0 rfl rfl ?_
  obtain ⟨g1, E⟩ := gd_of E
  obtain ⟨v2, h3, e4, E⟩ := bI_of E
  refine Rn.callV1 (pc' := 4) (As := []) (rest := []) (f_Model_cisternTold_ok hst e4) (Nat.le_trans (by decide) hd) rfl kb_X11_142 ki_X11_cisternTold rfl g1 rfl rfl (Nat.le_of_ble_eq_true rfl) dX11_readLeak_1 rfl rfl ?_
  refine Rn.istore_n (pc' := 5) (L' := [(1, .int v2), (0, .ref x0)]) dX11_readLeak_4 rfl (by decide) rfl rfl ?_
  refine Rn.iload_n (pc' := 6) dX11_readLeak_5 rfl 0 rfl rfl ?_
  refine Rn.if_ge (pc' := 9) (tgt := 11) dX11_readLeak_6 (by decide) rfl (fun c5 => ?_) (fun c5 => ?_)
  · replace E := (if_of E).1 c5
    refine Rn.iconst (pc' := 12) (v := (-1 : Int32)) (hv := by decide) dX11_readLeak_11 rfl ?_
    refine Rn.istore_n (pc' := 13) (L' := [(2, .int (-1 : Int32)), (1, .int v2), (0, .ref x0)]) dX11_readLeak_12 rfl (by decide) rfl rfl ?_
    refine Rn.aload_n (pc' := 14) dX11_readLeak_13 rfl 2 rfl rfl ?_
    refine Rn.ldcS (pc' := 16) (i := 34) rfl dX11_readLeak_14 rfl ?_
    obtain ⟨g6, E⟩ := gd_of E
    obtain ⟨v7, h8, e9, E⟩ := bI_of E
    refine Rn.callV1 (pc' := 19) (As := [.ref (STR + 34)]) (rest := []) (f_Model_passes_ok hst e9) (Nat.le_trans (by decide) hd) rfl kb_X11_129 ki_X11_passes rfl g6 rfl rfl (Nat.le_of_ble_eq_true rfl) dX11_readLeak_16 rfl rfl ?_
    refine Rn.if_ne (pc' := 22) (tgt := 49) dX11_readLeak_19 (by decide) rfl (fun c10 => ?_) (fun c10 => ?_)
    · replace E := (if_of E).2 c10
      refine Rn.sub [2, 1, 0] rfl ?_
      exact f_Model_readLeak_b49_ok hst hd   E
    · replace E := (if_of E).1 c10
      refine Rn.aload_n (pc' := 23) dX11_readLeak_22 rfl 2 rfl rfl ?_
      refine Rn.ldcS (pc' := 25) (i := 35) rfl dX11_readLeak_23 rfl ?_
      obtain ⟨g11, E⟩ := gd_of E
      obtain ⟨v12, h13, e14, E⟩ := bI_of E
      refine Rn.callV1 (pc' := 28) (As := [.ref (STR + 35)]) (rest := []) (f_Model_needs_ok hst e14) (Nat.le_trans (by decide) hd) rfl kb_X11_138 ki_X11_needs rfl g11 rfl rfl (Nat.le_of_ble_eq_true rfl) dX11_readLeak_25 rfl rfl ?_
      refine Rn.if_ne (pc' := 31) (tgt := 33) dX11_readLeak_28 (by decide) rfl (fun c15 => ?_) (fun c15 => ?_)
      · replace E := (if_of E).2 c15
        refine Rn.aload_n (pc' := 34) dX11_readLeak_33 rfl 2 rfl rfl ?_
        obtain ⟨g16, E⟩ := gd_of E
        obtain ⟨v17, h18, e19, E⟩ := bI_of E
        refine Rn.callV1 (pc' := 37) (As := []) (rest := []) (f_Model_cisternTold_ok hst e19) (Nat.le_trans (by decide) hd) rfl kb_X11_142 ki_X11_cisternTold rfl g16 rfl rfl (Nat.le_of_ble_eq_true rfl) dX11_readLeak_34 rfl rfl ?_
        refine Rn.istore_n (pc' := 38) (L' := [(2, .int v17), (1, .int v2), (0, .ref x0)]) dX11_readLeak_37 rfl (by decide) rfl rfl ?_
        refine Rn.iload_n (pc' := 39) dX11_readLeak_38 rfl 0 rfl rfl ?_
        refine Rn.if_lt (pc' := 42) (tgt := 47) dX11_readLeak_39 (by decide) rfl (fun c20 => ?_) (fun c20 => ?_)
        · replace E := (if_of E).1 c20
          refine Rn.iconst (pc' := 48) (v := (0 : Int32)) (hv := by decide) dX11_readLeak_47 rfl ?_
          cases E
          exact Rn.zret rfl rfl dX11_readLeak_48
        · replace E := (if_of E).2 c20
          refine Rn.iload_n (pc' := 43) dX11_readLeak_42 rfl 0 rfl rfl ?_
          refine Rn.iload_n (pc' := 44) dX11_readLeak_43 rfl 1 rfl rfl ?_
          refine Rn.icmp_ne (pc' := 47) (tgt := 49) dX11_readLeak_44 (by decide) rfl (fun c21 => ?_) (fun c21 => ?_)
          · replace E := (if_of E).2 c21
            refine Rn.sub [2, 1, 0] rfl ?_
            exact f_Model_readLeak_b49_ok hst hd   E
          · replace E := (if_of E).1 c21
            refine Rn.iconst (pc' := 48) (v := (0 : Int32)) (hv := by decide) dX11_readLeak_47 rfl ?_
            cases E
            exact Rn.zret rfl rfl dX11_readLeak_48
      · replace E := (if_of E).1 c15
        refine Rn.iconst (pc' := 32) (v := (0 : Int32)) (hv := by decide) dX11_readLeak_31 rfl ?_
        cases E
        exact Rn.zret rfl rfl dX11_readLeak_32
  · replace E := (if_of E).2 c5
    refine Rn.iconst (pc' := 10) (v := (0 : Int32)) (hv := by decide) dX11_readLeak_9 rfl ?_
    cases E
    exact Rn.zret rfl rfl dX11_readLeak_10
def f_Model_readLeak (h : Hp) (x0 : Nat) : Option (Int32 × Hp) := f_Model_readLeak_b0  h x0
theorem f_Model_readLeak_ok {l : Launch} {X : Nat × (Nat → Int32)} (hst : l.stackTraces = false) {h : Hp} {x0 : Nat} {r : Int32 × Hp} (E : f_Model_readLeak h x0 = some r) : MC l X yX11_readLeak mX11_readLeak 6 [.ref x0] h (eI r) r.2 :=
  MC.body (by decide +kernel) rfl (by decide) hst (Nat.le_of_ble_eq_true rfl) (f_Model_readLeak_b0_ok hst (Nat.le_refl _) E)
abbrev mX11_readSeal : MI := (RX11, cX11_readSeal, 3, (some Jvm.ClassFile.FieldType.boolean), [], false)
theorem ws_X11_readSeal : ∀ w ∈ wsM yX11_readSeal mX11_readSeal, w ∈ gw := List.forall_mem_cons.mpr ⟨gw_at 1641 (by decide +kernel) (by decide +kernel), fun _ h => h⟩
def f_Model_readSeal_b16   (h : Hp) (x2 : Int32)  : Option (Int32 × Hp) :=
if x2 < 0 then (
some ((0 : Int32), h)

) else (
some ((1 : Int32), h)

)

set_option maxRecDepth 20000 in
set_option maxHeartbeats 4000000 in
theorem f_Model_readSeal_b16_ok {l : Launch} {X : Nat × (Nat → Int32)} (hst : l.stackTraces = false) {d : Nat} (hd : 4 ≤ d)     {h : Hp} {x2 : Int32}  {r : Int32 × Hp} (E : f_Model_readSeal_b16   h x2 = some r) : Rn l X mX11_readSeal d 16 [(2, .int x2)] [] h (eI r) r.2 := by
  unfold f_Model_readSeal_b16 at E
  refine Rn.iload_n (pc' := 17) dX11_readSeal_16 rfl 0 rfl rfl ?_
  refine Rn.if_lt (pc' := 20) (tgt := 24) dX11_readSeal_17 (by decide) rfl (fun c1 => ?_) (fun c1 => ?_)
  · replace E := (if_of E).1 c1
    refine Rn.iconst (pc' := 25) (v := (0 : Int32)) (hv := by decide) dX11_readSeal_24 rfl ?_
    cases E
    exact Rn.zret rfl rfl dX11_readSeal_25
  · replace E := (if_of E).2 c1
    refine Rn.iconst (pc' := 21) (v := (1 : Int32)) (hv := by decide) dX11_readSeal_20 rfl ?_
    refine Rn.goto (pc' := 25) dX11_readSeal_21 (by decide) ?_
    cases E
    exact Rn.zret rfl rfl dX11_readSeal_25
def f_Model_readSeal_b0   (h : Hp) (x0 : Nat) (x1 : Int32)  : Option (Int32 × Hp) :=
if hS h x0 = 11 then (
bI (f_Model_cisternTold h x0) fun v2 h3 =>
if v2 < 0 then (
f_Model_readSeal_b16   h3 v2

) else (
if hS h3 x0 = 11 then (
bV (f_Model_setsCistern h3 x0 v2 (2 : Int32) x1) fun h8 =>
f_Model_readSeal_b16   h8 v2
) else none
)
) else none
set_option maxRecDepth 20000 in
set_option maxHeartbeats 4000000 in
theorem f_Model_readSeal_b0_ok {l : Launch} {X : Nat × (Nat → Int32)} (hst : l.stackTraces = false) {d : Nat} (hd : 4 ≤ d)     {h : Hp} {x0 : Nat} {x1 : Int32}  {r : Int32 × Hp} (E : f_Model_readSeal_b0   h x0 x1 = some r) : Rn l X mX11_readSeal d 0 [(0, .ref x0), (1, .int x1)] [] h (eI r) r.2 := by
  unfold f_Model_readSeal_b0 at E
  refine Rn.aload_n (pc' := 1) dX11_readSeal_0 rfl 0 rfl rfl ?_
  obtain ⟨g1, E⟩ := gd_of E
  obtain ⟨v2, h3, e4, E⟩ := bI_of E
  refine Rn.callV1 (pc' := 4) (As := []) (rest := []) (f_Model_cisternTold_ok hst e4) (Nat.le_trans (by decide) hd) rfl kb_X11_142 ki_X11_cisternTold rfl g1 rfl rfl (Nat.le_of_ble_eq_true rfl) dX11_readSeal_1 rfl rfl ?_
  refine Rn.istore_n (pc' := 5) (L' := [(2, .int v2), (0, .ref x0), (1, .int x1)]) dX11_readSeal_4 rfl (by decide) rfl rfl ?_
  refine Rn.iload_n (pc' := 6) dX11_readSeal_5 rfl 0 rfl rfl ?_
  refine Rn.if_lt (pc' := 9) (tgt := 16) dX11_readSeal_6 (by decide) rfl (fun c5 => ?_) (fun c5 => ?_)
  · replace E := (if_of E).1 c5
    refine Rn.sub [0] rfl ?_
    exact f_Model_readSeal_b16_ok hst hd   E
  · replace E := (if_of E).2 c5
    refine Rn.aload_n (pc' := 10) dX11_readSeal_9 rfl 1 rfl rfl ?_
    refine Rn.iload_n (pc' := 11) dX11_readSeal_10 rfl 0 rfl rfl ?_
    refine Rn.iconst (pc' := 12) (v := (2 : Int32)) (hv := by decide) dX11_readSeal_11 rfl ?_
    refine Rn.iload_n (pc' := 13) dX11_readSeal_12 rfl 2 rfl rfl ?_
    obtain ⟨g6, E⟩ := gd_of E
    obtain ⟨h8, e9, E⟩ := bV_of E
    refine Rn.callV1 (pc' := 16) (As := [.int v2, .int (2 : Int32), .int x1]) (rest := []) (f_Model_setsCistern_ok hst e9) (Nat.le_trans (by decide) hd) rfl kb_X11_124 ki_X11_setsCistern rfl g6 rfl rfl (Nat.le_of_ble_eq_true rfl) dX11_readSeal_13 rfl rfl ?_
    refine Rn.sub [0] rfl ?_
    exact f_Model_readSeal_b16_ok hst hd   E
def f_Model_readSeal (h : Hp) (x0 : Nat) (x1 : Int32) : Option (Int32 × Hp) := f_Model_readSeal_b0  h x0 x1
theorem f_Model_readSeal_ok {l : Launch} {X : Nat × (Nat → Int32)} (hst : l.stackTraces = false) {h : Hp} {x0 : Nat} {x1 : Int32} {r : Int32 × Hp} (E : f_Model_readSeal h x0 x1 = some r) : MC l X yX11_readSeal mX11_readSeal 4 [.ref x0, .int x1] h (eI r) r.2 :=
  MC.body (by decide +kernel) rfl (by decide) hst (Nat.le_of_ble_eq_true rfl) (f_Model_readSeal_b0_ok hst (Nat.le_refl _) E)
abbrev mX11_readLandLine : MI := (RX11, cX11_readLandLine, 2, (some Jvm.ClassFile.FieldType.boolean), [], false)
theorem ws_X11_readLandLine : ∀ w ∈ wsM yX11_readLandLine mX11_readLandLine, w ∈ gw := List.forall_mem_cons.mpr ⟨gw_at 1538 (by decide +kernel) (by decide +kernel), fun _ h => h⟩
theorem kb_X11_192 : KB RX11 192 yX11_readSeal mX11_readSeal 1 := ⟨gw_at 1638 (by decide +kernel) (by decide +kernel), gw_at 117 (by decide +kernel) (by decide +kernel), trivial, ws_X11_readSeal, by decide +kernel, by decide +kernel, by decide +kernel, by decide⟩
theorem ki_X11_readSeal : Cond.instanceMethod yX11_readSeal ∈ gw ∧ Cond.selects yX11_readSeal.cls yX11_readSeal yX11_readSeal ∈ gw := ⟨gw_at 1640 (by decide +kernel) (by decide +kernel), gw_at 67 (by decide +kernel) (by decide +kernel)⟩
def f_Model_readLandLine_b100   (h : Hp)  (s0 : Nat) (s1 : Int32) : Option (Int32 × Hp) :=
if hS h s0 = 11 then (
bI (f_Model_readSeal h s0 s1) fun v2 h3 =>
if v2 = 0 then (
some ((0 : Int32), h3)

) else (
some ((1 : Int32), h3)

)
) else none
set_option maxRecDepth 20000 in
set_option maxHeartbeats 4000000 in
theorem f_Model_readLandLine_b100_ok {l : Launch} {X : Nat × (Nat → Int32)} (hst : l.stackTraces = false) {d : Nat} (hd : 7 ≤ d)     {h : Hp}  {s0 : Nat} {s1 : Int32} {r : Int32 × Hp} (E : f_Model_readLandLine_b100   h s0 s1 = some r) : Rn l X mX11_readLandLine d 100 [] [.int s1, .ref s0] h (eI r) r.2 := by
  unfold f_Model_readLandLine_b100 at E
  obtain ⟨g1, E⟩ := gd_of E
  obtain ⟨v2, h3, e4, E⟩ := bI_of E
  refine Rn.callV1 (pc' := 103) (As := [.int s1]) (rest := []) (f_Model_readSeal_ok hst e4) (Nat.le_trans (by decide) hd) rfl kb_X11_192 ki_X11_readSeal rfl g1 rfl rfl (Nat.le_of_ble_eq_true rfl) dX11_readLandLine_100 rfl rfl ?_
  refine Rn.if_eq (pc' := 106) (tgt := 110) dX11_readLandLine_103 (by decide) rfl (fun c5 => ?_) (fun c5 => ?_)
  · replace E := (if_of E).1 c5
    refine Rn.iconst (pc' := 111) (v := (0 : Int32)) (hv := by decide) dX11_readLandLine_110 rfl ?_
    cases E
    exact Rn.zret rfl rfl dX11_readLandLine_111
  · replace E := (if_of E).2 c5
    refine Rn.iconst (pc' := 107) (v := (1 : Int32)) (hv := by decide) dX11_readLandLine_106 rfl ?_
    refine Rn.goto (pc' := 111) dX11_readLandLine_107 (by decide) ?_
    cases E
    exact Rn.zret rfl rfl dX11_readLandLine_111
def f_Model_readLandLine_b90   (h : Hp) (x0 : Nat) (x1 : Int32)  : Option (Int32 × Hp) :=
if x1 = 0 then (
f_Model_readLandLine_b100   h x0 (0 : Int32)

) else (
f_Model_readLandLine_b100   h x0 (1 : Int32)

)

set_option maxRecDepth 20000 in
set_option maxHeartbeats 4000000 in
theorem f_Model_readLandLine_b90_ok {l : Launch} {X : Nat × (Nat → Int32)} (hst : l.stackTraces = false) {d : Nat} (hd : 7 ≤ d)     {h : Hp} {x0 : Nat} {x1 : Int32}  {r : Int32 × Hp} (E : f_Model_readLandLine_b90   h x0 x1 = some r) : Rn l X mX11_readLandLine d 90 [(0, .ref x0), (1, .int x1)] [] h (eI r) r.2 := by
  unfold f_Model_readLandLine_b90 at E
  refine Rn.aload_n (pc' := 91) dX11_readLandLine_90 rfl 0 rfl rfl ?_
  refine Rn.iload_n (pc' := 92) dX11_readLandLine_91 rfl 1 rfl rfl ?_
  refine Rn.if_eq (pc' := 95) (tgt := 99) dX11_readLandLine_92 (by decide) rfl (fun c1 => ?_) (fun c1 => ?_)
  · replace E := (if_of E).1 c1
    refine Rn.iconst (pc' := 100) (v := (0 : Int32)) (hv := by decide) dX11_readLandLine_99 rfl ?_
    refine Rn.sub [] rfl ?_
    exact f_Model_readLandLine_b100_ok hst hd   E
  · replace E := (if_of E).2 c1
    refine Rn.iconst (pc' := 96) (v := (1 : Int32)) (hv := by decide) dX11_readLandLine_95 rfl ?_
    refine Rn.goto (pc' := 100) dX11_readLandLine_96 (by decide) ?_
    refine Rn.sub [] rfl ?_
    exact f_Model_readLandLine_b100_ok hst hd   E
theorem kb_X11_185 : KB RX11 185 yX11_readLeak mX11_readLeak 0 := ⟨gw_at 1630 (by decide +kernel) (by decide +kernel), gw_at 117 (by decide +kernel) (by decide +kernel), trivial, ws_X11_readLeak, by decide +kernel, by decide +kernel, by decide +kernel, by decide⟩
theorem ki_X11_readLeak : Cond.instanceMethod yX11_readLeak ∈ gw ∧ Cond.selects yX11_readLeak.cls yX11_readLeak yX11_readLeak ∈ gw := ⟨gw_at 1632 (by decide +kernel) (by decide +kernel), gw_at 66 (by decide +kernel) (by decide +kernel)⟩
theorem kb_X11_180 : KB RX11 180 yX11_readHouse mX11_readHouse 0 := ⟨gw_at 1611 (by decide +kernel) (by decide +kernel), gw_at 117 (by decide +kernel) (by decide +kernel), trivial, ws_X11_readHouse, by decide +kernel, by decide +kernel, by decide +kernel, by decide⟩
theorem ki_X11_readHouse : Cond.instanceMethod yX11_readHouse ∈ gw ∧ Cond.selects yX11_readHouse.cls yX11_readHouse yX11_readHouse ∈ gw := ⟨gw_at 1613 (by decide +kernel) (by decide +kernel), gw_at 62 (by decide +kernel) (by decide +kernel)⟩
theorem kb_X11_175 : KB RX11 175 yX11_readSalt mX11_readSalt 0 := ⟨gw_at 1606 (by decide +kernel) (by decide +kernel), gw_at 117 (by decide +kernel) (by decide +kernel), trivial, ws_X11_readSalt, by decide +kernel, by decide +kernel, by decide +kernel, by decide⟩
theorem ki_X11_readSalt : Cond.instanceMethod yX11_readSalt ∈ gw ∧ Cond.selects yX11_readSalt.cls yX11_readSalt yX11_readSalt ∈ gw := ⟨gw_at 1608 (by decide +kernel) (by decide +kernel), gw_at 61 (by decide +kernel) (by decide +kernel)⟩
theorem kb_X11_170 : KB RX11 170 yX11_readPour mX11_readPour 0 := ⟨gw_at 1574 (by decide +kernel) (by decide +kernel), gw_at 117 (by decide +kernel) (by decide +kernel), trivial, ws_X11_readPour, by decide +kernel, by decide +kernel, by decide +kernel, by decide⟩
theorem ki_X11_readPour : Cond.instanceMethod yX11_readPour ∈ gw ∧ Cond.selects yX11_readPour.cls yX11_readPour yX11_readPour ∈ gw := ⟨gw_at 1576 (by decide +kernel) (by decide +kernel), gw_at 54 (by decide +kernel) (by decide +kernel)⟩
theorem kb_X11_164 : KB RX11 164 yX11_readCistern mX11_readCistern 0 := ⟨gw_at 1546 (by decide +kernel) (by decide +kernel), gw_at 117 (by decide +kernel) (by decide +kernel), trivial, ws_X11_readCistern, by decide +kernel, by decide +kernel, by decide +kernel, by decide⟩
theorem ki_X11_readCistern : Cond.instanceMethod yX11_readCistern ∈ gw ∧ Cond.selects yX11_readCistern.cls yX11_readCistern yX11_readCistern ∈ gw := ⟨gw_at 1548 (by decide +kernel) (by decide +kernel), gw_at 48 (by decide +kernel) (by decide +kernel)⟩
def f_Model_readLandLine_b0   (h : Hp) (x0 : Nat)  : Option (Int32 × Hp) :=
if hS h x0 = 11 then (
bI (f_Model_isWord h x0 (STR + 22)) fun v2 h3 =>
if v2 = 0 then (
if hS h3 x0 = 11 then (
bI (f_Model_isWord h3 x0 (STR + 26)) fun v7 h8 =>
if v7 = 0 then (
if hS h8 x0 = 11 then (
bI (f_Model_isWord h8 x0 (STR + 29)) fun v12 h13 =>
if v12 = 0 then (
if hS h13 x0 = 11 then (
bI (f_Model_isWord h13 x0 (STR + 30)) fun v17 h18 =>
if v17 = 0 then (
if hS h18 x0 = 11 then (
bI (f_Model_isWord h18 x0 (STR + 33)) fun v22 h23 =>
if v22 = 0 then (
if hS h23 x0 = 11 then (
bI (f_Model_isWord h23 x0 (STR + 36)) fun v27 h28 =>
if v27 = 0 then (
if hS h28 x0 = 11 then (
bI (f_Model_isWord h28 x0 (STR + 37)) fun v32 h33 =>
if v32 = 0 then (
some ((0 : Int32), h33)

) else (
f_Model_readLandLine_b90   h33 x0 v27

)
) else none
) else (
f_Model_readLandLine_b90   h28 x0 v27

)
) else none
) else (
if hS h23 x0 = 11 then (
bI (f_Model_readLeak h23 x0) fun v37 h38 =>
if v37 = 0 ∨ v37 = 1 then (
some (v37, h38)
) else none) else none
)
) else none
) else (
if hS h18 x0 = 11 then (
bI (f_Model_readHouse h18 x0) fun v42 h43 =>
if v42 = 0 ∨ v42 = 1 then (
some (v42, h43)
) else none) else none
)
) else none
) else (
if hS h13 x0 = 11 then (
bI (f_Model_readSalt h13 x0) fun v47 h48 =>
if v47 = 0 ∨ v47 = 1 then (
some (v47, h48)
) else none) else none
)
) else none
) else (
if hS h8 x0 = 11 then (
bI (f_Model_readPour h8 x0) fun v52 h53 =>
if v52 = 0 ∨ v52 = 1 then (
some (v52, h53)
) else none) else none
)
) else none
) else (
if hS h3 x0 = 11 then (
bI (f_Model_readCistern h3 x0) fun v57 h58 =>
if v57 = 0 ∨ v57 = 1 then (
some (v57, h58)
) else none) else none
)
) else none
set_option maxRecDepth 20000 in
set_option maxHeartbeats 4000000 in
theorem f_Model_readLandLine_b0_ok {l : Launch} {X : Nat × (Nat → Int32)} (hst : l.stackTraces = false) {d : Nat} (hd : 7 ≤ d)     {h : Hp} {x0 : Nat}  {r : Int32 × Hp} (E : f_Model_readLandLine_b0   h x0 = some r) : Rn l X mX11_readLandLine d 0 [(0, .ref x0)] [] h (eI r) r.2 := by
  unfold f_Model_readLandLine_b0 at E
  refine Rn.aload_n (pc' := 1) dX11_readLandLine_0 rfl 0 rfl rfl ?_
  refine Rn.ldcS (pc' := 3) (i := 22) rfl dX11_readLandLine_1 rfl ?_
  obtain ⟨g1, E⟩ := gd_of E
  obtain ⟨v2, h3, e4, E⟩ := bI_of E
  refine Rn.callV1 (pc' := 6) (As := [.ref (STR + 22)]) (rest := []) (f_Model_isWord_ok hst e4) (Nat.le_trans (by decide) hd) rfl kb_X11_117 ki_X11_isWord rfl g1 rfl rfl (Nat.le_of_ble_eq_true rfl) dX11_readLandLine_3 rfl rfl ?_
  refine Rn.if_eq (pc' := 9) (tgt := 14) dX11_readLandLine_6 (by decide) rfl (fun c5 => ?_) (fun c5 => ?_)
  · replace E := (if_of E).1 c5
    refine Rn.aload_n (pc' := 15) dX11_readLandLine_14 rfl 0 rfl rfl ?_
    refine Rn.ldcS (pc' := 17) (i := 26) rfl dX11_readLandLine_15 rfl ?_
    obtain ⟨g6, E⟩ := gd_of E
    obtain ⟨v7, h8, e9, E⟩ := bI_of E
    refine Rn.callV1 (pc' := 20) (As := [.ref (STR + 26)]) (rest := []) (f_Model_isWord_ok hst e9) (Nat.le_trans (by decide) hd) rfl kb_X11_117 ki_X11_isWord rfl g6 rfl rfl (Nat.le_of_ble_eq_true rfl) dX11_readLandLine_17 rfl rfl ?_
    refine Rn.if_eq (pc' := 23) (tgt := 28) dX11_readLandLine_20 (by decide) rfl (fun c10 => ?_) (fun c10 => ?_)
    · replace E := (if_of E).1 c10
      refine Rn.aload_n (pc' := 29) dX11_readLandLine_28 rfl 0 rfl rfl ?_
      refine Rn.ldcS (pc' := 31) (i := 29) rfl dX11_readLandLine_29 rfl ?_
      obtain ⟨g11, E⟩ := gd_of E
      obtain ⟨v12, h13, e14, E⟩ := bI_of E
      refine Rn.callV1 (pc' := 34) (As := [.ref (STR + 29)]) (rest := []) (f_Model_isWord_ok hst e14) (Nat.le_trans (by decide) hd) rfl kb_X11_117 ki_X11_isWord rfl g11 rfl rfl (Nat.le_of_ble_eq_true rfl) dX11_readLandLine_31 rfl rfl ?_
      refine Rn.if_eq (pc' := 37) (tgt := 42) dX11_readLandLine_34 (by decide) rfl (fun c15 => ?_) (fun c15 => ?_)
      · replace E := (if_of E).1 c15
        refine Rn.aload_n (pc' := 43) dX11_readLandLine_42 rfl 0 rfl rfl ?_
        refine Rn.ldcS (pc' := 45) (i := 30) rfl dX11_readLandLine_43 rfl ?_
        obtain ⟨g16, E⟩ := gd_of E
        obtain ⟨v17, h18, e19, E⟩ := bI_of E
        refine Rn.callV1 (pc' := 48) (As := [.ref (STR + 30)]) (rest := []) (f_Model_isWord_ok hst e19) (Nat.le_trans (by decide) hd) rfl kb_X11_117 ki_X11_isWord rfl g16 rfl rfl (Nat.le_of_ble_eq_true rfl) dX11_readLandLine_45 rfl rfl ?_
        refine Rn.if_eq (pc' := 51) (tgt := 56) dX11_readLandLine_48 (by decide) rfl (fun c20 => ?_) (fun c20 => ?_)
        · replace E := (if_of E).1 c20
          refine Rn.aload_n (pc' := 57) dX11_readLandLine_56 rfl 0 rfl rfl ?_
          refine Rn.ldcS (pc' := 59) (i := 33) rfl dX11_readLandLine_57 rfl ?_
          obtain ⟨g21, E⟩ := gd_of E
          obtain ⟨v22, h23, e24, E⟩ := bI_of E
          refine Rn.callV1 (pc' := 62) (As := [.ref (STR + 33)]) (rest := []) (f_Model_isWord_ok hst e24) (Nat.le_trans (by decide) hd) rfl kb_X11_117 ki_X11_isWord rfl g21 rfl rfl (Nat.le_of_ble_eq_true rfl) dX11_readLandLine_59 rfl rfl ?_
          refine Rn.if_eq (pc' := 65) (tgt := 70) dX11_readLandLine_62 (by decide) rfl (fun c25 => ?_) (fun c25 => ?_)
          · replace E := (if_of E).1 c25
            refine Rn.aload_n (pc' := 71) dX11_readLandLine_70 rfl 0 rfl rfl ?_
            refine Rn.ldcS (pc' := 73) (i := 36) rfl dX11_readLandLine_71 rfl ?_
            obtain ⟨g26, E⟩ := gd_of E
            obtain ⟨v27, h28, e29, E⟩ := bI_of E
            refine Rn.callV1 (pc' := 76) (As := [.ref (STR + 36)]) (rest := []) (f_Model_isWord_ok hst e29) (Nat.le_trans (by decide) hd) rfl kb_X11_117 ki_X11_isWord rfl g26 rfl rfl (Nat.le_of_ble_eq_true rfl) dX11_readLandLine_73 rfl rfl ?_
            refine Rn.istore_n (pc' := 77) (L' := [(1, .int v27), (0, .ref x0)]) dX11_readLandLine_76 rfl (by decide) rfl rfl ?_
            refine Rn.iload_n (pc' := 78) dX11_readLandLine_77 rfl 0 rfl rfl ?_
            refine Rn.if_ne (pc' := 81) (tgt := 90) dX11_readLandLine_78 (by decide) rfl (fun c30 => ?_) (fun c30 => ?_)
            · replace E := (if_of E).2 c30
              refine Rn.sub [1, 0] rfl ?_
              exact f_Model_readLandLine_b90_ok hst hd   E
            · replace E := (if_of E).1 c30
              refine Rn.aload_n (pc' := 82) dX11_readLandLine_81 rfl 1 rfl rfl ?_
              refine Rn.ldcS (pc' := 84) (i := 37) rfl dX11_readLandLine_82 rfl ?_
              obtain ⟨g31, E⟩ := gd_of E
              obtain ⟨v32, h33, e34, E⟩ := bI_of E
              refine Rn.callV1 (pc' := 87) (As := [.ref (STR + 37)]) (rest := []) (f_Model_isWord_ok hst e34) (Nat.le_trans (by decide) hd) rfl kb_X11_117 ki_X11_isWord rfl g31 rfl rfl (Nat.le_of_ble_eq_true rfl) dX11_readLandLine_84 rfl rfl ?_
              refine Rn.if_eq (pc' := 90) (tgt := 110) dX11_readLandLine_87 (by decide) rfl (fun c35 => ?_) (fun c35 => ?_)
              · replace E := (if_of E).1 c35
                refine Rn.iconst (pc' := 111) (v := (0 : Int32)) (hv := by decide) dX11_readLandLine_110 rfl ?_
                cases E
                exact Rn.zret rfl rfl dX11_readLandLine_111
              · replace E := (if_of E).2 c35
                refine Rn.sub [1, 0] rfl ?_
                exact f_Model_readLandLine_b90_ok hst hd   E
          · replace E := (if_of E).2 c25
            refine Rn.aload_n (pc' := 66) dX11_readLandLine_65 rfl 0 rfl rfl ?_
            obtain ⟨g36, E⟩ := gd_of E
            obtain ⟨v37, h38, e39, E⟩ := bI_of E
            refine Rn.callV1 (pc' := 69) (As := []) (rest := []) (f_Model_readLeak_ok hst e39) (Nat.le_trans (by decide) hd) rfl kb_X11_185 ki_X11_readLeak rfl g36 rfl rfl (Nat.le_of_ble_eq_true rfl) dX11_readLandLine_66 rfl rfl ?_
            obtain ⟨g40, E⟩ := gd_of E
            cases E
            exact Rn.zret rfl (nar_b g40) dX11_readLandLine_69
        · replace E := (if_of E).2 c20
          refine Rn.aload_n (pc' := 52) dX11_readLandLine_51 rfl 0 rfl rfl ?_
          obtain ⟨g41, E⟩ := gd_of E
          obtain ⟨v42, h43, e44, E⟩ := bI_of E
          refine Rn.callV1 (pc' := 55) (As := []) (rest := []) (f_Model_readHouse_ok hst e44) (Nat.le_trans (by decide) hd) rfl kb_X11_180 ki_X11_readHouse rfl g41 rfl rfl (Nat.le_of_ble_eq_true rfl) dX11_readLandLine_52 rfl rfl ?_
          obtain ⟨g45, E⟩ := gd_of E
          cases E
          exact Rn.zret rfl (nar_b g45) dX11_readLandLine_55
      · replace E := (if_of E).2 c15
        refine Rn.aload_n (pc' := 38) dX11_readLandLine_37 rfl 0 rfl rfl ?_
        obtain ⟨g46, E⟩ := gd_of E
        obtain ⟨v47, h48, e49, E⟩ := bI_of E
        refine Rn.callV1 (pc' := 41) (As := []) (rest := []) (f_Model_readSalt_ok hst e49) (Nat.le_trans (by decide) hd) rfl kb_X11_175 ki_X11_readSalt rfl g46 rfl rfl (Nat.le_of_ble_eq_true rfl) dX11_readLandLine_38 rfl rfl ?_
        obtain ⟨g50, E⟩ := gd_of E
        cases E
        exact Rn.zret rfl (nar_b g50) dX11_readLandLine_41
    · replace E := (if_of E).2 c10
      refine Rn.aload_n (pc' := 24) dX11_readLandLine_23 rfl 0 rfl rfl ?_
      obtain ⟨g51, E⟩ := gd_of E
      obtain ⟨v52, h53, e54, E⟩ := bI_of E
      refine Rn.callV1 (pc' := 27) (As := []) (rest := []) (f_Model_readPour_ok hst e54) (Nat.le_trans (by decide) hd) rfl kb_X11_170 ki_X11_readPour rfl g51 rfl rfl (Nat.le_of_ble_eq_true rfl) dX11_readLandLine_24 rfl rfl ?_
      obtain ⟨g55, E⟩ := gd_of E
      cases E
      exact Rn.zret rfl (nar_b g55) dX11_readLandLine_27
  · replace E := (if_of E).2 c5
    refine Rn.aload_n (pc' := 10) dX11_readLandLine_9 rfl 0 rfl rfl ?_
    obtain ⟨g56, E⟩ := gd_of E
    obtain ⟨v57, h58, e59, E⟩ := bI_of E
    refine Rn.callV1 (pc' := 13) (As := []) (rest := []) (f_Model_readCistern_ok hst e59) (Nat.le_trans (by decide) hd) rfl kb_X11_164 ki_X11_readCistern rfl g56 rfl rfl (Nat.le_of_ble_eq_true rfl) dX11_readLandLine_10 rfl rfl ?_
    obtain ⟨g60, E⟩ := gd_of E
    cases E
    exact Rn.zret rfl (nar_b g60) dX11_readLandLine_13
def f_Model_readLandLine (h : Hp) (x0 : Nat) : Option (Int32 × Hp) := f_Model_readLandLine_b0  h x0
theorem f_Model_readLandLine_ok {l : Launch} {X : Nat × (Nat → Int32)} (hst : l.stackTraces = false) {h : Hp} {x0 : Nat} {r : Int32 × Hp} (E : f_Model_readLandLine h x0 = some r) : MC l X yX11_readLandLine mX11_readLandLine 7 [.ref x0] h (eI r) r.2 :=
  MC.body (by decide +kernel) rfl (by decide) hst (Nat.le_of_ble_eq_true rfl) (f_Model_readLandLine_b0_ok hst (Nat.le_refl _) E)
abbrev mX11_sign : MI := (RX11, cX11_sign, 2, (some Jvm.ClassFile.FieldType.boolean), [], false)
theorem ws_X11_sign : ∀ w ∈ wsM yX11_sign mX11_sign, w ∈ gw := List.forall_mem_cons.mpr ⟨gw_at 1664 (by decide +kernel) (by decide +kernel), fun _ h => h⟩
def f_Model_sign_b0   (h : Hp) (x0 : Nat) (x1 : Int32)  : Option (Int32 × Hp) :=
if hS h x0 = 11 then (
bV (f_Model_blanks h x0) fun h3 =>
if hS h3 x0 = 11 then (
bI (f_Model_isAt h3 x0 x1 x1) fun v6 h7 =>
if v6 = 0 then (
some ((0 : Int32), h7)

) else (
if hS h7 x0 = 11 then (
wr (sI h7 x0 10 ((hI h7 x0 10) + (1 : Int32))) fun h11 =>
some ((1 : Int32), h11)
) else none
)
) else none) else none
set_option maxRecDepth 20000 in
set_option maxHeartbeats 4000000 in
theorem f_Model_sign_b0_ok {l : Launch} {X : Nat × (Nat → Int32)} (hst : l.stackTraces = false) {d : Nat} (hd : 2 ≤ d)     {h : Hp} {x0 : Nat} {x1 : Int32}  {r : Int32 × Hp} (E : f_Model_sign_b0   h x0 x1 = some r) : Rn l X mX11_sign d 0 [(0, .ref x0), (1, .int x1)] [] h (eI r) r.2 := by
  unfold f_Model_sign_b0 at E
  refine Rn.aload_n (pc' := 1) dX11_sign_0 rfl 0 rfl rfl ?_
  obtain ⟨g1, E⟩ := gd_of E
  obtain ⟨h3, e4, E⟩ := bV_of E
  refine Rn.callV1 (pc' := 4) (As := []) (rest := []) (f_Model_blanks_ok hst e4) (Nat.le_trans (by decide) hd) rfl kb_X11_102 ki_X11_blanks rfl g1 rfl rfl (Nat.le_of_ble_eq_true rfl) dX11_sign_1 rfl rfl ?_
  refine Rn.aload_n (pc' := 5) dX11_sign_4 rfl 0 rfl rfl ?_
  refine Rn.iload_n (pc' := 6) dX11_sign_5 rfl 1 rfl rfl ?_
  refine Rn.iload_n (pc' := 7) dX11_sign_6 rfl 1 rfl rfl ?_
  obtain ⟨g5, E⟩ := gd_of E
  obtain ⟨v6, h7, e8, E⟩ := bI_of E
  refine Rn.callV1 (pc' := 10) (As := [.int x1, .int x1]) (rest := []) (f_Model_isAt_ok hst e8) (Nat.le_trans (by decide) hd) rfl kb_X11_95 ki_X11_isAt rfl g5 rfl rfl (Nat.le_of_ble_eq_true rfl) dX11_sign_7 rfl rfl ?_
  refine Rn.if_ne (pc' := 13) (tgt := 15) dX11_sign_10 (by decide) rfl (fun c9 => ?_) (fun c9 => ?_)
  · replace E := (if_of E).2 c9
    refine Rn.aload_n (pc' := 16) dX11_sign_15 rfl 0 rfl rfl ?_
    refine Rn.dup (pc' := 17) (hc := rfl) dX11_sign_16 rfl ?_
    obtain ⟨g10, E⟩ := gd_of E
    refine Rn.getI (pc' := 20) fl_X11_89_10 g10 rfl dX11_sign_17 rfl ?_
    refine Rn.iconst (pc' := 21) (v := (1 : Int32)) (hv := by decide) dX11_sign_20 rfl ?_
    refine Rn.iadd (pc' := 22) dX11_sign_21 rfl ?_
    refine Rn.putI (pc' := 25) fl_X11_89_10 (fun q hq => by cases hq; decide) g10 rfl rfl rfl dX11_sign_22 rfl ?_
    replace E := wr_of E
    generalize eh12 : sI h7 x0 10 ((hI h7 x0 10) + (1 : Int32)) = h11 at E ⊢
    refine Rn.iconst (pc' := 26) (v := (1 : Int32)) (hv := by decide) dX11_sign_25 rfl ?_
    cases E
    exact Rn.zret rfl rfl dX11_sign_26
  · replace E := (if_of E).1 c9
    refine Rn.iconst (pc' := 14) (v := (0 : Int32)) (hv := by decide) dX11_sign_13 rfl ?_
    cases E
    exact Rn.zret rfl rfl dX11_sign_14
def f_Model_sign (h : Hp) (x0 : Nat) (x1 : Int32) : Option (Int32 × Hp) := f_Model_sign_b0  h x0 x1
theorem f_Model_sign_ok {l : Launch} {X : Nat × (Nat → Int32)} (hst : l.stackTraces = false) {h : Hp} {x0 : Nat} {x1 : Int32} {r : Int32 × Hp} (E : f_Model_sign h x0 x1 = some r) : MC l X yX11_sign mX11_sign 2 [.ref x0, .int x1] h (eI r) r.2 :=
  MC.body (by decide +kernel) rfl (by decide) hst (Nat.le_of_ble_eq_true rfl) (f_Model_sign_b0_ok hst (Nat.le_refl _) E)
abbrev mX11_emits : MI := (RX11, cX11_emits, 3, none, [], false)
theorem ws_X11_emits : ∀ w ∈ wsM yX11_emits mX11_emits, w ∈ gw := List.forall_mem_cons.mpr ⟨gw_at 1669 (by decide +kernel) (by decide +kernel), fun _ h => h⟩
theorem fl_X11_196_10 : FL RX11 196 10 16 := ⟨_, rfl, by decide, "VintageWaterModel", gw_at 1442 (by decide +kernel) (by decide +kernel), Or.inl rfl⟩
def f_Model_emits_b0   (h : Hp) (x0 : Nat) (x1 : Int32) (x2 : Int32)  : Option (Hp) :=
if hS h x0 = 11 then (
if hS h (hR h x0 1) = 20 then (
if ib ((1491 : Int32) + ((2 : Int32) * (hI h x0 16))) (hL h (hR h x0 1)) = true then (
wr (sI h (hR h x0 1) (ix ((1491 : Int32) + ((2 : Int32) * (hI h x0 16)))) x1) fun h4 =>
if hS h4 (hR h4 x0 1) = 20 then (
if ib (((1491 : Int32) + ((2 : Int32) * (hI h4 x0 16))) + (1 : Int32)) (hL h4 (hR h4 x0 1)) = true then (
wr (sI h4 (hR h4 x0 1) (ix (((1491 : Int32) + ((2 : Int32) * (hI h4 x0 16))) + (1 : Int32))) x2) fun h8 =>
wr (sI h8 x0 16 ((hI h8 x0 16) + (1 : Int32))) fun h10 =>
some h10
) else none) else none) else none) else none) else none
set_option maxRecDepth 20000 in
set_option maxHeartbeats 4000000 in
theorem f_Model_emits_b0_ok {l : Launch} {X : Nat × (Nat → Int32)} (hst : l.stackTraces = false) {d : Nat} (hd : 0 ≤ d)     {h : Hp} {x0 : Nat} {x1 : Int32} {x2 : Int32}  {r : Hp} (E : f_Model_emits_b0   h x0 x1 x2 = some r) : Rn l X mX11_emits d 0 [(0, .ref x0), (1, .int x1), (2, .int x2)] [] h (eV r) r := by
  unfold f_Model_emits_b0 at E
  refine Rn.aload_n (pc' := 1) dX11_emits_0 rfl 0 rfl rfl ?_
  obtain ⟨g1, E⟩ := gd_of E
  refine Rn.getR (pc' := 4) fl_X11_13_10 g1 rfl dX11_emits_1 rfl ?_
  refine Rn.sipush (pc' := 7) (v := (1491 : Int32)) (hv := by decide) dX11_emits_4 rfl ?_
  refine Rn.iconst (pc' := 8) (v := (2 : Int32)) (hv := by decide) dX11_emits_7 rfl ?_
  refine Rn.aload_n (pc' := 9) dX11_emits_8 rfl 0 rfl rfl ?_
  refine Rn.getI (pc' := 12) fl_X11_196_10 g1 rfl dX11_emits_9 rfl ?_
  refine Rn.imul (pc' := 13) dX11_emits_12 rfl ?_
  refine Rn.iadd (pc' := 14) dX11_emits_13 rfl ?_
  refine Rn.iload_n (pc' := 15) dX11_emits_14 rfl 1 rfl rfl ?_
  obtain ⟨g2, E⟩ := gd_of E
  obtain ⟨g3, E⟩ := gd_of E
  refine Rn.iast (pc' := 16) g2 g3 dX11_emits_15 rfl ?_
  replace E := wr_of E
  generalize eh5 : sI h (hR h x0 1) (ix ((1491 : Int32) + ((2 : Int32) * (hI h x0 16)))) x1 = h4 at E ⊢
  refine Rn.aload_n (pc' := 17) dX11_emits_16 rfl 0 rfl rfl ?_
  refine Rn.getR (pc' := 20) fl_X11_13_10 (kp_sI eh5 g1) rfl dX11_emits_17 rfl ?_
  refine Rn.sipush (pc' := 23) (v := (1491 : Int32)) (hv := by decide) dX11_emits_20 rfl ?_
  refine Rn.iconst (pc' := 24) (v := (2 : Int32)) (hv := by decide) dX11_emits_23 rfl ?_
  refine Rn.aload_n (pc' := 25) dX11_emits_24 rfl 0 rfl rfl ?_
  refine Rn.getI (pc' := 28) fl_X11_196_10 (kp_sI eh5 g1) rfl dX11_emits_25 rfl ?_
  refine Rn.imul (pc' := 29) dX11_emits_28 rfl ?_
  refine Rn.iadd (pc' := 30) dX11_emits_29 rfl ?_
  refine Rn.iconst (pc' := 31) (v := (1 : Int32)) (hv := by decide) dX11_emits_30 rfl ?_
  refine Rn.iadd (pc' := 32) dX11_emits_31 rfl ?_
  refine Rn.iload_n (pc' := 33) dX11_emits_32 rfl 2 rfl rfl ?_
  obtain ⟨g6, E⟩ := gd_of E
  obtain ⟨g7, E⟩ := gd_of E
  refine Rn.iast (pc' := 34) g6 g7 dX11_emits_33 rfl ?_
  replace E := wr_of E
  generalize eh9 : sI h4 (hR h4 x0 1) (ix (((1491 : Int32) + ((2 : Int32) * (hI h4 x0 16))) + (1 : Int32))) x2 = h8 at E ⊢
  refine Rn.aload_n (pc' := 35) dX11_emits_34 rfl 0 rfl rfl ?_
  refine Rn.dup (pc' := 36) (hc := rfl) dX11_emits_35 rfl ?_
  refine Rn.getI (pc' := 39) fl_X11_196_10 (kp_sI eh9 (kp_sI eh5 g1)) rfl dX11_emits_36 rfl ?_
  refine Rn.iconst (pc' := 40) (v := (1 : Int32)) (hv := by decide) dX11_emits_39 rfl ?_
  refine Rn.iadd (pc' := 41) dX11_emits_40 rfl ?_
  refine Rn.putI (pc' := 44) fl_X11_196_10 (fun q hq => by cases hq; decide) (kp_sI eh9 (kp_sI eh5 g1)) rfl rfl rfl dX11_emits_41 rfl ?_
  replace E := wr_of E
  generalize eh11 : sI h8 x0 16 ((hI h8 x0 16) + (1 : Int32)) = h10 at E ⊢
  cases E
  exact Rn.vret rfl dX11_emits_44
def f_Model_emits (h : Hp) (x0 : Nat) (x1 : Int32) (x2 : Int32) : Option (Hp) := f_Model_emits_b0  h x0 x1 x2
theorem f_Model_emits_ok {l : Launch} {X : Nat × (Nat → Int32)} (hst : l.stackTraces = false) {h : Hp} {x0 : Nat} {x1 : Int32} {x2 : Int32} {r : Hp} (E : f_Model_emits h x0 x1 x2 = some r) : MC l X yX11_emits mX11_emits 0 [.ref x0, .int x1, .int x2] h (eV r) r :=
  MC.body (by decide +kernel) rfl (by decide) hst (Nat.le_of_ble_eq_true rfl) (f_Model_emits_b0_ok hst (Nat.le_refl _) E)
