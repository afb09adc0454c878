/-! ===== by program out of the bytecode (wip/whole/gen/emit.py) ===== -/
abbrev mX11_tagAt : MI := (RX11, cX11_tagAt, 1, (some Jvm.ClassFile.FieldType.int), [], false)
theorem ws_X11_tagAt : ∀ w ∈ wsM yX11_tagAt mX11_tagAt, w ∈ gw := List.forall_mem_cons.mpr ⟨gw_at 1673 (by decide +kernel) (by decide +kernel), fun _ h => h⟩
def f_Model_tagAt_b0   (h : Hp) (x0 : Nat)  : Option (Int32 × Hp) :=
if hS h x0 = 11 then (
bI (f_Model_isWord h x0 (STR + 23)) fun v2 h3 =>
if v2 = 0 then (
if hS h3 x0 = 11 then (
bI (f_Model_isWord h3 x0 (STR + 24)) fun v7 h8 =>
if v7 = 0 then (
if hS h8 x0 = 11 then (
bI (f_Model_isWord h8 x0 (STR + 25)) fun v12 h13 =>
if v12 = 0 then (
if hS h13 x0 = 11 then (
bI (f_Model_isWord h13 x0 (STR + 42)) fun v17 h18 =>
if v17 = 0 then (
some ((-1 : Int32), h18)

) else (
some ((8 : Int32), h18)

)
) else none
) else (
some ((7 : Int32), h13)

)
) else none
) else (
some ((6 : Int32), h8)

)
) else none
) else (
some ((5 : Int32), h3)

)
) else none
set_option maxRecDepth 20000 in
set_option maxHeartbeats 4000000 in
theorem f_Model_tagAt_b0_ok {l : Launch} {X : Nat × (Nat → Int32)} (hst : l.stackTraces = false) {d : Nat} (hd : 5 ≤ d)     {h : Hp} {x0 : Nat}  {r : Int32 × Hp} (E : f_Model_tagAt_b0   h x0 = some r) : Rn l X mX11_tagAt d 0 [(0, .ref x0)] [] h (eI r) r.2 := by
  unfold f_Model_tagAt_b0 at E
  refine Rn.aload_n (pc' := 1) dX11_tagAt_0 rfl 0 rfl rfl ?_
  refine Rn.ldcS (pc' := 3) (i := 23) rfl dX11_tagAt_1 rfl ?_
  obtain ⟨g1, E⟩ := gd_of E
  obtain ⟨v2, h3, e4, E⟩ := bI_of E
  refine Rn.callV1 (pc' := 6) (As := [.ref (STR + 23)]) (rest := []) (f_Model_isWord_ok hst e4) (Nat.le_trans (by decide) hd) rfl kb_X11_117 ki_X11_isWord rfl g1 rfl rfl (Nat.le_of_ble_eq_true rfl) dX11_tagAt_3 rfl rfl ?_
  refine Rn.if_eq (pc' := 9) (tgt := 13) dX11_tagAt_6 (by decide) rfl (fun c5 => ?_) (fun c5 => ?_)
  · replace E := (if_of E).1 c5
    refine Rn.aload_n (pc' := 14) dX11_tagAt_13 rfl 0 rfl rfl ?_
    refine Rn.ldcS (pc' := 16) (i := 24) rfl dX11_tagAt_14 rfl ?_
    obtain ⟨g6, E⟩ := gd_of E
    obtain ⟨v7, h8, e9, E⟩ := bI_of E
    refine Rn.callV1 (pc' := 19) (As := [.ref (STR + 24)]) (rest := []) (f_Model_isWord_ok hst e9) (Nat.le_trans (by decide) hd) rfl kb_X11_117 ki_X11_isWord rfl g6 rfl rfl (Nat.le_of_ble_eq_true rfl) dX11_tagAt_16 rfl rfl ?_
    refine Rn.if_eq (pc' := 22) (tgt := 27) dX11_tagAt_19 (by decide) rfl (fun c10 => ?_) (fun c10 => ?_)
    · replace E := (if_of E).1 c10
      refine Rn.aload_n (pc' := 28) dX11_tagAt_27 rfl 0 rfl rfl ?_
      refine Rn.ldcS (pc' := 30) (i := 25) rfl dX11_tagAt_28 rfl ?_
      obtain ⟨g11, E⟩ := gd_of E
      obtain ⟨v12, h13, e14, E⟩ := bI_of E
      refine Rn.callV1 (pc' := 33) (As := [.ref (STR + 25)]) (rest := []) (f_Model_isWord_ok hst e14) (Nat.le_trans (by decide) hd) rfl kb_X11_117 ki_X11_isWord rfl g11 rfl rfl (Nat.le_of_ble_eq_true rfl) dX11_tagAt_30 rfl rfl ?_
      refine Rn.if_eq (pc' := 36) (tgt := 41) dX11_tagAt_33 (by decide) rfl (fun c15 => ?_) (fun c15 => ?_)
      · replace E := (if_of E).1 c15
        refine Rn.aload_n (pc' := 42) dX11_tagAt_41 rfl 0 rfl rfl ?_
        refine Rn.ldcS (pc' := 44) (i := 42) rfl dX11_tagAt_42 rfl ?_
        obtain ⟨g16, E⟩ := gd_of E
        obtain ⟨v17, h18, e19, E⟩ := bI_of E
        refine Rn.callV1 (pc' := 47) (As := [.ref (STR + 42)]) (rest := []) (f_Model_isWord_ok hst e19) (Nat.le_trans (by decide) hd) rfl kb_X11_117 ki_X11_isWord rfl g16 rfl rfl (Nat.le_of_ble_eq_true rfl) dX11_tagAt_44 rfl rfl ?_
        refine Rn.if_eq (pc' := 50) (tgt := 55) dX11_tagAt_47 (by decide) rfl (fun c20 => ?_) (fun c20 => ?_)
        · replace E := (if_of E).1 c20
          refine Rn.iconst (pc' := 56) (v := (-1 : Int32)) (hv := by decide) dX11_tagAt_55 rfl ?_
          cases E
          exact Rn.zret rfl rfl dX11_tagAt_56
        · replace E := (if_of E).2 c20
          refine Rn.bipush (pc' := 52) (v := (8 : Int32)) (hv := by decide) dX11_tagAt_50 rfl ?_
          refine Rn.goto (pc' := 56) dX11_tagAt_52 (by decide) ?_
          cases E
          exact Rn.zret rfl rfl dX11_tagAt_56
      · replace E := (if_of E).2 c15
        refine Rn.bipush (pc' := 38) (v := (7 : Int32)) (hv := by decide) dX11_tagAt_36 rfl ?_
        refine Rn.goto (pc' := 56) dX11_tagAt_38 (by decide) ?_
        cases E
        exact Rn.zret rfl rfl dX11_tagAt_56
    · replace E := (if_of E).2 c10
      refine Rn.bipush (pc' := 24) (v := (6 : Int32)) (hv := by decide) dX11_tagAt_22 rfl ?_
      refine Rn.goto (pc' := 56) dX11_tagAt_24 (by decide) ?_
      cases E
      exact Rn.zret rfl rfl dX11_tagAt_56
  · replace E := (if_of E).2 c5
    refine Rn.iconst (pc' := 10) (v := (5 : Int32)) (hv := by decide) dX11_tagAt_9 rfl ?_
    refine Rn.goto (pc' := 56) dX11_tagAt_10 (by decide) ?_
    cases E
    exact Rn.zret rfl rfl dX11_tagAt_56
def f_Model_tagAt (h : Hp) (x0 : Nat) : Option (Int32 × Hp) := f_Model_tagAt_b0  h x0
theorem f_Model_tagAt_ok {l : Launch} {X : Nat × (Nat → Int32)} (hst : l.stackTraces = false) {h : Hp} {x0 : Nat} {r : Int32 × Hp} (E : f_Model_tagAt h x0 = some r) : MC l X yX11_tagAt mX11_tagAt 5 [.ref x0] h (eI r) r.2 :=
  MC.body (by decide +kernel) rfl (by decide) hst (Nat.le_of_ble_eq_true rfl) (f_Model_tagAt_b0_ok hst (Nat.le_refl _) E)
abbrev mX11_readPart : MI := (RX11, cX11_readPart, 2, (some Jvm.ClassFile.FieldType.boolean), [], false)
theorem ws_X11_readPart : ∀ w ∈ wsM yX11_readPart mX11_readPart, w ∈ gw := List.forall_mem_cons.mpr ⟨gw_at 1682 (by decide +kernel) (by decide +kernel), fun _ h => h⟩
def f_Model_readPart_b107   (h : Hp) (x1 : Int32)  : Option (Int32 × Hp) :=
if x1 < 0 then (
some ((0 : Int32), h)

) else (
some ((1 : Int32), h)

)

set_option maxRecDepth 20000 in
set_option maxHeartbeats 4000000 in
theorem f_Model_readPart_b107_ok {l : Launch} {X : Nat × (Nat → Int32)} (hst : l.stackTraces = false) {d : Nat} (hd : 5 ≤ d)     {h : Hp} {x1 : Int32}  {r : Int32 × Hp} (E : f_Model_readPart_b107   h x1 = some r) : Rn l X mX11_readPart d 107 [(1, .int x1)] [] h (eI r) r.2 := by
  unfold f_Model_readPart_b107 at E
  refine Rn.iload_n (pc' := 108) dX11_readPart_107 rfl 0 rfl rfl ?_
  refine Rn.if_lt (pc' := 111) (tgt := 115) dX11_readPart_108 (by decide) rfl (fun c1 => ?_) (fun c1 => ?_)
  · replace E := (if_of E).1 c1
    refine Rn.iconst (pc' := 116) (v := (0 : Int32)) (hv := by decide) dX11_readPart_115 rfl ?_
    cases E
    exact Rn.zret rfl rfl dX11_readPart_116
  · replace E := (if_of E).2 c1
    refine Rn.iconst (pc' := 112) (v := (1 : Int32)) (hv := by decide) dX11_readPart_111 rfl ?_
    refine Rn.goto (pc' := 116) dX11_readPart_112 (by decide) ?_
    cases E
    exact Rn.zret rfl rfl dX11_readPart_116
theorem kb_X11_199 : KB RX11 199 yX11_emits mX11_emits 2 := ⟨gw_at 1666 (by decide +kernel) (by decide +kernel), gw_at 117 (by decide +kernel) (by decide +kernel), trivial, ws_X11_emits, by decide +kernel, by decide +kernel, by decide +kernel, by decide⟩
theorem ki_X11_emits : Cond.instanceMethod yX11_emits ∈ gw ∧ Cond.selects yX11_emits.cls yX11_emits yX11_emits ∈ gw := ⟨gw_at 1668 (by decide +kernel) (by decide +kernel), gw_at 73 (by decide +kernel) (by decide +kernel)⟩
def f_Model_readPart_b100   (h : Hp) (x0 : Nat) (s0 : Int32) : Option (Int32 × Hp) :=
if hS h x0 = 11 then (
bV (f_Model_emits h x0 s0 (0 : Int32)) fun h3 =>
f_Model_readPart_b107   h3 s0
) else none
set_option maxRecDepth 20000 in
set_option maxHeartbeats 4000000 in
theorem f_Model_readPart_b100_ok {l : Launch} {X : Nat × (Nat → Int32)} (hst : l.stackTraces = false) {d : Nat} (hd : 5 ≤ d)     {h : Hp} {x0 : Nat} {s0 : Int32} {r : Int32 × Hp} (E : f_Model_readPart_b100   h x0 s0 = some r) : Rn l X mX11_readPart d 100 [(0, .ref x0)] [.int s0] h (eI r) r.2 := by
  unfold f_Model_readPart_b100 at E
  refine Rn.istore_n (pc' := 101) (L' := [(1, .int s0), (0, .ref x0)]) dX11_readPart_100 rfl (by decide) rfl rfl ?_
  refine Rn.aload_n (pc' := 102) dX11_readPart_101 rfl 1 rfl rfl ?_
  refine Rn.iload_n (pc' := 103) dX11_readPart_102 rfl 0 rfl rfl ?_
  refine Rn.iconst (pc' := 104) (v := (0 : Int32)) (hv := by decide) dX11_readPart_103 rfl ?_
  obtain ⟨g1, E⟩ := gd_of E
  obtain ⟨h3, e4, E⟩ := bV_of E
  refine Rn.callV1 (pc' := 107) (As := [.int s0, .int (0 : Int32)]) (rest := []) (f_Model_emits_ok hst e4) (Nat.le_trans (by decide) hd) rfl kb_X11_199 ki_X11_emits rfl g1 rfl rfl (Nat.le_of_ble_eq_true rfl) dX11_readPart_104 rfl rfl ?_
  refine Rn.sub [0] rfl ?_
  exact f_Model_readPart_b107_ok hst hd   E
def f_Model_readPart_b0   (h : Hp) (x0 : Nat)  : Option (Int32 × Hp) :=
if hS h x0 = 11 then (
bV (f_Model_letters h x0) fun h3 =>
if hS h3 x0 = 11 then (
if (hI h3 x0 10) = (hI h3 x0 12) then (
bI (f_Model_number h3 x0 (0 : Int32) (999 : Int32)) fun v7 h8 =>
if hS h8 x0 = 11 then (
bV (f_Model_emits h8 x0 (9 : Int32) v7) fun h12 =>
f_Model_readPart_b107   h12 v7
) else none
) else (
bI (f_Model_isWord h3 x0 (STR + 43)) fun v14 h15 =>
if v14 = 0 then (
if hS h15 x0 = 11 then (
bI (f_Model_isWord h15 x0 (STR + 44)) fun v19 h20 =>
if v19 = 0 then (
if hS h20 x0 = 11 then (
bI (f_Model_isWord h20 x0 (STR + 29)) fun v24 h25 =>
if v24 = 0 then (
if hS h25 x0 = 11 then (
bI (f_Model_isWord h25 x0 (STR + 45)) fun v29 h30 =>
if v29 = 0 then (
if hS h30 x0 = 11 then (
bI (f_Model_isWord h30 x0 (STR + 46)) fun v34 h35 =>
if v34 = 0 then (
f_Model_readPart_b100   h35 x0 (-1 : Int32)

) else (
f_Model_readPart_b100   h35 x0 (4 : Int32)

)
) else none
) else (
f_Model_readPart_b100   h30 x0 (3 : Int32)

)
) else none
) else (
f_Model_readPart_b100   h25 x0 (2 : Int32)

)
) else none
) else (
f_Model_readPart_b100   h20 x0 (1 : Int32)

)
) else none
) else (
f_Model_readPart_b100   h15 x0 (0 : Int32)

)

)
) else none) else none
set_option maxRecDepth 20000 in
set_option maxHeartbeats 4000000 in
theorem f_Model_readPart_b0_ok {l : Launch} {X : Nat × (Nat → Int32)} (hst : l.stackTraces = false) {d : Nat} (hd : 5 ≤ d)     {h : Hp} {x0 : Nat}  {r : Int32 × Hp} (E : f_Model_readPart_b0   h x0 = some r) : Rn l X mX11_readPart d 0 [(0, .ref x0)] [] h (eI r) r.2 := by
  unfold f_Model_readPart_b0 at E
  refine Rn.aload_n (pc' := 1) dX11_readPart_0 rfl 0 rfl rfl ?_
  obtain ⟨g1, E⟩ := gd_of E
  obtain ⟨h3, e4, E⟩ := bV_of E
  refine Rn.callV1 (pc' := 4) (As := []) (rest := []) (f_Model_letters_ok hst e4) (Nat.le_trans (by decide) hd) rfl kb_X11_114 ki_X11_letters rfl g1 rfl rfl (Nat.le_of_ble_eq_true rfl) dX11_readPart_1 rfl rfl ?_
  refine Rn.aload_n (pc' := 5) dX11_readPart_4 rfl 0 rfl rfl ?_
  obtain ⟨g5, E⟩ := gd_of E
  refine Rn.getI (pc' := 8) fl_X11_89_10 g5 rfl dX11_readPart_5 rfl ?_
  refine Rn.aload_n (pc' := 9) dX11_readPart_8 rfl 0 rfl rfl ?_
  refine Rn.getI (pc' := 12) fl_X11_99_10 g5 rfl dX11_readPart_9 rfl ?_
  refine Rn.icmp_ne (pc' := 15) (tgt := 34) dX11_readPart_12 (by decide) rfl (fun c6 => ?_) (fun c6 => ?_)
  · replace E := (if_of E).2 c6
    refine Rn.aload_n (pc' := 35) dX11_readPart_34 rfl 0 rfl rfl ?_
    refine Rn.ldcS (pc' := 37) (i := 43) rfl dX11_readPart_35 rfl ?_
    obtain ⟨v14, h15, e16, E⟩ := bI_of E
    refine Rn.callV1 (pc' := 40) (As := [.ref (STR + 43)]) (rest := []) (f_Model_isWord_ok hst e16) (Nat.le_trans (by decide) hd) rfl kb_X11_117 ki_X11_isWord rfl g5 rfl rfl (Nat.le_of_ble_eq_true rfl) dX11_readPart_37 rfl rfl ?_
    refine Rn.if_eq (pc' := 43) (tgt := 47) dX11_readPart_40 (by decide) rfl (fun c17 => ?_) (fun c17 => ?_)
    · replace E := (if_of E).1 c17
      refine Rn.aload_n (pc' := 48) dX11_readPart_47 rfl 0 rfl rfl ?_
      refine Rn.ldcS (pc' := 50) (i := 44) rfl dX11_readPart_48 rfl ?_
      obtain ⟨g18, E⟩ := gd_of E
      obtain ⟨v19, h20, e21, E⟩ := bI_of E
      refine Rn.callV1 (pc' := 53) (As := [.ref (STR + 44)]) (rest := []) (f_Model_isWord_ok hst e21) (Nat.le_trans (by decide) hd) rfl kb_X11_117 ki_X11_isWord rfl g18 rfl rfl (Nat.le_of_ble_eq_true rfl) dX11_readPart_50 rfl rfl ?_
      refine Rn.if_eq (pc' := 56) (tgt := 60) dX11_readPart_53 (by decide) rfl (fun c22 => ?_) (fun c22 => ?_)
      · replace E := (if_of E).1 c22
        refine Rn.aload_n (pc' := 61) dX11_readPart_60 rfl 0 rfl rfl ?_
        refine Rn.ldcS (pc' := 63) (i := 29) rfl dX11_readPart_61 rfl ?_
        obtain ⟨g23, E⟩ := gd_of E
        obtain ⟨v24, h25, e26, E⟩ := bI_of E
        refine Rn.callV1 (pc' := 66) (As := [.ref (STR + 29)]) (rest := []) (f_Model_isWord_ok hst e26) (Nat.le_trans (by decide) hd) rfl kb_X11_117 ki_X11_isWord rfl g23 rfl rfl (Nat.le_of_ble_eq_true rfl) dX11_readPart_63 rfl rfl ?_
        refine Rn.if_eq (pc' := 69) (tgt := 73) dX11_readPart_66 (by decide) rfl (fun c27 => ?_) (fun c27 => ?_)
        · replace E := (if_of E).1 c27
          refine Rn.aload_n (pc' := 74) dX11_readPart_73 rfl 0 rfl rfl ?_
          refine Rn.ldcS (pc' := 76) (i := 45) rfl dX11_readPart_74 rfl ?_
          obtain ⟨g28, E⟩ := gd_of E
          obtain ⟨v29, h30, e31, E⟩ := bI_of E
          refine Rn.callV1 (pc' := 79) (As := [.ref (STR + 45)]) (rest := []) (f_Model_isWord_ok hst e31) (Nat.le_trans (by decide) hd) rfl kb_X11_117 ki_X11_isWord rfl g28 rfl rfl (Nat.le_of_ble_eq_true rfl) dX11_readPart_76 rfl rfl ?_
          refine Rn.if_eq (pc' := 82) (tgt := 86) dX11_readPart_79 (by decide) rfl (fun c32 => ?_) (fun c32 => ?_)
          · replace E := (if_of E).1 c32
            refine Rn.aload_n (pc' := 87) dX11_readPart_86 rfl 0 rfl rfl ?_
            refine Rn.ldcS (pc' := 89) (i := 46) rfl dX11_readPart_87 rfl ?_
            obtain ⟨g33, E⟩ := gd_of E
            obtain ⟨v34, h35, e36, E⟩ := bI_of E
            refine Rn.callV1 (pc' := 92) (As := [.ref (STR + 46)]) (rest := []) (f_Model_isWord_ok hst e36) (Nat.le_trans (by decide) hd) rfl kb_X11_117 ki_X11_isWord rfl g33 rfl rfl (Nat.le_of_ble_eq_true rfl) dX11_readPart_89 rfl rfl ?_
            refine Rn.if_eq (pc' := 95) (tgt := 99) dX11_readPart_92 (by decide) rfl (fun c37 => ?_) (fun c37 => ?_)
            · replace E := (if_of E).1 c37
              refine Rn.iconst (pc' := 100) (v := (-1 : Int32)) (hv := by decide) dX11_readPart_99 rfl ?_
              exact f_Model_readPart_b100_ok hst hd   E
            · replace E := (if_of E).2 c37
              refine Rn.iconst (pc' := 96) (v := (4 : Int32)) (hv := by decide) dX11_readPart_95 rfl ?_
              refine Rn.goto (pc' := 100) dX11_readPart_96 (by decide) ?_
              exact f_Model_readPart_b100_ok hst hd   E
          · replace E := (if_of E).2 c32
            refine Rn.iconst (pc' := 83) (v := (3 : Int32)) (hv := by decide) dX11_readPart_82 rfl ?_
            refine Rn.goto (pc' := 100) dX11_readPart_83 (by decide) ?_
            exact f_Model_readPart_b100_ok hst hd   E
        · replace E := (if_of E).2 c27
          refine Rn.iconst (pc' := 70) (v := (2 : Int32)) (hv := by decide) dX11_readPart_69 rfl ?_
          refine Rn.goto (pc' := 100) dX11_readPart_70 (by decide) ?_
          exact f_Model_readPart_b100_ok hst hd   E
      · replace E := (if_of E).2 c22
        refine Rn.iconst (pc' := 57) (v := (1 : Int32)) (hv := by decide) dX11_readPart_56 rfl ?_
        refine Rn.goto (pc' := 100) dX11_readPart_57 (by decide) ?_
        exact f_Model_readPart_b100_ok hst hd   E
    · replace E := (if_of E).2 c17
      refine Rn.iconst (pc' := 44) (v := (0 : Int32)) (hv := by decide) dX11_readPart_43 rfl ?_
      refine Rn.goto (pc' := 100) dX11_readPart_44 (by decide) ?_
      exact f_Model_readPart_b100_ok hst hd   E
  · replace E := (if_of E).1 c6
    refine Rn.aload_n (pc' := 16) dX11_readPart_15 rfl 0 rfl rfl ?_
    refine Rn.iconst (pc' := 17) (v := (0 : Int32)) (hv := by decide) dX11_readPart_16 rfl ?_
    refine Rn.sipush (pc' := 20) (v := (999 : Int32)) (hv := by decide) dX11_readPart_17 rfl ?_
    obtain ⟨v7, h8, e9, E⟩ := bI_of E
    refine Rn.callV1 (pc' := 23) (As := [.int (0 : Int32), .int (999 : Int32)]) (rest := []) (f_Model_number_ok hst e9) (Nat.le_trans (by decide) hd) rfl kb_X11_121 ki_X11_number rfl g5 rfl rfl (Nat.le_of_ble_eq_true rfl) dX11_readPart_20 rfl rfl ?_
    refine Rn.istore_n (pc' := 24) (L' := [(1, .int v7), (0, .ref x0)]) dX11_readPart_23 rfl (by decide) rfl rfl ?_
    refine Rn.aload_n (pc' := 25) dX11_readPart_24 rfl 1 rfl rfl ?_
    refine Rn.bipush (pc' := 27) (v := (9 : Int32)) (hv := by decide) dX11_readPart_25 rfl ?_
    refine Rn.iload_n (pc' := 28) dX11_readPart_27 rfl 0 rfl rfl ?_
    obtain ⟨g10, E⟩ := gd_of E
    obtain ⟨h12, e13, E⟩ := bV_of E
    refine Rn.callV1 (pc' := 31) (As := [.int (9 : Int32), .int v7]) (rest := []) (f_Model_emits_ok hst e13) (Nat.le_trans (by decide) hd) rfl kb_X11_199 ki_X11_emits rfl g10 rfl rfl (Nat.le_of_ble_eq_true rfl) dX11_readPart_28 rfl rfl ?_
    refine Rn.goto (pc' := 107) dX11_readPart_31 (by decide) ?_
    refine Rn.sub [0] rfl ?_
    exact f_Model_readPart_b107_ok hst hd   E
def f_Model_readPart (h : Hp) (x0 : Nat) : Option (Int32 × Hp) := f_Model_readPart_b0  h x0
theorem f_Model_readPart_ok {l : Launch} {X : Nat × (Nat → Int32)} (hst : l.stackTraces = false) {h : Hp} {x0 : Nat} {r : Int32 × Hp} (E : f_Model_readPart h x0 = some r) : MC l X yX11_readPart mX11_readPart 5 [.ref x0] h (eI r) r.2 :=
  MC.body (by decide +kernel) rfl (by decide) hst (Nat.le_of_ble_eq_true rfl) (f_Model_readPart_b0_ok hst (Nat.le_refl _) E)
abbrev mX11_readSum : MI := (RX11, cX11_readSum, 1, (some Jvm.ClassFile.FieldType.boolean), [], false)
theorem ws_X11_readSum : ∀ w ∈ wsM yX11_readSum mX11_readSum, w ∈ gw := List.forall_mem_cons.mpr ⟨gw_at 1678 (by decide +kernel) (by decide +kernel), fun _ h => h⟩
theorem kb_X11_213 : KB RX11 213 yX11_sign mX11_sign 1 := ⟨gw_at 1661 (by decide +kernel) (by decide +kernel), gw_at 117 (by decide +kernel) (by decide +kernel), trivial, ws_X11_sign, by decide +kernel, by decide +kernel, by decide +kernel, by decide⟩
theorem ki_X11_sign : Cond.instanceMethod yX11_sign ∈ gw ∧ Cond.selects yX11_sign.cls yX11_sign yX11_sign ∈ gw := ⟨gw_at 1663 (by decide +kernel) (by decide +kernel), gw_at 72 (by decide +kernel) (by decide +kernel)⟩
theorem kb_X11_210 : KB RX11 210 yX11_readPart mX11_readPart 0 := ⟨gw_at 1679 (by decide +kernel) (by decide +kernel), gw_at 117 (by decide +kernel) (by decide +kernel), trivial, ws_X11_readPart, by decide +kernel, by decide +kernel, by decide +kernel, by decide⟩
theorem ki_X11_readPart : Cond.instanceMethod yX11_readPart ∈ gw ∧ Cond.selects yX11_readPart.cls yX11_readPart yX11_readPart ∈ gw := ⟨gw_at 1681 (by decide +kernel) (by decide +kernel), gw_at 76 (by decide +kernel) (by decide +kernel)⟩
def f_Model_readSum_b9  (k9 : Hp → Nat → Option (Int32 × Hp)) (h : Hp) (x0 : Nat)  : Option (Int32 × Hp) :=
if hS h x0 = 11 then (
bI (f_Model_sign h x0 (43 : Int32)) fun v2 h3 =>
if v2 = 0 then (
some ((1 : Int32), h3)

) else (
if hS h3 x0 = 11 then (
bI (f_Model_readPart h3 x0) fun v7 h8 =>
if v7 = 0 then (
some ((0 : Int32), h8)

) else (
if hS h8 x0 = 11 then (
bV (f_Model_emits h8 x0 (10 : Int32) (0 : Int32)) fun h13 =>
k9 h13 x0
) else none
)
) else none
)
) else none
set_option maxRecDepth 20000 in
set_option maxHeartbeats 4000000 in
theorem f_Model_readSum_b9_ok {l : Launch} {X : Nat × (Nat → Int32)} (hst : l.stackTraces = false) {d : Nat} (hd : 6 ≤ d)   {k9 : Hp → Nat → Option (Int32 × Hp)} (hk9 : ∀ (h : Hp) (x0 : Nat)  (r : Int32 × Hp), k9 h x0 = some r → Rn l X mX11_readSum d 9 [(0, .ref x0)] [] h (eI r) r.2) {h : Hp} {x0 : Nat}  {r : Int32 × Hp} (E : f_Model_readSum_b9  k9 h x0 = some r) : Rn l X mX11_readSum d 9 [(0, .ref x0)] [] h (eI r) r.2 := by
  unfold f_Model_readSum_b9 at E
  refine Rn.aload_n (pc' := 10) dX11_readSum_9 rfl 0 rfl rfl ?_
  refine Rn.bipush (pc' := 12) (v := (43 : Int32)) (hv := by decide) dX11_readSum_10 rfl ?_
  obtain ⟨g1, E⟩ := gd_of E
  obtain ⟨v2, h3, e4, E⟩ := bI_of E
  refine Rn.callV1 (pc' := 15) (As := [.int (43 : Int32)]) (rest := []) (f_Model_sign_ok hst e4) (Nat.le_trans (by decide) hd) rfl kb_X11_213 ki_X11_sign rfl g1 rfl rfl (Nat.le_of_ble_eq_true rfl) dX11_readSum_12 rfl rfl ?_
  refine Rn.if_eq (pc' := 18) (tgt := 37) dX11_readSum_15 (by decide) rfl (fun c5 => ?_) (fun c5 => ?_)
  · replace E := (if_of E).1 c5
    refine Rn.iconst (pc' := 38) (v := (1 : Int32)) (hv := by decide) dX11_readSum_37 rfl ?_
    cases E
    exact Rn.zret rfl rfl dX11_readSum_38
  · replace E := (if_of E).2 c5
    refine Rn.aload_n (pc' := 19) dX11_readSum_18 rfl 0 rfl rfl ?_
    obtain ⟨g6, E⟩ := gd_of E
    obtain ⟨v7, h8, e9, E⟩ := bI_of E
    refine Rn.callV1 (pc' := 22) (As := []) (rest := []) (f_Model_readPart_ok hst e9) (Nat.le_trans (by decide) hd) rfl kb_X11_210 ki_X11_readPart rfl g6 rfl rfl (Nat.le_of_ble_eq_true rfl) dX11_readSum_19 rfl rfl ?_
    refine Rn.if_ne (pc' := 25) (tgt := 27) dX11_readSum_22 (by decide) rfl (fun c10 => ?_) (fun c10 => ?_)
    · replace E := (if_of E).2 c10
      refine Rn.aload_n (pc' := 28) dX11_readSum_27 rfl 0 rfl rfl ?_
      refine Rn.bipush (pc' := 30) (v := (10 : Int32)) (hv := by decide) dX11_readSum_28 rfl ?_
      refine Rn.iconst (pc' := 31) (v := (0 : Int32)) (hv := by decide) dX11_readSum_30 rfl ?_
      obtain ⟨g11, E⟩ := gd_of E
      obtain ⟨h13, e14, E⟩ := bV_of E
      refine Rn.callV1 (pc' := 34) (As := [.int (10 : Int32), .int (0 : Int32)]) (rest := []) (f_Model_emits_ok hst e14) (Nat.le_trans (by decide) hd) rfl kb_X11_199 ki_X11_emits rfl g11 rfl rfl (Nat.le_of_ble_eq_true rfl) dX11_readSum_31 rfl rfl ?_
      refine Rn.goto (pc' := 9) dX11_readSum_34 (by decide) ?_
      exact hk9 _ _ _ E
    · replace E := (if_of E).1 c10
      refine Rn.iconst (pc' := 26) (v := (0 : Int32)) (hv := by decide) dX11_readSum_25 rfl ?_
      cases E
      exact Rn.zret rfl rfl dX11_readSum_26
def f_Model_readSum_L9   (n : Nat) : Hp → Nat → Option (Int32 × Hp) := Nat.rec (motive := fun _ => Hp → Nat → Option (Int32 × Hp)) (fun _ _ => none) (fun _ rec => f_Model_readSum_b9   rec) n
theorem f_Model_readSum_L9_ok {l : Launch} {X : Nat × (Nat → Int32)} (hst : l.stackTraces = false) {d : Nat} (hd : 6 ≤ d)     : ∀ (n : Nat) (h : Hp) (x0 : Nat)  (r : Int32 × Hp), f_Model_readSum_L9   n h x0 = some r → Rn l X mX11_readSum d 9 [(0, .ref x0)] [] h (eI r) r.2 := by
  intro n
  induction n with
  | zero => intro h x0 r E; cases E
  | succ n ih => intro h x0 r E; exact f_Model_readSum_b9_ok hst hd   ih E
def f_Model_readSum_b0   (h : Hp) (x0 : Nat)  : Option (Int32 × Hp) :=
if hS h x0 = 11 then (
bI (f_Model_readPart h x0) fun v2 h3 =>
if v2 = 0 then (
some ((0 : Int32), h3)

) else (
f_Model_readSum_L9   FU h3 x0

)
) else none
set_option maxRecDepth 20000 in
set_option maxHeartbeats 4000000 in
theorem f_Model_readSum_b0_ok {l : Launch} {X : Nat × (Nat → Int32)} (hst : l.stackTraces = false) {d : Nat} (hd : 6 ≤ d)     {h : Hp} {x0 : Nat}  {r : Int32 × Hp} (E : f_Model_readSum_b0   h x0 = some r) : Rn l X mX11_readSum d 0 [(0, .ref x0)] [] h (eI r) r.2 := by
  unfold f_Model_readSum_b0 at E
  refine Rn.aload_n (pc' := 1) dX11_readSum_0 rfl 0 rfl rfl ?_
  obtain ⟨g1, E⟩ := gd_of E
  obtain ⟨v2, h3, e4, E⟩ := bI_of E
  refine Rn.callV1 (pc' := 4) (As := []) (rest := []) (f_Model_readPart_ok hst e4) (Nat.le_trans (by decide) hd) rfl kb_X11_210 ki_X11_readPart rfl g1 rfl rfl (Nat.le_of_ble_eq_true rfl) dX11_readSum_1 rfl rfl ?_
  refine Rn.if_ne (pc' := 7) (tgt := 9) dX11_readSum_4 (by decide) rfl (fun c5 => ?_) (fun c5 => ?_)
  · replace E := (if_of E).2 c5
    exact f_Model_readSum_L9_ok hst hd   FU _ _ _ E
  · replace E := (if_of E).1 c5
    refine Rn.iconst (pc' := 8) (v := (0 : Int32)) (hv := by decide) dX11_readSum_7 rfl ?_
    cases E
    exact Rn.zret rfl rfl dX11_readSum_8
def f_Model_readSum (h : Hp) (x0 : Nat) : Option (Int32 × Hp) := f_Model_readSum_b0  h x0
theorem f_Model_readSum_ok {l : Launch} {X : Nat × (Nat → Int32)} (hst : l.stackTraces = false) {h : Hp} {x0 : Nat} {r : Int32 × Hp} (E : f_Model_readSum h x0 = some r) : MC l X yX11_readSum mX11_readSum 6 [.ref x0] h (eI r) r.2 :=
  MC.body (by decide +kernel) rfl (by decide) hst (Nat.le_of_ble_eq_true rfl) (f_Model_readSum_b0_ok hst (Nat.le_refl _) E)
abbrev mX11_readAtom : MI := (RX11, cX11_readAtom, 3, (some Jvm.ClassFile.FieldType.boolean), [], false)
theorem ws_X11_readAtom : ∀ w ∈ wsM yX11_readAtom mX11_readAtom, w ∈ gw := List.forall_mem_cons.mpr ⟨gw_at 1660 (by decide +kernel) (by decide +kernel), fun _ h => h⟩
abbrev mX11_readAllOf : MI := (RX11, cX11_readAllOf, 1, (some Jvm.ClassFile.FieldType.boolean), [], false)
theorem ws_X11_readAllOf : ∀ w ∈ wsM yX11_readAllOf mX11_readAllOf, w ∈ gw := List.forall_mem_cons.mpr ⟨gw_at 1656 (by decide +kernel) (by decide +kernel), fun _ h => h⟩
abbrev mX11_readCond : MI := (RX11, cX11_readCond, 1, (some Jvm.ClassFile.FieldType.boolean), [], false)
theorem ws_X11_readCond : ∀ w ∈ wsM yX11_readCond mX11_readCond, w ∈ gw := List.forall_mem_cons.mpr ⟨gw_at 1652 (by decide +kernel) (by decide +kernel), fun _ h => h⟩
def f_Model_readAtom_b193 (q_X11_readCond : Hp → Nat → Option (Int32 × Hp)) (q_X11_readAtom : Hp → Nat → Option (Int32 × Hp))  (h : Hp)  (s0 : Nat) (s1 : Int32) : Option (Int32 × Hp) :=
if hS h s0 = 11 then (
bV (f_Model_emits h s0 s1 (0 : Int32)) fun h3 =>
some ((1 : Int32), h3)
) else none
set_option maxRecDepth 20000 in
set_option maxHeartbeats 4000000 in
theorem f_Model_readAtom_b193_ok {l : Launch} {X : Nat × (Nat → Int32)} (hst : l.stackTraces = false) {d : Nat} (hd : 7 ≤ d) {q_X11_readCond : Hp → Nat → Option (Int32 × Hp)} {q_X11_readAtom : Hp → Nat → Option (Int32 × Hp)} {dq : Nat} (hdq : dq + 1 ≤ d) (hq_X11_readCond : ∀ (h : Hp) (x0 : Nat) (r : Int32 × Hp), q_X11_readCond h x0 = some r → MC l X yX11_readCond mX11_readCond dq [.ref x0] h (eI r) r.2) (hq_X11_readAtom : ∀ (h : Hp) (x0 : Nat) (r : Int32 × Hp), q_X11_readAtom h x0 = some r → MC l X yX11_readAtom mX11_readAtom dq [.ref x0] h (eI r) r.2)   {h : Hp}  {s0 : Nat} {s1 : Int32} {r : Int32 × Hp} (E : f_Model_readAtom_b193 q_X11_readCond q_X11_readAtom  h s0 s1 = some r) : Rn l X mX11_readAtom d 193 [] [.int s1, .ref s0] h (eI r) r.2 := by
  unfold f_Model_readAtom_b193 at E
  refine Rn.iconst (pc' := 194) (v := (0 : Int32)) (hv := by decide) dX11_readAtom_193 rfl ?_
  obtain ⟨g1, E⟩ := gd_of E
  obtain ⟨h3, e4, E⟩ := bV_of E
  refine Rn.callV1 (pc' := 197) (As := [.int s1, .int (0 : Int32)]) (rest := []) (f_Model_emits_ok hst e4) (Nat.le_trans (by decide) hd) rfl kb_X11_199 ki_X11_emits rfl g1 rfl rfl (Nat.le_of_ble_eq_true rfl) dX11_readAtom_194 rfl rfl ?_
  refine Rn.iconst (pc' := 198) (v := (1 : Int32)) (hv := by decide) dX11_readAtom_197 rfl ?_
  cases E
  exact Rn.zret rfl rfl dX11_readAtom_198
theorem kb_X11_232 : KB RX11 232 yX11_readSum mX11_readSum 0 := ⟨gw_at 1675 (by decide +kernel) (by decide +kernel), gw_at 117 (by decide +kernel) (by decide +kernel), trivial, ws_X11_readSum, by decide +kernel, by decide +kernel, by decide +kernel, by decide⟩
theorem ki_X11_readSum : Cond.instanceMethod yX11_readSum ∈ gw ∧ Cond.selects yX11_readSum.cls yX11_readSum yX11_readSum ∈ gw := ⟨gw_at 1677 (by decide +kernel) (by decide +kernel), gw_at 75 (by decide +kernel) (by decide +kernel)⟩
def f_Model_readAtom_b172 (q_X11_readCond : Hp → Nat → Option (Int32 × Hp)) (q_X11_readAtom : Hp → Nat → Option (Int32 × Hp))  (h : Hp) (x0 : Nat) (x2 : Int32)  : Option (Int32 × Hp) :=
if hS h x0 = 11 then (
bI (f_Model_readSum h x0) fun v2 h3 =>
if v2 = 0 then (
some ((0 : Int32), h3)

) else (
if x2 = 0 then (
f_Model_readAtom_b193 q_X11_readCond q_X11_readAtom  h3 x0 (12 : Int32)

) else (
f_Model_readAtom_b193 q_X11_readCond q_X11_readAtom  h3 x0 (11 : Int32)

)

)
) else none
set_option maxRecDepth 20000 in
set_option maxHeartbeats 4000000 in
theorem f_Model_readAtom_b172_ok {l : Launch} {X : Nat × (Nat → Int32)} (hst : l.stackTraces = false) {d : Nat} (hd : 7 ≤ d) {q_X11_readCond : Hp → Nat → Option (Int32 × Hp)} {q_X11_readAtom : Hp → Nat → Option (Int32 × Hp)} {dq : Nat} (hdq : dq + 1 ≤ d) (hq_X11_readCond : ∀ (h : Hp) (x0 : Nat) (r : Int32 × Hp), q_X11_readCond h x0 = some r → MC l X yX11_readCond mX11_readCond dq [.ref x0] h (eI r) r.2) (hq_X11_readAtom : ∀ (h : Hp) (x0 : Nat) (r : Int32 × Hp), q_X11_readAtom h x0 = some r → MC l X yX11_readAtom mX11_readAtom dq [.ref x0] h (eI r) r.2)   {h : Hp} {x0 : Nat} {x2 : Int32}  {r : Int32 × Hp} (E : f_Model_readAtom_b172 q_X11_readCond q_X11_readAtom  h x0 x2 = some r) : Rn l X mX11_readAtom d 172 [(0, .ref x0), (2, .int x2)] [] h (eI r) r.2 := by
  unfold f_Model_readAtom_b172 at E
  refine Rn.aload_n (pc' := 173) dX11_readAtom_172 rfl 0 rfl rfl ?_
  obtain ⟨g1, E⟩ := gd_of E
  obtain ⟨v2, h3, e4, E⟩ := bI_of E
  refine Rn.callV1 (pc' := 176) (As := []) (rest := []) (f_Model_readSum_ok hst e4) (Nat.le_trans (by decide) hd) rfl kb_X11_232 ki_X11_readSum rfl g1 rfl rfl (Nat.le_of_ble_eq_true rfl) dX11_readAtom_173 rfl rfl ?_
  refine Rn.if_ne (pc' := 179) (tgt := 181) dX11_readAtom_176 (by decide) rfl (fun c5 => ?_) (fun c5 => ?_)
  · replace E := (if_of E).2 c5
    refine Rn.aload_n (pc' := 182) dX11_readAtom_181 rfl 0 rfl rfl ?_
    refine Rn.iload_n (pc' := 183) dX11_readAtom_182 rfl 1 rfl rfl ?_
    refine Rn.if_eq (pc' := 186) (tgt := 191) dX11_readAtom_183 (by decide) rfl (fun c6 => ?_) (fun c6 => ?_)
    · replace E := (if_of E).1 c6
      refine Rn.bipush (pc' := 193) (v := (12 : Int32)) (hv := by decide) dX11_readAtom_191 rfl ?_
      refine Rn.sub [] rfl ?_
      exact f_Model_readAtom_b193_ok hst hd hdq hq_X11_readCond hq_X11_readAtom  E
    · replace E := (if_of E).2 c6
      refine Rn.bipush (pc' := 188) (v := (11 : Int32)) (hv := by decide) dX11_readAtom_186 rfl ?_
      refine Rn.goto (pc' := 193) dX11_readAtom_188 (by decide) ?_
      refine Rn.sub [] rfl ?_
      exact f_Model_readAtom_b193_ok hst hd hdq hq_X11_readCond hq_X11_readAtom  E
  · replace E := (if_of E).1 c5
    refine Rn.iconst (pc' := 180) (v := (0 : Int32)) (hv := by decide) dX11_readAtom_179 rfl ?_
    cases E
    exact Rn.zret rfl rfl dX11_readAtom_180
theorem kb_X11_229 : KB RX11 229 yX11_tagAt mX11_tagAt 0 := ⟨gw_at 1670 (by decide +kernel) (by decide +kernel), gw_at 117 (by decide +kernel) (by decide +kernel), trivial, ws_X11_tagAt, by decide +kernel, by decide +kernel, by decide +kernel, by decide⟩
theorem ki_X11_tagAt : Cond.instanceMethod yX11_tagAt ∈ gw ∧ Cond.selects yX11_tagAt.cls yX11_tagAt yX11_tagAt ∈ gw := ⟨gw_at 1672 (by decide +kernel) (by decide +kernel), gw_at 74 (by decide +kernel) (by decide +kernel)⟩
theorem fl_X11_218_10 : FL RX11 218 10 13 := ⟨_, rfl, by decide, "VintageWaterModel", gw_at 1439 (by decide +kernel) (by decide +kernel), Or.inl rfl⟩
theorem kb_X11_226 : KB RX11 226 yX11_readAtom mX11_readAtom 0 := ⟨gw_at 1657 (by decide +kernel) (by decide +kernel), gw_at 117 (by decide +kernel) (by decide +kernel), trivial, ws_X11_readAtom, by decide +kernel, by decide +kernel, by decide +kernel, by decide⟩
theorem ki_X11_readAtom : Cond.instanceMethod yX11_readAtom ∈ gw ∧ Cond.selects yX11_readAtom.cls yX11_readAtom yX11_readAtom ∈ gw := ⟨gw_at 1659 (by decide +kernel) (by decide +kernel), gw_at 71 (by decide +kernel) (by decide +kernel)⟩
theorem kb_X11_221 : KB RX11 221 yX11_readCond mX11_readCond 0 := ⟨gw_at 1649 (by decide +kernel) (by decide +kernel), gw_at 117 (by decide +kernel) (by decide +kernel), trivial, ws_X11_readCond, by decide +kernel, by decide +kernel, by decide +kernel, by decide⟩
theorem ki_X11_readCond : Cond.instanceMethod yX11_readCond ∈ gw ∧ Cond.selects yX11_readCond.cls yX11_readCond yX11_readCond ∈ gw := ⟨gw_at 1651 (by decide +kernel) (by decide +kernel), gw_at 69 (by decide +kernel) (by decide +kernel)⟩
def f_Model_readAtom_b0 (q_X11_readCond : Hp → Nat → Option (Int32 × Hp)) (q_X11_readAtom : Hp → Nat → Option (Int32 × Hp))  (h : Hp) (x0 : Nat)  : Option (Int32 × Hp) :=
if hS h x0 = 11 then (
bI (f_Model_sign h x0 (40 : Int32)) fun v2 h3 =>
if v2 = 0 then (
if hS h3 x0 = 11 then (
bI (f_Model_passes h3 x0 (STR + 41)) fun v7 h8 =>
if v7 = 0 then (
if hS h8 x0 = 11 then (
bV (f_Model_letters h8 x0) fun h13 =>
if hS h13 x0 = 11 then (
bI (f_Model_tagAt h13 x0) fun v16 h17 =>
if v16 < 0 then (
if hS h17 x0 = 11 then (
wr (sI h17 x0 10 (hI h17 x0 12)) fun h21 =>
bI (f_Model_readSum h21 x0) fun v23 h24 =>
if v23 = 0 then (
some ((0 : Int32), h24)

) else (
if hS h24 x0 = 11 then (
bI (f_Model_sign h24 x0 (60 : Int32)) fun v28 h29 =>
if v28 = 0 then (
if hS h29 x0 = 11 then (
bI (f_Model_sign h29 x0 (62 : Int32)) fun v33 h34 =>
if v33 = 0 then (
some ((0 : Int32), h34)

) else (
f_Model_readAtom_b172 q_X11_readCond q_X11_readAtom  h34 x0 v28

)
) else none
) else (
f_Model_readAtom_b172 q_X11_readCond q_X11_readAtom  h29 x0 v28

)
) else none
)
) else none
) else (
if hS h17 x0 = 11 then (
bV (f_Model_emits h17 x0 v16 (0 : Int32)) fun h39 =>
some ((1 : Int32), h39)
) else none
)
) else none) else none
) else (
if hS h8 x0 = 11 then (
if (hI h8 x0 13) = (6 : Int32) then (
some ((0 : Int32), h8)

) else (
wr (sI h8 x0 13 ((hI h8 x0 13) + (1 : Int32))) fun h43 =>
bI (q_X11_readAtom h43 x0) fun v45 h46 =>
if v45 = 0 then (
some ((0 : Int32), h46)

) else (
if hS h46 x0 = 11 then (
wr (sI h46 x0 13 ((hI h46 x0 13) - (1 : Int32))) fun h50 =>
bV (f_Model_emits h50 x0 (13 : Int32) (0 : Int32)) fun h53 =>
some ((1 : Int32), h53)
) else none
)

)
) else none
)
) else none
) else (
if hS h3 x0 = 11 then (
if (hI h3 x0 13) = (6 : Int32) then (
some ((0 : Int32), h3)

) else (
wr (sI h3 x0 13 ((hI h3 x0 13) + (1 : Int32))) fun h57 =>
bI (q_X11_readCond h57 x0) fun v59 h60 =>
if v59 = 0 then (
some ((0 : Int32), h60)

) else (
if hS h60 x0 = 11 then (
wr (sI h60 x0 13 ((hI h60 x0 13) - (1 : Int32))) fun h64 =>
bI (f_Model_sign h64 x0 (41 : Int32)) fun v66 h67 =>
if v66 = 0 ∨ v66 = 1 then (
some (v66, h67)
) else none) else none
)

)
) else none
)
) else none
set_option maxRecDepth 20000 in
set_option maxHeartbeats 4000000 in
theorem f_Model_readAtom_b0_ok {l : Launch} {X : Nat × (Nat → Int32)} (hst : l.stackTraces = false) {d : Nat} (hd : 7 ≤ d) {q_X11_readCond : Hp → Nat → Option (Int32 × Hp)} {q_X11_readAtom : Hp → Nat → Option (Int32 × Hp)} {dq : Nat} (hdq : dq + 1 ≤ d) (hq_X11_readCond : ∀ (h : Hp) (x0 : Nat) (r : Int32 × Hp), q_X11_readCond h x0 = some r → MC l X yX11_readCond mX11_readCond dq [.ref x0] h (eI r) r.2) (hq_X11_readAtom : ∀ (h : Hp) (x0 : Nat) (r : Int32 × Hp), q_X11_readAtom h x0 = some r → MC l X yX11_readAtom mX11_readAtom dq [.ref x0] h (eI r) r.2)   {h : Hp} {x0 : Nat}  {r : Int32 × Hp} (E : f_Model_readAtom_b0 q_X11_readCond q_X11_readAtom  h x0 = some r) : Rn l X mX11_readAtom d 0 [(0, .ref x0)] [] h (eI r) r.2 := by
  unfold f_Model_readAtom_b0 at E
  refine Rn.aload_n (pc' := 1) dX11_readAtom_0 rfl 0 rfl rfl ?_
  refine Rn.bipush (pc' := 3) (v := (40 : Int32)) (hv := by decide) dX11_readAtom_1 rfl ?_
  obtain ⟨g1, E⟩ := gd_of E
  obtain ⟨v2, h3, e4, E⟩ := bI_of E
  refine Rn.callV1 (pc' := 6) (As := [.int (40 : Int32)]) (rest := []) (f_Model_sign_ok hst e4) (Nat.le_trans (by decide) hd) rfl kb_X11_213 ki_X11_sign rfl g1 rfl rfl (Nat.le_of_ble_eq_true rfl) dX11_readAtom_3 rfl rfl ?_
  refine Rn.if_eq (pc' := 9) (tgt := 56) dX11_readAtom_6 (by decide) rfl (fun c5 => ?_) (fun c5 => ?_)
  · replace E := (if_of E).1 c5
    refine Rn.aload_n (pc' := 57) dX11_readAtom_56 rfl 0 rfl rfl ?_
    refine Rn.ldcS (pc' := 59) (i := 41) rfl dX11_readAtom_57 rfl ?_
    obtain ⟨g6, E⟩ := gd_of E
    obtain ⟨v7, h8, e9, E⟩ := bI_of E
    refine Rn.callV1 (pc' := 62) (As := [.ref (STR + 41)]) (rest := []) (f_Model_passes_ok hst e9) (Nat.le_trans (by decide) hd) rfl kb_X11_129 ki_X11_passes rfl g6 rfl rfl (Nat.le_of_ble_eq_true rfl) dX11_readAtom_59 rfl rfl ?_
    refine Rn.if_eq (pc' := 65) (tgt := 114) dX11_readAtom_62 (by decide) rfl (fun c10 => ?_) (fun c10 => ?_)
    · replace E := (if_of E).1 c10
      refine Rn.aload_n (pc' := 115) dX11_readAtom_114 rfl 0 rfl rfl ?_
      obtain ⟨g11, E⟩ := gd_of E
      obtain ⟨h13, e14, E⟩ := bV_of E
      refine Rn.callV1 (pc' := 118) (As := []) (rest := []) (f_Model_letters_ok hst e14) (Nat.le_trans (by decide) hd) rfl kb_X11_114 ki_X11_letters rfl g11 rfl rfl (Nat.le_of_ble_eq_true rfl) dX11_readAtom_115 rfl rfl ?_
      refine Rn.aload_n (pc' := 119) dX11_readAtom_118 rfl 0 rfl rfl ?_
      obtain ⟨g15, E⟩ := gd_of E
      obtain ⟨v16, h17, e18, E⟩ := bI_of E
      refine Rn.callV1 (pc' := 122) (As := []) (rest := []) (f_Model_tagAt_ok hst e18) (Nat.le_trans (by decide) hd) rfl kb_X11_229 ki_X11_tagAt rfl g15 rfl rfl (Nat.le_of_ble_eq_true rfl) dX11_readAtom_119 rfl rfl ?_
      refine Rn.istore_n (pc' := 123) (L' := [(1, .int v16), (0, .ref x0)]) dX11_readAtom_122 rfl (by decide) rfl rfl ?_
      refine Rn.iload_n (pc' := 124) dX11_readAtom_123 rfl 0 rfl rfl ?_
      refine Rn.if_lt (pc' := 127) (tgt := 135) dX11_readAtom_124 (by decide) rfl (fun c19 => ?_) (fun c19 => ?_)
      · replace E := (if_of E).1 c19
        refine Rn.aload_n (pc' := 136) dX11_readAtom_135 rfl 1 rfl rfl ?_
        refine Rn.aload_n (pc' := 137) dX11_readAtom_136 rfl 1 rfl rfl ?_
        obtain ⟨g20, E⟩ := gd_of E
        refine Rn.getI (pc' := 140) fl_X11_99_10 g20 rfl dX11_readAtom_137 rfl ?_
        refine Rn.putI (pc' := 143) fl_X11_89_10 (fun q hq => by cases hq; decide) g20 rfl rfl rfl dX11_readAtom_140 rfl ?_
        replace E := wr_of E
        generalize eh22 : sI h17 x0 10 (hI h17 x0 12) = h21 at E ⊢
        refine Rn.aload_n (pc' := 144) dX11_readAtom_143 rfl 1 rfl rfl ?_
        obtain ⟨v23, h24, e25, E⟩ := bI_of E
        refine Rn.callV1 (pc' := 147) (As := []) (rest := []) (f_Model_readSum_ok hst e25) (Nat.le_trans (by decide) hd) rfl kb_X11_232 ki_X11_readSum rfl (kp_sI eh22 g20) rfl rfl (Nat.le_of_ble_eq_true rfl) dX11_readAtom_144 rfl rfl ?_
        refine Rn.if_ne (pc' := 150) (tgt := 152) dX11_readAtom_147 (by decide) rfl (fun c26 => ?_) (fun c26 => ?_)
        · replace E := (if_of E).2 c26
          refine Rn.aload_n (pc' := 153) dX11_readAtom_152 rfl 1 rfl rfl ?_
          refine Rn.bipush (pc' := 155) (v := (60 : Int32)) (hv := by decide) dX11_readAtom_153 rfl ?_
          obtain ⟨g27, E⟩ := gd_of E
          obtain ⟨v28, h29, e30, E⟩ := bI_of E
          refine Rn.callV1 (pc' := 158) (As := [.int (60 : Int32)]) (rest := []) (f_Model_sign_ok hst e30) (Nat.le_trans (by decide) hd) rfl kb_X11_213 ki_X11_sign rfl g27 rfl rfl (Nat.le_of_ble_eq_true rfl) dX11_readAtom_155 rfl rfl ?_
          refine Rn.istore_n (pc' := 159) (L' := [(2, .int v28), (1, .int v16), (0, .ref x0)]) dX11_readAtom_158 rfl (by decide) rfl rfl ?_
          refine Rn.iload_n (pc' := 160) dX11_readAtom_159 rfl 0 rfl rfl ?_
          refine Rn.if_ne (pc' := 163) (tgt := 172) dX11_readAtom_160 (by decide) rfl (fun c31 => ?_) (fun c31 => ?_)
          · replace E := (if_of E).2 c31
            refine Rn.sub [2, 0] rfl ?_
            exact f_Model_readAtom_b172_ok hst hd hdq hq_X11_readCond hq_X11_readAtom  E
          · replace E := (if_of E).1 c31
            refine Rn.aload_n (pc' := 164) dX11_readAtom_163 rfl 2 rfl rfl ?_
            refine Rn.bipush (pc' := 166) (v := (62 : Int32)) (hv := by decide) dX11_readAtom_164 rfl ?_
            obtain ⟨g32, E⟩ := gd_of E
            obtain ⟨v33, h34, e35, E⟩ := bI_of E
            refine Rn.callV1 (pc' := 169) (As := [.int (62 : Int32)]) (rest := []) (f_Model_sign_ok hst e35) (Nat.le_trans (by decide) hd) rfl kb_X11_213 ki_X11_sign rfl g32 rfl rfl (Nat.le_of_ble_eq_true rfl) dX11_readAtom_166 rfl rfl ?_
            refine Rn.if_eq (pc' := 172) (tgt := 179) dX11_readAtom_169 (by decide) rfl (fun c36 => ?_) (fun c36 => ?_)
            · replace E := (if_of E).1 c36
              refine Rn.iconst (pc' := 180) (v := (0 : Int32)) (hv := by decide) dX11_readAtom_179 rfl ?_
              cases E
              exact Rn.zret rfl rfl dX11_readAtom_180
            · replace E := (if_of E).2 c36
              refine Rn.sub [2, 0] rfl ?_
              exact f_Model_readAtom_b172_ok hst hd hdq hq_X11_readCond hq_X11_readAtom  E
        · replace E := (if_of E).1 c26
          refine Rn.iconst (pc' := 151) (v := (0 : Int32)) (hv := by decide) dX11_readAtom_150 rfl ?_
          cases E
          exact Rn.zret rfl rfl dX11_readAtom_151
      · replace E := (if_of E).2 c19
        refine Rn.aload_n (pc' := 128) dX11_readAtom_127 rfl 1 rfl rfl ?_
        refine Rn.iload_n (pc' := 129) dX11_readAtom_128 rfl 0 rfl rfl ?_
        refine Rn.iconst (pc' := 130) (v := (0 : Int32)) (hv := by decide) dX11_readAtom_129 rfl ?_
        obtain ⟨g37, E⟩ := gd_of E
        obtain ⟨h39, e40, E⟩ := bV_of E
        refine Rn.callV1 (pc' := 133) (As := [.int v16, .int (0 : Int32)]) (rest := []) (f_Model_emits_ok hst e40) (Nat.le_trans (by decide) hd) rfl kb_X11_199 ki_X11_emits rfl g37 rfl rfl (Nat.le_of_ble_eq_true rfl) dX11_readAtom_130 rfl rfl ?_
        refine Rn.iconst (pc' := 134) (v := (1 : Int32)) (hv := by decide) dX11_readAtom_133 rfl ?_
        cases E
        exact Rn.zret rfl rfl dX11_readAtom_134
    · replace E := (if_of E).2 c10
      refine Rn.aload_n (pc' := 66) dX11_readAtom_65 rfl 0 rfl rfl ?_
      obtain ⟨g41, E⟩ := gd_of E
      refine Rn.getI (pc' := 69) fl_X11_218_10 g41 rfl dX11_readAtom_66 rfl ?_
      refine Rn.bipush (pc' := 71) (v := (6 : Int32)) (hv := by decide) dX11_readAtom_69 rfl ?_
      refine Rn.icmp_ne (pc' := 74) (tgt := 76) dX11_readAtom_71 (by decide) rfl (fun c42 => ?_) (fun c42 => ?_)
      · replace E := (if_of E).2 c42
        refine Rn.aload_n (pc' := 77) dX11_readAtom_76 rfl 0 rfl rfl ?_
        refine Rn.dup (pc' := 78) (hc := rfl) dX11_readAtom_77 rfl ?_
        refine Rn.getI (pc' := 81) fl_X11_218_10 g41 rfl dX11_readAtom_78 rfl ?_
        refine Rn.iconst (pc' := 82) (v := (1 : Int32)) (hv := by decide) dX11_readAtom_81 rfl ?_
        refine Rn.iadd (pc' := 83) dX11_readAtom_82 rfl ?_
        refine Rn.putI (pc' := 86) fl_X11_218_10 (fun q hq => by cases hq; decide) g41 rfl rfl rfl dX11_readAtom_83 rfl ?_
        replace E := wr_of E
        generalize eh44 : sI h8 x0 13 ((hI h8 x0 13) + (1 : Int32)) = h43 at E ⊢
        refine Rn.aload_n (pc' := 87) dX11_readAtom_86 rfl 0 rfl rfl ?_
        obtain ⟨v45, h46, e47, E⟩ := bI_of E
        refine Rn.callV1 (pc' := 90) (As := []) (rest := []) (hq_X11_readAtom _ _ _ e47) hdq rfl kb_X11_226 ki_X11_readAtom rfl (kp_sI eh44 g41) rfl rfl (Nat.le_of_ble_eq_true rfl) dX11_readAtom_87 rfl rfl ?_
        refine Rn.if_ne (pc' := 93) (tgt := 95) dX11_readAtom_90 (by decide) rfl (fun c48 => ?_) (fun c48 => ?_)
        · replace E := (if_of E).2 c48
          refine Rn.aload_n (pc' := 96) dX11_readAtom_95 rfl 0 rfl rfl ?_
          refine Rn.dup (pc' := 97) (hc := rfl) dX11_readAtom_96 rfl ?_
          obtain ⟨g49, E⟩ := gd_of E
          refine Rn.getI (pc' := 100) fl_X11_218_10 g49 rfl dX11_readAtom_97 rfl ?_
          refine Rn.iconst (pc' := 101) (v := (1 : Int32)) (hv := by decide) dX11_readAtom_100 rfl ?_
          refine Rn.isub (pc' := 102) dX11_readAtom_101 rfl ?_
          refine Rn.putI (pc' := 105) fl_X11_218_10 (fun q hq => by cases hq; decide) g49 rfl rfl rfl dX11_readAtom_102 rfl ?_
          replace E := wr_of E
          generalize eh51 : sI h46 x0 13 ((hI h46 x0 13) - (1 : Int32)) = h50 at E ⊢
          refine Rn.aload_n (pc' := 106) dX11_readAtom_105 rfl 0 rfl rfl ?_
          refine Rn.bipush (pc' := 108) (v := (13 : Int32)) (hv := by decide) dX11_readAtom_106 rfl ?_
          refine Rn.iconst (pc' := 109) (v := (0 : Int32)) (hv := by decide) dX11_readAtom_108 rfl ?_
          obtain ⟨h53, e54, E⟩ := bV_of E
          refine Rn.callV1 (pc' := 112) (As := [.int (13 : Int32), .int (0 : Int32)]) (rest := []) (f_Model_emits_ok hst e54) (Nat.le_trans (by decide) hd) rfl kb_X11_199 ki_X11_emits rfl (kp_sI eh51 g49) rfl rfl (Nat.le_of_ble_eq_true rfl) dX11_readAtom_109 rfl rfl ?_
          refine Rn.iconst (pc' := 113) (v := (1 : Int32)) (hv := by decide) dX11_readAtom_112 rfl ?_
          cases E
          exact Rn.zret rfl rfl dX11_readAtom_113
        · replace E := (if_of E).1 c48
          refine Rn.iconst (pc' := 94) (v := (0 : Int32)) (hv := by decide) dX11_readAtom_93 rfl ?_
          cases E
          exact Rn.zret rfl rfl dX11_readAtom_94
      · replace E := (if_of E).1 c42
        refine Rn.iconst (pc' := 75) (v := (0 : Int32)) (hv := by decide) dX11_readAtom_74 rfl ?_
        cases E
        exact Rn.zret rfl rfl dX11_readAtom_75
  · replace E := (if_of E).2 c5
    refine Rn.aload_n (pc' := 10) dX11_readAtom_9 rfl 0 rfl rfl ?_
    obtain ⟨g55, E⟩ := gd_of E
    refine Rn.getI (pc' := 13) fl_X11_218_10 g55 rfl dX11_readAtom_10 rfl ?_
    refine Rn.bipush (pc' := 15) (v := (6 : Int32)) (hv := by decide) dX11_readAtom_13 rfl ?_
    refine Rn.icmp_ne (pc' := 18) (tgt := 20) dX11_readAtom_15 (by decide) rfl (fun c56 => ?_) (fun c56 => ?_)
    · replace E := (if_of E).2 c56
      refine Rn.aload_n (pc' := 21) dX11_readAtom_20 rfl 0 rfl rfl ?_
      refine Rn.dup (pc' := 22) (hc := rfl) dX11_readAtom_21 rfl ?_
      refine Rn.getI (pc' := 25) fl_X11_218_10 g55 rfl dX11_readAtom_22 rfl ?_
      refine Rn.iconst (pc' := 26) (v := (1 : Int32)) (hv := by decide) dX11_readAtom_25 rfl ?_
      refine Rn.iadd (pc' := 27) dX11_readAtom_26 rfl ?_
      refine Rn.putI (pc' := 30) fl_X11_218_10 (fun q hq => by cases hq; decide) g55 rfl rfl rfl dX11_readAtom_27 rfl ?_
      replace E := wr_of E
      generalize eh58 : sI h3 x0 13 ((hI h3 x0 13) + (1 : Int32)) = h57 at E ⊢
      refine Rn.aload_n (pc' := 31) dX11_readAtom_30 rfl 0 rfl rfl ?_
      obtain ⟨v59, h60, e61, E⟩ := bI_of E
      refine Rn.callV1 (pc' := 34) (As := []) (rest := []) (hq_X11_readCond _ _ _ e61) hdq rfl kb_X11_221 ki_X11_readCond rfl (kp_sI eh58 g55) rfl rfl (Nat.le_of_ble_eq_true rfl) dX11_readAtom_31 rfl rfl ?_
      refine Rn.if_ne (pc' := 37) (tgt := 39) dX11_readAtom_34 (by decide) rfl (fun c62 => ?_) (fun c62 => ?_)
      · replace E := (if_of E).2 c62
        refine Rn.aload_n (pc' := 40) dX11_readAtom_39 rfl 0 rfl rfl ?_
        refine Rn.dup (pc' := 41) (hc := rfl) dX11_readAtom_40 rfl ?_
        obtain ⟨g63, E⟩ := gd_of E
        refine Rn.getI (pc' := 44) fl_X11_218_10 g63 rfl dX11_readAtom_41 rfl ?_
        refine Rn.iconst (pc' := 45) (v := (1 : Int32)) (hv := by decide) dX11_readAtom_44 rfl ?_
        refine Rn.isub (pc' := 46) dX11_readAtom_45 rfl ?_
        refine Rn.putI (pc' := 49) fl_X11_218_10 (fun q hq => by cases hq; decide) g63 rfl rfl rfl dX11_readAtom_46 rfl ?_
        replace E := wr_of E
        generalize eh65 : sI h60 x0 13 ((hI h60 x0 13) - (1 : Int32)) = h64 at E ⊢
        refine Rn.aload_n (pc' := 50) dX11_readAtom_49 rfl 0 rfl rfl ?_
        refine Rn.bipush (pc' := 52) (v := (41 : Int32)) (hv := by decide) dX11_readAtom_50 rfl ?_
        obtain ⟨v66, h67, e68, E⟩ := bI_of E
        refine Rn.callV1 (pc' := 55) (As := [.int (41 : Int32)]) (rest := []) (f_Model_sign_ok hst e68) (Nat.le_trans (by decide) hd) rfl kb_X11_213 ki_X11_sign rfl (kp_sI eh65 g63) rfl rfl (Nat.le_of_ble_eq_true rfl) dX11_readAtom_52 rfl rfl ?_
        obtain ⟨g69, E⟩ := gd_of E
        cases E
        exact Rn.zret rfl (nar_b g69) dX11_readAtom_55
      · replace E := (if_of E).1 c62
        refine Rn.iconst (pc' := 38) (v := (0 : Int32)) (hv := by decide) dX11_readAtom_37 rfl ?_
        cases E
        exact Rn.zret rfl rfl dX11_readAtom_38
    · replace E := (if_of E).1 c56
      refine Rn.iconst (pc' := 19) (v := (0 : Int32)) (hv := by decide) dX11_readAtom_18 rfl ?_
      cases E
      exact Rn.zret rfl rfl dX11_readAtom_19
def f_Model_readAtom_B (q_X11_readCond : Hp → Nat → Option (Int32 × Hp)) (q_X11_readAtom : Hp → Nat → Option (Int32 × Hp)) (h : Hp) (x0 : Nat) : Option (Int32 × Hp) := f_Model_readAtom_b0 q_X11_readCond q_X11_readAtom h x0
theorem f_Model_readAtom_B_ok {l : Launch} {X : Nat × (Nat → Int32)} (hst : l.stackTraces = false) {d : Nat} (hd : 7 ≤ d) {q_X11_readCond : Hp → Nat → Option (Int32 × Hp)} {q_X11_readAtom : Hp → Nat → Option (Int32 × Hp)} {dq : Nat} (hdq : dq + 1 ≤ d) (hq_X11_readCond : ∀ (h : Hp) (x0 : Nat) (r : Int32 × Hp), q_X11_readCond h x0 = some r → MC l X yX11_readCond mX11_readCond dq [.ref x0] h (eI r) r.2) (hq_X11_readAtom : ∀ (h : Hp) (x0 : Nat) (r : Int32 × Hp), q_X11_readAtom h x0 = some r → MC l X yX11_readAtom mX11_readAtom dq [.ref x0] h (eI r) r.2) {h : Hp} {x0 : Nat} {r : Int32 × Hp} (E : f_Model_readAtom_B q_X11_readCond q_X11_readAtom h x0 = some r) : MC l X yX11_readAtom mX11_readAtom d [.ref x0] h (eI r) r.2 :=
  MC.body (by decide +kernel) rfl (by decide) hst (Nat.le_of_ble_eq_true rfl) (f_Model_readAtom_b0_ok hst hd hdq hq_X11_readCond hq_X11_readAtom E)
def f_Model_readAllOf_b9 (q_X11_readAtom : Hp → Nat → Option (Int32 × Hp)) (k9 : Hp → Nat → Option (Int32 × Hp)) (h : Hp) (x0 : Nat)  : Option (Int32 × Hp) :=
if hS h x0 = 11 then (
bI (f_Model_passes h x0 (STR + 47)) fun v2 h3 =>
if v2 = 0 then (
some ((1 : Int32), h3)

) else (
if hS h3 x0 = 11 then (
bI (q_X11_readAtom h3 x0) fun v7 h8 =>
if v7 = 0 then (
some ((0 : Int32), h8)

) else (
if hS h8 x0 = 11 then (
bV (f_Model_emits h8 x0 (14 : Int32) (0 : Int32)) fun h13 =>
k9 h13 x0
) else none
)
) else none
)
) else none
set_option maxRecDepth 20000 in
set_option maxHeartbeats 4000000 in
theorem f_Model_readAllOf_b9_ok {l : Launch} {X : Nat × (Nat → Int32)} (hst : l.stackTraces = false) {d : Nat} (hd : 7 ≤ d) {q_X11_readAtom : Hp → Nat → Option (Int32 × Hp)} {dq : Nat} (hdq : dq + 1 ≤ d) (hq_X11_readAtom : ∀ (h : Hp) (x0 : Nat) (r : Int32 × Hp), q_X11_readAtom h x0 = some r → MC l X yX11_readAtom mX11_readAtom dq [.ref x0] h (eI r) r.2) {k9 : Hp → Nat → Option (Int32 × Hp)} (hk9 : ∀ (h : Hp) (x0 : Nat)  (r : Int32 × Hp), k9 h x0 = some r → Rn l X mX11_readAllOf d 9 [(0, .ref x0)] [] h (eI r) r.2) {h : Hp} {x0 : Nat}  {r : Int32 × Hp} (E : f_Model_readAllOf_b9 q_X11_readAtom k9 h x0 = some r) : Rn l X mX11_readAllOf d 9 [(0, .ref x0)] [] h (eI r) r.2 := by
  unfold f_Model_readAllOf_b9 at E
  refine Rn.aload_n (pc' := 10) dX11_readAllOf_9 rfl 0 rfl rfl ?_
  refine Rn.ldcS (pc' := 12) (i := 47) rfl dX11_readAllOf_10 rfl ?_
  obtain ⟨g1, E⟩ := gd_of E
  obtain ⟨v2, h3, e4, E⟩ := bI_of E
  refine Rn.callV1 (pc' := 15) (As := [.ref (STR + 47)]) (rest := []) (f_Model_passes_ok hst e4) (Nat.le_trans (by decide) hd) rfl kb_X11_129 ki_X11_passes rfl g1 rfl rfl (Nat.le_of_ble_eq_true rfl) dX11_readAllOf_12 rfl rfl ?_
  refine Rn.if_eq (pc' := 18) (tgt := 37) dX11_readAllOf_15 (by decide) rfl (fun c5 => ?_) (fun c5 => ?_)
  · replace E := (if_of E).1 c5
    refine Rn.iconst (pc' := 38) (v := (1 : Int32)) (hv := by decide) dX11_readAllOf_37 rfl ?_
    cases E
    exact Rn.zret rfl rfl dX11_readAllOf_38
  · replace E := (if_of E).2 c5
    refine Rn.aload_n (pc' := 19) dX11_readAllOf_18 rfl 0 rfl rfl ?_
    obtain ⟨g6, E⟩ := gd_of E
    obtain ⟨v7, h8, e9, E⟩ := bI_of E
    refine Rn.callV1 (pc' := 22) (As := []) (rest := []) (hq_X11_readAtom _ _ _ e9) hdq rfl kb_X11_226 ki_X11_readAtom rfl g6 rfl rfl (Nat.le_of_ble_eq_true rfl) dX11_readAllOf_19 rfl rfl ?_
    refine Rn.if_ne (pc' := 25) (tgt := 27) dX11_readAllOf_22 (by decide) rfl (fun c10 => ?_) (fun c10 => ?_)
    · replace E := (if_of E).2 c10
      refine Rn.aload_n (pc' := 28) dX11_readAllOf_27 rfl 0 rfl rfl ?_
      refine Rn.bipush (pc' := 30) (v := (14 : Int32)) (hv := by decide) dX11_readAllOf_28 rfl ?_
      refine Rn.iconst (pc' := 31) (v := (0 : Int32)) (hv := by decide) dX11_readAllOf_30 rfl ?_
      obtain ⟨g11, E⟩ := gd_of E
      obtain ⟨h13, e14, E⟩ := bV_of E
      refine Rn.callV1 (pc' := 34) (As := [.int (14 : Int32), .int (0 : Int32)]) (rest := []) (f_Model_emits_ok hst e14) (Nat.le_trans (by decide) hd) rfl kb_X11_199 ki_X11_emits rfl g11 rfl rfl (Nat.le_of_ble_eq_true rfl) dX11_readAllOf_31 rfl rfl ?_
      refine Rn.goto (pc' := 9) dX11_readAllOf_34 (by decide) ?_
      exact hk9 _ _ _ E
    · replace E := (if_of E).1 c10
      refine Rn.iconst (pc' := 26) (v := (0 : Int32)) (hv := by decide) dX11_readAllOf_25 rfl ?_
      cases E
      exact Rn.zret rfl rfl dX11_readAllOf_26
def f_Model_readAllOf_L9 (q_X11_readAtom : Hp → Nat → Option (Int32 × Hp))  (n : Nat) : Hp → Nat → Option (Int32 × Hp) := Nat.rec (motive := fun _ => Hp → Nat → Option (Int32 × Hp)) (fun _ _ => none) (fun _ rec => f_Model_readAllOf_b9 q_X11_readAtom  rec) n
theorem f_Model_readAllOf_L9_ok {l : Launch} {X : Nat × (Nat → Int32)} (hst : l.stackTraces = false) {d : Nat} (hd : 7 ≤ d) {q_X11_readAtom : Hp → Nat → Option (Int32 × Hp)} {dq : Nat} (hdq : dq + 1 ≤ d) (hq_X11_readAtom : ∀ (h : Hp) (x0 : Nat) (r : Int32 × Hp), q_X11_readAtom h x0 = some r → MC l X yX11_readAtom mX11_readAtom dq [.ref x0] h (eI r) r.2)   : ∀ (n : Nat) (h : Hp) (x0 : Nat)  (r : Int32 × Hp), f_Model_readAllOf_L9 q_X11_readAtom  n h x0 = some r → Rn l X mX11_readAllOf d 9 [(0, .ref x0)] [] h (eI r) r.2 := by
  intro n
  induction n with
  | zero => intro h x0 r E; cases E
  | succ n ih => intro h x0 r E; exact f_Model_readAllOf_b9_ok hst hd hdq hq_X11_readAtom  ih E
def f_Model_readAllOf_b0 (q_X11_readAtom : Hp → Nat → Option (Int32 × Hp))  (h : Hp) (x0 : Nat)  : Option (Int32 × Hp) :=
if hS h x0 = 11 then (
bI (q_X11_readAtom h x0) fun v2 h3 =>
if v2 = 0 then (
some ((0 : Int32), h3)

) else (
f_Model_readAllOf_L9 q_X11_readAtom  FU h3 x0

)
) else none
set_option maxRecDepth 20000 in
set_option maxHeartbeats 4000000 in
theorem f_Model_readAllOf_b0_ok {l : Launch} {X : Nat × (Nat → Int32)} (hst : l.stackTraces = false) {d : Nat} (hd : 7 ≤ d) {q_X11_readAtom : Hp → Nat → Option (Int32 × Hp)} {dq : Nat} (hdq : dq + 1 ≤ d) (hq_X11_readAtom : ∀ (h : Hp) (x0 : Nat) (r : Int32 × Hp), q_X11_readAtom h x0 = some r → MC l X yX11_readAtom mX11_readAtom dq [.ref x0] h (eI r) r.2)   {h : Hp} {x0 : Nat}  {r : Int32 × Hp} (E : f_Model_readAllOf_b0 q_X11_readAtom  h x0 = some r) : Rn l X mX11_readAllOf d 0 [(0, .ref x0)] [] h (eI r) r.2 := by
  unfold f_Model_readAllOf_b0 at E
  refine Rn.aload_n (pc' := 1) dX11_readAllOf_0 rfl 0 rfl rfl ?_
  obtain ⟨g1, E⟩ := gd_of E
  obtain ⟨v2, h3, e4, E⟩ := bI_of E
  refine Rn.callV1 (pc' := 4) (As := []) (rest := []) (hq_X11_readAtom _ _ _ e4) hdq rfl kb_X11_226 ki_X11_readAtom rfl g1 rfl rfl (Nat.le_of_ble_eq_true rfl) dX11_readAllOf_1 rfl rfl ?_
  refine Rn.if_ne (pc' := 7) (tgt := 9) dX11_readAllOf_4 (by decide) rfl (fun c5 => ?_) (fun c5 => ?_)
  · replace E := (if_of E).2 c5
    exact f_Model_readAllOf_L9_ok hst hd hdq hq_X11_readAtom  FU _ _ _ E
  · replace E := (if_of E).1 c5
    refine Rn.iconst (pc' := 8) (v := (0 : Int32)) (hv := by decide) dX11_readAllOf_7 rfl ?_
    cases E
    exact Rn.zret rfl rfl dX11_readAllOf_8
def f_Model_readAllOf_B (q_X11_readAtom : Hp → Nat → Option (Int32 × Hp)) (h : Hp) (x0 : Nat) : Option (Int32 × Hp) := f_Model_readAllOf_b0 q_X11_readAtom h x0
theorem f_Model_readAllOf_B_ok {l : Launch} {X : Nat × (Nat → Int32)} (hst : l.stackTraces = false) {d : Nat} (hd : 7 ≤ d) {q_X11_readAtom : Hp → Nat → Option (Int32 × Hp)} {dq : Nat} (hdq : dq + 1 ≤ d) (hq_X11_readAtom : ∀ (h : Hp) (x0 : Nat) (r : Int32 × Hp), q_X11_readAtom h x0 = some r → MC l X yX11_readAtom mX11_readAtom dq [.ref x0] h (eI r) r.2) {h : Hp} {x0 : Nat} {r : Int32 × Hp} (E : f_Model_readAllOf_B q_X11_readAtom h x0 = some r) : MC l X yX11_readAllOf mX11_readAllOf d [.ref x0] h (eI r) r.2 :=
  MC.body (by decide +kernel) rfl (by decide) hst (Nat.le_of_ble_eq_true rfl) (f_Model_readAllOf_b0_ok hst hd hdq hq_X11_readAtom E)
theorem kb_X11_237 : KB RX11 237 yX11_readAllOf mX11_readAllOf 0 := ⟨gw_at 1653 (by decide +kernel) (by decide +kernel), gw_at 117 (by decide +kernel) (by decide +kernel), trivial, ws_X11_readAllOf, by decide +kernel, by decide +kernel, by decide +kernel, by decide⟩
theorem ki_X11_readAllOf : Cond.instanceMethod yX11_readAllOf ∈ gw ∧ Cond.selects yX11_readAllOf.cls yX11_readAllOf yX11_readAllOf ∈ gw := ⟨gw_at 1655 (by decide +kernel) (by decide +kernel), gw_at 70 (by decide +kernel) (by decide +kernel)⟩
def f_Model_readCond_b9 (q_X11_readAllOf : Hp → Nat → Option (Int32 × Hp)) (k9 : Hp → Nat → Option (Int32 × Hp)) (h : Hp) (x0 : Nat)  : Option (Int32 × Hp) :=
if hS h x0 = 11 then (
bI (f_Model_passes h x0 (STR + 48)) fun v2 h3 =>
if v2 = 0 then (
some ((1 : Int32), h3)

) else (
if hS h3 x0 = 11 then (
bI (q_X11_readAllOf h3 x0) fun v7 h8 =>
if v7 = 0 then (
some ((0 : Int32), h8)

) else (
if hS h8 x0 = 11 then (
bV (f_Model_emits h8 x0 (15 : Int32) (0 : Int32)) fun h13 =>
k9 h13 x0
) else none
)
) else none
)
) else none
set_option maxRecDepth 20000 in
set_option maxHeartbeats 4000000 in
theorem f_Model_readCond_b9_ok {l : Launch} {X : Nat × (Nat → Int32)} (hst : l.stackTraces = false) {d : Nat} (hd : 7 ≤ d) {q_X11_readAllOf : Hp → Nat → Option (Int32 × Hp)} {dq : Nat} (hdq : dq + 1 ≤ d) (hq_X11_readAllOf : ∀ (h : Hp) (x0 : Nat) (r : Int32 × Hp), q_X11_readAllOf h x0 = some r → MC l X yX11_readAllOf mX11_readAllOf dq [.ref x0] h (eI r) r.2) {k9 : Hp → Nat → Option (Int32 × Hp)} (hk9 : ∀ (h : Hp) (x0 : Nat)  (r : Int32 × Hp), k9 h x0 = some r → Rn l X mX11_readCond d 9 [(0, .ref x0)] [] h (eI r) r.2) {h : Hp} {x0 : Nat}  {r : Int32 × Hp} (E : f_Model_readCond_b9 q_X11_readAllOf k9 h x0 = some r) : Rn l X mX11_readCond d 9 [(0, .ref x0)] [] h (eI r) r.2 := by
  unfold f_Model_readCond_b9 at E
  refine Rn.aload_n (pc' := 10) dX11_readCond_9 rfl 0 rfl rfl ?_
  refine Rn.ldcS (pc' := 12) (i := 48) rfl dX11_readCond_10 rfl ?_
  obtain ⟨g1, E⟩ := gd_of E
  obtain ⟨v2, h3, e4, E⟩ := bI_of E
  refine Rn.callV1 (pc' := 15) (As := [.ref (STR + 48)]) (rest := []) (f_Model_passes_ok hst e4) (Nat.le_trans (by decide) hd) rfl kb_X11_129 ki_X11_passes rfl g1 rfl rfl (Nat.le_of_ble_eq_true rfl) dX11_readCond_12 rfl rfl ?_
  refine Rn.if_eq (pc' := 18) (tgt := 37) dX11_readCond_15 (by decide) rfl (fun c5 => ?_) (fun c5 => ?_)
  · replace E := (if_of E).1 c5
    refine Rn.iconst (pc' := 38) (v := (1 : Int32)) (hv := by decide) dX11_readCond_37 rfl ?_
    cases E
    exact Rn.zret rfl rfl dX11_readCond_38
  · replace E := (if_of E).2 c5
    refine Rn.aload_n (pc' := 19) dX11_readCond_18 rfl 0 rfl rfl ?_
    obtain ⟨g6, E⟩ := gd_of E
    obtain ⟨v7, h8, e9, E⟩ := bI_of E
    refine Rn.callV1 (pc' := 22) (As := []) (rest := []) (hq_X11_readAllOf _ _ _ e9) hdq rfl kb_X11_237 ki_X11_readAllOf rfl g6 rfl rfl (Nat.le_of_ble_eq_true rfl) dX11_readCond_19 rfl rfl ?_
    refine Rn.if_ne (pc' := 25) (tgt := 27) dX11_readCond_22 (by decide) rfl (fun c10 => ?_) (fun c10 => ?_)
    · replace E := (if_of E).2 c10
      refine Rn.aload_n (pc' := 28) dX11_readCond_27 rfl 0 rfl rfl ?_
      refine Rn.bipush (pc' := 30) (v := (15 : Int32)) (hv := by decide) dX11_readCond_28 rfl ?_
      refine Rn.iconst (pc' := 31) (v := (0 : Int32)) (hv := by decide) dX11_readCond_30 rfl ?_
      obtain ⟨g11, E⟩ := gd_of E
      obtain ⟨h13, e14, E⟩ := bV_of E
      refine Rn.callV1 (pc' := 34) (As := [.int (15 : Int32), .int (0 : Int32)]) (rest := []) (f_Model_emits_ok hst e14) (Nat.le_trans (by decide) hd) rfl kb_X11_199 ki_X11_emits rfl g11 rfl rfl (Nat.le_of_ble_eq_true rfl) dX11_readCond_31 rfl rfl ?_
      refine Rn.goto (pc' := 9) dX11_readCond_34 (by decide) ?_
      exact hk9 _ _ _ E
    · replace E := (if_of E).1 c10
      refine Rn.iconst (pc' := 26) (v := (0 : Int32)) (hv := by decide) dX11_readCond_25 rfl ?_
      cases E
      exact Rn.zret rfl rfl dX11_readCond_26
def f_Model_readCond_L9 (q_X11_readAllOf : Hp → Nat → Option (Int32 × Hp))  (n : Nat) : Hp → Nat → Option (Int32 × Hp) := Nat.rec (motive := fun _ => Hp → Nat → Option (Int32 × Hp)) (fun _ _ => none) (fun _ rec => f_Model_readCond_b9 q_X11_readAllOf  rec) n
theorem f_Model_readCond_L9_ok {l : Launch} {X : Nat × (Nat → Int32)} (hst : l.stackTraces = false) {d : Nat} (hd : 7 ≤ d) {q_X11_readAllOf : Hp → Nat → Option (Int32 × Hp)} {dq : Nat} (hdq : dq + 1 ≤ d) (hq_X11_readAllOf : ∀ (h : Hp) (x0 : Nat) (r : Int32 × Hp), q_X11_readAllOf h x0 = some r → MC l X yX11_readAllOf mX11_readAllOf dq [.ref x0] h (eI r) r.2)   : ∀ (n : Nat) (h : Hp) (x0 : Nat)  (r : Int32 × Hp), f_Model_readCond_L9 q_X11_readAllOf  n h x0 = some r → Rn l X mX11_readCond d 9 [(0, .ref x0)] [] h (eI r) r.2 := by
  intro n
  induction n with
  | zero => intro h x0 r E; cases E
  | succ n ih => intro h x0 r E; exact f_Model_readCond_b9_ok hst hd hdq hq_X11_readAllOf  ih E
def f_Model_readCond_b0 (q_X11_readAllOf : Hp → Nat → Option (Int32 × Hp))  (h : Hp) (x0 : Nat)  : Option (Int32 × Hp) :=
if hS h x0 = 11 then (
bI (q_X11_readAllOf h x0) fun v2 h3 =>
if v2 = 0 then (
some ((0 : Int32), h3)

) else (
f_Model_readCond_L9 q_X11_readAllOf  FU h3 x0

)
) else none
set_option maxRecDepth 20000 in
set_option maxHeartbeats 4000000 in
theorem f_Model_readCond_b0_ok {l : Launch} {X : Nat × (Nat → Int32)} (hst : l.stackTraces = false) {d : Nat} (hd : 7 ≤ d) {q_X11_readAllOf : Hp → Nat → Option (Int32 × Hp)} {dq : Nat} (hdq : dq + 1 ≤ d) (hq_X11_readAllOf : ∀ (h : Hp) (x0 : Nat) (r : Int32 × Hp), q_X11_readAllOf h x0 = some r → MC l X yX11_readAllOf mX11_readAllOf dq [.ref x0] h (eI r) r.2)   {h : Hp} {x0 : Nat}  {r : Int32 × Hp} (E : f_Model_readCond_b0 q_X11_readAllOf  h x0 = some r) : Rn l X mX11_readCond d 0 [(0, .ref x0)] [] h (eI r) r.2 := by
  unfold f_Model_readCond_b0 at E
  refine Rn.aload_n (pc' := 1) dX11_readCond_0 rfl 0 rfl rfl ?_
  obtain ⟨g1, E⟩ := gd_of E
  obtain ⟨v2, h3, e4, E⟩ := bI_of E
  refine Rn.callV1 (pc' := 4) (As := []) (rest := []) (hq_X11_readAllOf _ _ _ e4) hdq rfl kb_X11_237 ki_X11_readAllOf rfl g1 rfl rfl (Nat.le_of_ble_eq_true rfl) dX11_readCond_1 rfl rfl ?_
  refine Rn.if_ne (pc' := 7) (tgt := 9) dX11_readCond_4 (by decide) rfl (fun c5 => ?_) (fun c5 => ?_)
  · replace E := (if_of E).2 c5
    exact f_Model_readCond_L9_ok hst hd hdq hq_X11_readAllOf  FU _ _ _ E
  · replace E := (if_of E).1 c5
    refine Rn.iconst (pc' := 8) (v := (0 : Int32)) (hv := by decide) dX11_readCond_7 rfl ?_
    cases E
    exact Rn.zret rfl rfl dX11_readCond_8
def f_Model_readCond_B (q_X11_readAllOf : Hp → Nat → Option (Int32 × Hp)) (h : Hp) (x0 : Nat) : Option (Int32 × Hp) := f_Model_readCond_b0 q_X11_readAllOf h x0
theorem f_Model_readCond_B_ok {l : Launch} {X : Nat × (Nat → Int32)} (hst : l.stackTraces = false) {d : Nat} (hd : 7 ≤ d) {q_X11_readAllOf : Hp → Nat → Option (Int32 × Hp)} {dq : Nat} (hdq : dq + 1 ≤ d) (hq_X11_readAllOf : ∀ (h : Hp) (x0 : Nat) (r : Int32 × Hp), q_X11_readAllOf h x0 = some r → MC l X yX11_readAllOf mX11_readAllOf dq [.ref x0] h (eI r) r.2) {h : Hp} {x0 : Nat} {r : Int32 × Hp} (E : f_Model_readCond_B q_X11_readAllOf h x0 = some r) : MC l X yX11_readCond mX11_readCond d [.ref x0] h (eI r) r.2 :=
  MC.body (by decide +kernel) rfl (by decide) hst (Nat.le_of_ble_eq_true rfl) (f_Model_readCond_b0_ok hst hd hdq hq_X11_readAllOf E)
def f_Model_G (n : Nat) : (Hp → Nat → Option (Int32 × Hp)) × (Hp → Nat → Option (Int32 × Hp)) × (Hp → Nat → Option (Int32 × Hp)) := Nat.rec (motive := fun _ => (Hp → Nat → Option (Int32 × Hp)) × (Hp → Nat → Option (Int32 × Hp)) × (Hp → Nat → Option (Int32 × Hp))) (fun _ _ => none, fun _ _ => none, fun _ _ => none) (fun _ q => (f_Model_readAtom_B (q.2.2) (q.1), f_Model_readAllOf_B (q.1), f_Model_readCond_B (q.2.1))) n
def f_Model_readAtom : Hp → Nat → Option (Int32 × Hp) := (f_Model_G 40).1
def f_Model_readAllOf : Hp → Nat → Option (Int32 × Hp) := (f_Model_G 40).2.1
def f_Model_readCond : Hp → Nat → Option (Int32 × Hp) := (f_Model_G 40).2.2
theorem f_Model_G_ok {l : Launch} {X : Nat × (Nat → Int32)} (hst : l.stackTraces = false) : ∀ n : Nat, (∀ (h : Hp) (x0 : Nat) (r : Int32 × Hp), (f_Model_G n).1 h x0 = some r → MC l X yX11_readAtom mX11_readAtom (7 + n) [.ref x0] h (eI r) r.2) ∧ (∀ (h : Hp) (x0 : Nat) (r : Int32 × Hp), (f_Model_G n).2.1 h x0 = some r → MC l X yX11_readAllOf mX11_readAllOf (7 + n) [.ref x0] h (eI r) r.2) ∧ (∀ (h : Hp) (x0 : Nat) (r : Int32 × Hp), (f_Model_G n).2.2 h x0 = some r → MC l X yX11_readCond mX11_readCond (7 + n) [.ref x0] h (eI r) r.2) := by
  intro n
  induction n with
  | zero => exact ⟨fun _ _ _ E => (nomatch E), fun _ _ _ E => (nomatch E), fun _ _ _ E => (nomatch E)⟩
  | succ n ih =>
    have hs : f_Model_G (n + 1) = (f_Model_readAtom_B ((f_Model_G n).2.2) ((f_Model_G n).1), f_Model_readAllOf_B ((f_Model_G n).1), f_Model_readCond_B ((f_Model_G n).2.1)) := rfl
    rw [hs]
    exact ⟨fun _ _ _ E => f_Model_readAtom_B_ok hst (d := 7 + (n + 1)) (by omega) (dq := 7 + n) (by omega) (ih.2.2) (ih.1) E, fun _ _ _ E => f_Model_readAllOf_B_ok hst (d := 7 + (n + 1)) (by omega) (dq := 7 + n) (by omega) (ih.1) E, fun _ _ _ E => f_Model_readCond_B_ok hst (d := 7 + (n + 1)) (by omega) (dq := 7 + n) (by omega) (ih.2.1) E⟩
theorem f_Model_readAtom_ok {l : Launch} {X : Nat × (Nat → Int32)} (hst : l.stackTraces = false) {h : Hp} {x0 : Nat} {r : Int32 × Hp} (E : f_Model_readAtom h x0 = some r) : MC l X yX11_readAtom mX11_readAtom 47 [.ref x0] h (eI r) r.2 := (f_Model_G_ok hst 40).1 _ _ _ E
theorem f_Model_readAllOf_ok {l : Launch} {X : Nat × (Nat → Int32)} (hst : l.stackTraces = false) {h : Hp} {x0 : Nat} {r : Int32 × Hp} (E : f_Model_readAllOf h x0 = some r) : MC l X yX11_readAllOf mX11_readAllOf 47 [.ref x0] h (eI r) r.2 := (f_Model_G_ok hst 40).2.1 _ _ _ E
theorem f_Model_readCond_ok {l : Launch} {X : Nat × (Nat → Int32)} (hst : l.stackTraces = false) {h : Hp} {x0 : Nat} {r : Int32 × Hp} (E : f_Model_readCond h x0 = some r) : MC l X yX11_readCond mX11_readCond 47 [.ref x0] h (eI r) r.2 := (f_Model_G_ok hst 40).2.2 _ _ _ E
abbrev mX11_readLawLine : MI := (RX11, cX11_readLawLine, 4, (some Jvm.ClassFile.FieldType.boolean), [], false)
theorem ws_X11_readLawLine : ∀ w ∈ wsM yX11_readLawLine mX11_readLawLine, w ∈ gw := List.forall_mem_cons.mpr ⟨gw_at 1645 (by decide +kernel) (by decide +kernel), fun _ h => h⟩
def f_Model_readLawLine_b102   (h : Hp) (x0 : Nat) (x2 : Int32)  : Option (Int32 × Hp) :=
if hS h x0 = 11 then (
if hS h (hR h x0 1) = 20 then (
if ib (x2 + (2 : Int32)) (hL h (hR h x0 1)) = true then (
wr (sI h (hR h x0 1) (ix (x2 + (2 : Int32))) (hI h x0 16)) fun h4 =>
some ((1 : Int32), h4)
) else none) else none) else none
set_option maxRecDepth 20000 in
set_option maxHeartbeats 4000000 in
theorem f_Model_readLawLine_b102_ok {l : Launch} {X : Nat × (Nat → Int32)} (hst : l.stackTraces = false) {d : Nat} (hd : 48 ≤ d)     {h : Hp} {x0 : Nat} {x2 : Int32}  {r : Int32 × Hp} (E : f_Model_readLawLine_b102   h x0 x2 = some r) : Rn l X mX11_readLawLine d 102 [(0, .ref x0), (2, .int x2)] [] h (eI r) r.2 := by
  unfold f_Model_readLawLine_b102 at E
  refine Rn.aload_n (pc' := 103) dX11_readLawLine_102 rfl 0 rfl rfl ?_
  obtain ⟨g1, E⟩ := gd_of E
  refine Rn.getR (pc' := 106) fl_X11_13_10 g1 rfl dX11_readLawLine_103 rfl ?_
  refine Rn.iload_n (pc' := 107) dX11_readLawLine_106 rfl 1 rfl rfl ?_
  refine Rn.iconst (pc' := 108) (v := (2 : Int32)) (hv := by decide) dX11_readLawLine_107 rfl ?_
  refine Rn.iadd (pc' := 109) dX11_readLawLine_108 rfl ?_
  refine Rn.aload_n (pc' := 110) dX11_readLawLine_109 rfl 0 rfl rfl ?_
  refine Rn.getI (pc' := 113) fl_X11_196_10 g1 rfl dX11_readLawLine_110 rfl ?_
  obtain ⟨g2, E⟩ := gd_of E
  obtain ⟨g3, E⟩ := gd_of E
  refine Rn.iast (pc' := 114) g2 g3 dX11_readLawLine_113 rfl ?_
  replace E := wr_of E
  generalize eh5 : sI h (hR h x0 1) (ix (x2 + (2 : Int32))) (hI h x0 16) = h4 at E ⊢
  refine Rn.iconst (pc' := 115) (v := (1 : Int32)) (hv := by decide) dX11_readLawLine_114 rfl ?_
  cases E
  exact Rn.zret rfl rfl dX11_readLawLine_115
def f_Model_readLawLine_b67   (h : Hp) (x0 : Nat) (x2 : Int32)  : Option (Int32 × Hp) :=
if hS h x0 = 11 then (
if hS h (hR h x0 1) = 20 then (
if ib (x2 + (1 : Int32)) (hL h (hR h x0 1)) = true then (
wr (sI h (hR h x0 1) (ix (x2 + (1 : Int32))) (hI h x0 16)) fun h4 =>
wr (sI h4 x0 13 (0 : Int32)) fun h6 =>
bI (f_Model_passes h6 x0 (STR + 40)) fun v8 h9 =>
if v8 = 0 then (
f_Model_readLawLine_b102   h9 x0 x2

) else (
if hS h9 x0 = 11 then (
bI (f_Model_readCond h9 x0) fun v13 h14 =>
if v13 = 0 then (
some ((0 : Int32), h14)

) else (
f_Model_readLawLine_b102   h14 x0 x2

)
) else none
)
) else none) else none) else none
set_option maxRecDepth 20000 in
set_option maxHeartbeats 4000000 in
theorem f_Model_readLawLine_b67_ok {l : Launch} {X : Nat × (Nat → Int32)} (hst : l.stackTraces = false) {d : Nat} (hd : 48 ≤ d)     {h : Hp} {x0 : Nat} {x2 : Int32}  {r : Int32 × Hp} (E : f_Model_readLawLine_b67   h x0 x2 = some r) : Rn l X mX11_readLawLine d 67 [(0, .ref x0), (2, .int x2)] [] h (eI r) r.2 := by
  unfold f_Model_readLawLine_b67 at E
  refine Rn.aload_n (pc' := 68) dX11_readLawLine_67 rfl 0 rfl rfl ?_
  obtain ⟨g1, E⟩ := gd_of E
  refine Rn.getR (pc' := 71) fl_X11_13_10 g1 rfl dX11_readLawLine_68 rfl ?_
  refine Rn.iload_n (pc' := 72) dX11_readLawLine_71 rfl 1 rfl rfl ?_
  refine Rn.iconst (pc' := 73) (v := (1 : Int32)) (hv := by decide) dX11_readLawLine_72 rfl ?_
  refine Rn.iadd (pc' := 74) dX11_readLawLine_73 rfl ?_
  refine Rn.aload_n (pc' := 75) dX11_readLawLine_74 rfl 0 rfl rfl ?_
  refine Rn.getI (pc' := 78) fl_X11_196_10 g1 rfl dX11_readLawLine_75 rfl ?_
  obtain ⟨g2, E⟩ := gd_of E
  obtain ⟨g3, E⟩ := gd_of E
  refine Rn.iast (pc' := 79) g2 g3 dX11_readLawLine_78 rfl ?_
  replace E := wr_of E
  generalize eh5 : sI h (hR h x0 1) (ix (x2 + (1 : Int32))) (hI h x0 16) = h4 at E ⊢
  refine Rn.aload_n (pc' := 80) dX11_readLawLine_79 rfl 0 rfl rfl ?_
  refine Rn.iconst (pc' := 81) (v := (0 : Int32)) (hv := by decide) dX11_readLawLine_80 rfl ?_
  refine Rn.putI (pc' := 84) fl_X11_218_10 (fun q hq => by cases hq; decide) (kp_sI eh5 g1) rfl rfl rfl dX11_readLawLine_81 rfl ?_
  replace E := wr_of E
  generalize eh7 : sI h4 x0 13 (0 : Int32) = h6 at E ⊢
  refine Rn.aload_n (pc' := 85) dX11_readLawLine_84 rfl 0 rfl rfl ?_
  refine Rn.ldcS (pc' := 87) (i := 40) rfl dX11_readLawLine_85 rfl ?_
  obtain ⟨v8, h9, e10, E⟩ := bI_of E
  refine Rn.callV1 (pc' := 90) (As := [.ref (STR + 40)]) (rest := []) (f_Model_passes_ok hst e10) (Nat.le_trans (by decide) hd) rfl kb_X11_129 ki_X11_passes rfl (kp_sI eh7 (kp_sI eh5 g1)) rfl rfl (Nat.le_of_ble_eq_true rfl) dX11_readLawLine_87 rfl rfl ?_
  refine Rn.if_eq (pc' := 93) (tgt := 102) dX11_readLawLine_90 (by decide) rfl (fun c11 => ?_) (fun c11 => ?_)
  · replace E := (if_of E).1 c11
    exact f_Model_readLawLine_b102_ok hst hd   E
  · replace E := (if_of E).2 c11
    refine Rn.aload_n (pc' := 94) dX11_readLawLine_93 rfl 0 rfl rfl ?_
    obtain ⟨g12, E⟩ := gd_of E
    obtain ⟨v13, h14, e15, E⟩ := bI_of E
    refine Rn.callV1 (pc' := 97) (As := []) (rest := []) (f_Model_readCond_ok hst e15) (Nat.le_trans (by decide) hd) rfl kb_X11_221 ki_X11_readCond rfl g12 rfl rfl (Nat.le_of_ble_eq_true rfl) dX11_readLawLine_94 rfl rfl ?_
    refine Rn.if_ne (pc' := 100) (tgt := 102) dX11_readLawLine_97 (by decide) rfl (fun c16 => ?_) (fun c16 => ?_)
    · replace E := (if_of E).2 c16
      exact f_Model_readLawLine_b102_ok hst hd   E
    · replace E := (if_of E).1 c16
      refine Rn.iconst (pc' := 101) (v := (0 : Int32)) (hv := by decide) dX11_readLawLine_100 rfl ?_
      cases E
      exact Rn.zret rfl rfl dX11_readLawLine_101
def f_Model_readLawLine_b51   (h : Hp) (x0 : Nat) (x2 : Int32) (x3 : Int32) (s0 : Nat) (s1 : Int32) (s2 : Int32) : Option (Int32 × Hp) :=
if hS h s0 = 20 then (
if ib s1 (hL h s0) = true then (
wr (sI h s0 (ix s1) s2) fun h3 =>
if x3 = 0 then (
f_Model_readLawLine_b67   h3 x0 x2

) else (
if hS h3 x0 = 11 then (
if hS h3 (hR h3 x0 1) = 20 then (
if ib x2 (hL h3 (hR h3 x0 1)) = true then (
if 0 ≤ (hI h3 (hR h3 x0 1) (ix x2)) then (
f_Model_readLawLine_b67   h3 x0 x2

) else (
some ((0 : Int32), h3)

)
) else none) else none) else none
)
) else none) else none
set_option maxRecDepth 20000 in
set_option maxHeartbeats 4000000 in
theorem f_Model_readLawLine_b51_ok {l : Launch} {X : Nat × (Nat → Int32)} (hst : l.stackTraces = false) {d : Nat} (hd : 48 ≤ d)     {h : Hp} {x0 : Nat} {x2 : Int32} {x3 : Int32} {s0 : Nat} {s1 : Int32} {s2 : Int32} {r : Int32 × Hp} (E : f_Model_readLawLine_b51   h x0 x2 x3 s0 s1 s2 = some r) : Rn l X mX11_readLawLine d 51 [(0, .ref x0), (2, .int x2), (3, .int x3)] [.int s2, .int s1, .ref s0] h (eI r) r.2 := by
  unfold f_Model_readLawLine_b51 at E
  obtain ⟨g1, E⟩ := gd_of E
  obtain ⟨g2, E⟩ := gd_of E
  refine Rn.iast (pc' := 52) g1 g2 dX11_readLawLine_51 rfl ?_
  replace E := wr_of E
  generalize eh4 : sI h s0 (ix s1) s2 = h3 at E ⊢
  refine Rn.iload_n (pc' := 53) dX11_readLawLine_52 rfl 2 rfl rfl ?_
  refine Rn.if_eq (pc' := 56) (tgt := 67) dX11_readLawLine_53 (by decide) rfl (fun c5 => ?_) (fun c5 => ?_)
  · replace E := (if_of E).1 c5
    refine Rn.sub [0, 1] rfl ?_
    exact f_Model_readLawLine_b67_ok hst hd   E
  · replace E := (if_of E).2 c5
    refine Rn.aload_n (pc' := 57) dX11_readLawLine_56 rfl 0 rfl rfl ?_
    obtain ⟨g6, E⟩ := gd_of E
    refine Rn.getR (pc' := 60) fl_X11_13_10 g6 rfl dX11_readLawLine_57 rfl ?_
    refine Rn.iload_n (pc' := 61) dX11_readLawLine_60 rfl 1 rfl rfl ?_
    obtain ⟨g7, E⟩ := gd_of E
    obtain ⟨g8, E⟩ := gd_of E
    refine Rn.iald (pc' := 62) g7 g8 dX11_readLawLine_61 rfl ?_
    refine Rn.if_ge (pc' := 65) (tgt := 67) dX11_readLawLine_62 (by decide) rfl (fun c9 => ?_) (fun c9 => ?_)
    · replace E := (if_of E).1 c9
      refine Rn.sub [0, 1] rfl ?_
      exact f_Model_readLawLine_b67_ok hst hd   E
    · replace E := (if_of E).2 c9
      refine Rn.iconst (pc' := 66) (v := (0 : Int32)) (hv := by decide) dX11_readLawLine_65 rfl ?_
      cases E
      exact Rn.zret rfl rfl dX11_readLawLine_66
def f_Model_readLawLine_b30   (h : Hp) (x0 : Nat) (x2 : Int32) (x3 : Int32)  : Option (Int32 × Hp) :=
if hS h x0 = 11 then (
if x3 = 0 then (
f_Model_readLawLine_b51   h x0 x2 x3 (hR h x0 1) x2 (-1 : Int32)

) else (
bI (f_Model_number h x0 (0 : Int32) (999 : Int32)) fun v3 h4 =>
f_Model_readLawLine_b51   h4 x0 x2 x3 (hR h x0 1) x2 v3

)
) else none
set_option maxRecDepth 20000 in
set_option maxHeartbeats 4000000 in
theorem f_Model_readLawLine_b30_ok {l : Launch} {X : Nat × (Nat → Int32)} (hst : l.stackTraces = false) {d : Nat} (hd : 48 ≤ d)     {h : Hp} {x0 : Nat} {x2 : Int32} {x3 : Int32}  {r : Int32 × Hp} (E : f_Model_readLawLine_b30   h x0 x2 x3 = some r) : Rn l X mX11_readLawLine d 30 [(0, .ref x0), (2, .int x2), (3, .int x3)] [] h (eI r) r.2 := by
  unfold f_Model_readLawLine_b30 at E
  refine Rn.aload_n (pc' := 31) dX11_readLawLine_30 rfl 0 rfl rfl ?_
  obtain ⟨g1, E⟩ := gd_of E
  refine Rn.getR (pc' := 34) fl_X11_13_10 g1 rfl dX11_readLawLine_31 rfl ?_
  refine Rn.iload_n (pc' := 35) dX11_readLawLine_34 rfl 1 rfl rfl ?_
  refine Rn.iload_n (pc' := 36) dX11_readLawLine_35 rfl 2 rfl rfl ?_
  refine Rn.if_eq (pc' := 39) (tgt := 50) dX11_readLawLine_36 (by decide) rfl (fun c2 => ?_) (fun c2 => ?_)
  · replace E := (if_of E).1 c2
    refine Rn.iconst (pc' := 51) (v := (-1 : Int32)) (hv := by decide) dX11_readLawLine_50 rfl ?_
    exact f_Model_readLawLine_b51_ok hst hd   E
  · replace E := (if_of E).2 c2
    refine Rn.aload_n (pc' := 40) dX11_readLawLine_39 rfl 0 rfl rfl ?_
    refine Rn.iconst (pc' := 41) (v := (0 : Int32)) (hv := by decide) dX11_readLawLine_40 rfl ?_
    refine Rn.sipush (pc' := 44) (v := (999 : Int32)) (hv := by decide) dX11_readLawLine_41 rfl ?_
    obtain ⟨v3, h4, e5, E⟩ := bI_of E
    refine Rn.callV1 (pc' := 47) (As := [.int (0 : Int32), .int (999 : Int32)]) (rest := [.int x2, .ref (hR h x0 1)]) (f_Model_number_ok hst e5) (Nat.le_trans (by decide) hd) rfl kb_X11_121 ki_X11_number rfl g1 rfl rfl (Nat.le_of_ble_eq_true rfl) dX11_readLawLine_44 rfl rfl ?_
    refine Rn.goto (pc' := 51) dX11_readLawLine_47 (by decide) ?_
    exact f_Model_readLawLine_b51_ok hst hd   E
def f_Model_readLawLine_b0   (h : Hp) (x0 : Nat) (x1 : Int32)  : Option (Int32 × Hp) :=
if hS h x0 = 11 then (
bI (f_Model_isWord h x0 (STR + 38)) fun v2 h3 =>
if v2 = 0 then (
if hS h3 x0 = 11 then (
bI (f_Model_isWord h3 x0 (STR + 39)) fun v7 h8 =>
if v7 = 0 then (
some ((0 : Int32), h8)

) else (
f_Model_readLawLine_b30   h8 x0 ((1455 : Int32) + ((3 : Int32) * x1)) v2

)
) else none
) else (
f_Model_readLawLine_b30   h3 x0 ((1455 : Int32) + ((3 : Int32) * x1)) v2

)
) else none
set_option maxRecDepth 20000 in
set_option maxHeartbeats 4000000 in
theorem f_Model_readLawLine_b0_ok {l : Launch} {X : Nat × (Nat → Int32)} (hst : l.stackTraces = false) {d : Nat} (hd : 48 ≤ d)     {h : Hp} {x0 : Nat} {x1 : Int32}  {r : Int32 × Hp} (E : f_Model_readLawLine_b0   h x0 x1 = some r) : Rn l X mX11_readLawLine d 0 [(0, .ref x0), (1, .int x1)] [] h (eI r) r.2 := by
  unfold f_Model_readLawLine_b0 at E
  refine Rn.sipush (pc' := 3) (v := (1455 : Int32)) (hv := by decide) dX11_readLawLine_0 rfl ?_
  refine Rn.iconst (pc' := 4) (v := (3 : Int32)) (hv := by decide) dX11_readLawLine_3 rfl ?_
  refine Rn.iload_n (pc' := 5) dX11_readLawLine_4 rfl 1 rfl rfl ?_
  refine Rn.imul (pc' := 6) dX11_readLawLine_5 rfl ?_
  refine Rn.iadd (pc' := 7) dX11_readLawLine_6 rfl ?_
  refine Rn.istore_n (pc' := 8) (L' := [(2, .int ((1455 : Int32) + ((3 : Int32) * x1))), (0, .ref x0), (1, .int x1)]) dX11_readLawLine_7 rfl (by decide) rfl rfl ?_
  refine Rn.aload_n (pc' := 9) dX11_readLawLine_8 rfl 1 rfl rfl ?_
  refine Rn.ldcS (pc' := 11) (i := 38) rfl dX11_readLawLine_9 rfl ?_
  obtain ⟨g1, E⟩ := gd_of E
  obtain ⟨v2, h3, e4, E⟩ := bI_of E
  refine Rn.callV1 (pc' := 14) (As := [.ref (STR + 38)]) (rest := []) (f_Model_isWord_ok hst e4) (Nat.le_trans (by decide) hd) rfl kb_X11_117 ki_X11_isWord rfl g1 rfl rfl (Nat.le_of_ble_eq_true rfl) dX11_readLawLine_11 rfl rfl ?_
  refine Rn.istore_n (pc' := 15) (L' := [(3, .int v2), (2, .int ((1455 : Int32) + ((3 : Int32) * x1))), (0, .ref x0), (1, .int x1)]) dX11_readLawLine_14 rfl (by decide) rfl rfl ?_
  refine Rn.iload_n (pc' := 16) dX11_readLawLine_15 rfl 0 rfl rfl ?_
  refine Rn.if_ne (pc' := 19) (tgt := 30) dX11_readLawLine_16 (by decide) rfl (fun c5 => ?_) (fun c5 => ?_)
  · replace E := (if_of E).2 c5
    refine Rn.sub [2, 1, 0] rfl ?_
    exact f_Model_readLawLine_b30_ok hst hd   E
  · replace E := (if_of E).1 c5
    refine Rn.aload_n (pc' := 20) dX11_readLawLine_19 rfl 2 rfl rfl ?_
    refine Rn.ldcS (pc' := 22) (i := 39) rfl dX11_readLawLine_20 rfl ?_
    obtain ⟨g6, E⟩ := gd_of E
    obtain ⟨v7, h8, e9, E⟩ := bI_of E
    refine Rn.callV1 (pc' := 25) (As := [.ref (STR + 39)]) (rest := []) (f_Model_isWord_ok hst e9) (Nat.le_trans (by decide) hd) rfl kb_X11_117 ki_X11_isWord rfl g6 rfl rfl (Nat.le_of_ble_eq_true rfl) dX11_readLawLine_22 rfl rfl ?_
    refine Rn.if_ne (pc' := 28) (tgt := 30) dX11_readLawLine_25 (by decide) rfl (fun c10 => ?_) (fun c10 => ?_)
    · replace E := (if_of E).2 c10
      refine Rn.sub [2, 1, 0] rfl ?_
      exact f_Model_readLawLine_b30_ok hst hd   E
    · replace E := (if_of E).1 c10
      refine Rn.iconst (pc' := 29) (v := (0 : Int32)) (hv := by decide) dX11_readLawLine_28 rfl ?_
      cases E
      exact Rn.zret rfl rfl dX11_readLawLine_29
def f_Model_readLawLine (h : Hp) (x0 : Nat) (x1 : Int32) : Option (Int32 × Hp) := f_Model_readLawLine_b0  h x0 x1
theorem f_Model_readLawLine_ok {l : Launch} {X : Nat × (Nat → Int32)} (hst : l.stackTraces = false) {h : Hp} {x0 : Nat} {x1 : Int32} {r : Int32 × Hp} (E : f_Model_readLawLine h x0 x1 = some r) : MC l X yX11_readLawLine mX11_readLawLine 48 [.ref x0, .int x1] h (eI r) r.2 :=
  MC.body (by decide +kernel) rfl (by decide) hst (Nat.le_of_ble_eq_true rfl) (f_Model_readLawLine_b0_ok hst (Nat.le_refl _) E)
abbrev mX11_readLine : MI := (RX11, cX11_readLine, 3, (some Jvm.ClassFile.FieldType.boolean), [], false)
theorem ws_X11_readLine : ∀ w ∈ wsM yX11_readLine mX11_readLine, w ∈ gw := List.forall_mem_cons.mpr ⟨gw_at 1530 (by decide +kernel) (by decide +kernel), fun _ h => h⟩
def f_Model_readLine_b41   (h : Hp)   : Option (Int32 × Hp) :=
some ((1 : Int32), h)

set_option maxRecDepth 20000 in
set_option maxHeartbeats 4000000 in
theorem f_Model_readLine_b41_ok {l : Launch} {X : Nat × (Nat → Int32)} (hst : l.stackTraces = false) {d : Nat} (hd : 49 ≤ d)     {h : Hp}   {r : Int32 × Hp} (E : f_Model_readLine_b41   h  = some r) : Rn l X mX11_readLine d 41 [] [] h (eI r) r.2 := by
  unfold f_Model_readLine_b41 at E
  refine Rn.iconst (pc' := 42) (v := (1 : Int32)) (hv := by decide) dX11_readLine_41 rfl ?_
  refine Rn.goto (pc' := 46) dX11_readLine_42 (by decide) ?_
  cases E
  exact Rn.zret rfl rfl dX11_readLine_46
theorem kb_X11_251 : KB RX11 251 yX11_readLawLine mX11_readLawLine 1 := ⟨gw_at 1642 (by decide +kernel) (by decide +kernel), gw_at 117 (by decide +kernel) (by decide +kernel), trivial, ws_X11_readLawLine, by decide +kernel, by decide +kernel, by decide +kernel, by decide⟩
theorem ki_X11_readLawLine : Cond.instanceMethod yX11_readLawLine ∈ gw ∧ Cond.selects yX11_readLawLine.cls yX11_readLawLine yX11_readLawLine ∈ gw := ⟨gw_at 1644 (by decide +kernel) (by decide +kernel), gw_at 68 (by decide +kernel) (by decide +kernel)⟩
theorem kb_X11_248 : KB RX11 248 yX11_readLandLine mX11_readLandLine 0 := ⟨gw_at 1535 (by decide +kernel) (by decide +kernel), gw_at 117 (by decide +kernel) (by decide +kernel), trivial, ws_X11_readLandLine, by decide +kernel, by decide +kernel, by decide +kernel, by decide⟩
theorem ki_X11_readLandLine : Cond.instanceMethod yX11_readLandLine ∈ gw ∧ Cond.selects yX11_readLandLine.cls yX11_readLandLine yX11_readLandLine ∈ gw := ⟨gw_at 1537 (by decide +kernel) (by decide +kernel), gw_at 46 (by decide +kernel) (by decide +kernel)⟩
def f_Model_readLine_b16   (h : Hp) (x0 : Nat) (x1 : Int32) (x2 : Int32) (s0 : Int32) (s1 : Int32) : Option (Int32 × Hp) :=
if s1 ≤ s0 then (
some ((0 : Int32), h)

) else (
if x1 = 0 then (
if hS h x0 = 11 then (
bI (f_Model_readLawLine h x0 x2) fun v4 h5 =>
if v4 = 0 then (
some ((0 : Int32), h5)

) else (
f_Model_readLine_b41   h5

)
) else none
) else (
if hS h x0 = 11 then (
bI (f_Model_readLandLine h x0) fun v9 h10 =>
if v9 = 0 then (
some ((0 : Int32), h10)

) else (
f_Model_readLine_b41   h10

)
) else none
)

)

set_option maxRecDepth 20000 in
set_option maxHeartbeats 4000000 in
theorem f_Model_readLine_b16_ok {l : Launch} {X : Nat × (Nat → Int32)} (hst : l.stackTraces = false) {d : Nat} (hd : 49 ≤ d)     {h : Hp} {x0 : Nat} {x1 : Int32} {x2 : Int32} {s0 : Int32} {s1 : Int32} {r : Int32 × Hp} (E : f_Model_readLine_b16   h x0 x1 x2 s0 s1 = some r) : Rn l X mX11_readLine d 16 [(0, .ref x0), (1, .int x1), (2, .int x2)] [.int s1, .int s0] h (eI r) r.2 := by
  unfold f_Model_readLine_b16 at E
  refine Rn.icmp_ge (pc' := 19) (tgt := 45) dX11_readLine_16 (by decide) rfl (fun c1 => ?_) (fun c1 => ?_)
  · replace E := (if_of E).1 c1
    refine Rn.iconst (pc' := 46) (v := (0 : Int32)) (hv := by decide) dX11_readLine_45 rfl ?_
    cases E
    exact Rn.zret rfl rfl dX11_readLine_46
  · replace E := (if_of E).2 c1
    refine Rn.iload_n (pc' := 20) dX11_readLine_19 rfl 1 rfl rfl ?_
    refine Rn.if_eq (pc' := 23) (tgt := 33) dX11_readLine_20 (by decide) rfl (fun c2 => ?_) (fun c2 => ?_)
    · replace E := (if_of E).1 c2
      refine Rn.aload_n (pc' := 34) dX11_readLine_33 rfl 0 rfl rfl ?_
      refine Rn.iload_n (pc' := 35) dX11_readLine_34 rfl 2 rfl rfl ?_
      obtain ⟨g3, E⟩ := gd_of E
      obtain ⟨v4, h5, e6, E⟩ := bI_of E
      refine Rn.callV1 (pc' := 38) (As := [.int x2]) (rest := []) (f_Model_readLawLine_ok hst e6) (Nat.le_trans (by decide) hd) rfl kb_X11_251 ki_X11_readLawLine rfl g3 rfl rfl (Nat.le_of_ble_eq_true rfl) dX11_readLine_35 rfl rfl ?_
      refine Rn.if_eq (pc' := 41) (tgt := 45) dX11_readLine_38 (by decide) rfl (fun c7 => ?_) (fun c7 => ?_)
      · replace E := (if_of E).1 c7
        refine Rn.iconst (pc' := 46) (v := (0 : Int32)) (hv := by decide) dX11_readLine_45 rfl ?_
        cases E
        exact Rn.zret rfl rfl dX11_readLine_46
      · replace E := (if_of E).2 c7
        refine Rn.sub [] rfl ?_
        exact f_Model_readLine_b41_ok hst hd   E
    · replace E := (if_of E).2 c2
      refine Rn.aload_n (pc' := 24) dX11_readLine_23 rfl 0 rfl rfl ?_
      obtain ⟨g8, E⟩ := gd_of E
      obtain ⟨v9, h10, e11, E⟩ := bI_of E
      refine Rn.callV1 (pc' := 27) (As := []) (rest := []) (f_Model_readLandLine_ok hst e11) (Nat.le_trans (by decide) hd) rfl kb_X11_248 ki_X11_readLandLine rfl g8 rfl rfl (Nat.le_of_ble_eq_true rfl) dX11_readLine_24 rfl rfl ?_
      refine Rn.if_eq (pc' := 30) (tgt := 45) dX11_readLine_27 (by decide) rfl (fun c12 => ?_) (fun c12 => ?_)
      · replace E := (if_of E).1 c12
        refine Rn.iconst (pc' := 46) (v := (0 : Int32)) (hv := by decide) dX11_readLine_45 rfl ?_
        cases E
        exact Rn.zret rfl rfl dX11_readLine_46
      · replace E := (if_of E).2 c12
        refine Rn.goto (pc' := 41) dX11_readLine_30 (by decide) ?_
        refine Rn.sub [] rfl ?_
        exact f_Model_readLine_b41_ok hst hd   E
def f_Model_readLine_b0   (h : Hp) (x0 : Nat) (x1 : Int32) (x2 : Int32)  : Option (Int32 × Hp) :=
if hS h x0 = 11 then (
bV (f_Model_letters h x0) fun h3 =>
if x1 = 0 then (
f_Model_readLine_b16   h3 x0 x1 x2 x2 (12 : Int32)

) else (
f_Model_readLine_b16   h3 x0 x1 x2 x2 (14 : Int32)

)
) else none
set_option maxRecDepth 20000 in
set_option maxHeartbeats 4000000 in
theorem f_Model_readLine_b0_ok {l : Launch} {X : Nat × (Nat → Int32)} (hst : l.stackTraces = false) {d : Nat} (hd : 49 ≤ d)     {h : Hp} {x0 : Nat} {x1 : Int32} {x2 : Int32}  {r : Int32 × Hp} (E : f_Model_readLine_b0   h x0 x1 x2 = some r) : Rn l X mX11_readLine d 0 [(0, .ref x0), (1, .int x1), (2, .int x2)] [] h (eI r) r.2 := by
  unfold f_Model_readLine_b0 at E
  refine Rn.aload_n (pc' := 1) dX11_readLine_0 rfl 0 rfl rfl ?_
  obtain ⟨g1, E⟩ := gd_of E
  obtain ⟨h3, e4, E⟩ := bV_of E
  refine Rn.callV1 (pc' := 4) (As := []) (rest := []) (f_Model_letters_ok hst e4) (Nat.le_trans (by decide) hd) rfl kb_X11_114 ki_X11_letters rfl g1 rfl rfl (Nat.le_of_ble_eq_true rfl) dX11_readLine_1 rfl rfl ?_
  refine Rn.iload_n (pc' := 5) dX11_readLine_4 rfl 2 rfl rfl ?_
  refine Rn.iload_n (pc' := 6) dX11_readLine_5 rfl 1 rfl rfl ?_
  refine Rn.if_eq (pc' := 9) (tgt := 14) dX11_readLine_6 (by decide) rfl (fun c5 => ?_) (fun c5 => ?_)
  · replace E := (if_of E).1 c5
    refine Rn.bipush (pc' := 16) (v := (12 : Int32)) (hv := by decide) dX11_readLine_14 rfl ?_
    exact f_Model_readLine_b16_ok hst hd   E
  · replace E := (if_of E).2 c5
    refine Rn.bipush (pc' := 11) (v := (14 : Int32)) (hv := by decide) dX11_readLine_9 rfl ?_
    refine Rn.goto (pc' := 16) dX11_readLine_11 (by decide) ?_
    exact f_Model_readLine_b16_ok hst hd   E
def f_Model_readLine (h : Hp) (x0 : Nat) (x1 : Int32) (x2 : Int32) : Option (Int32 × Hp) := f_Model_readLine_b0  h x0 x1 x2
theorem f_Model_readLine_ok {l : Launch} {X : Nat × (Nat → Int32)} (hst : l.stackTraces = false) {h : Hp} {x0 : Nat} {x1 : Int32} {x2 : Int32} {r : Int32 × Hp} (E : f_Model_readLine h x0 x1 x2 = some r) : MC l X yX11_readLine mX11_readLine 49 [.ref x0, .int x1, .int x2] h (eI r) r.2 :=
  MC.body (by decide +kernel) rfl (by decide) hst (Nat.le_of_ble_eq_true rfl) (f_Model_readLine_b0_ok hst (Nat.le_refl _) E)
abbrev mX11_readAll : MI := (RX11, cX11_readAll, 3, (some Jvm.ClassFile.FieldType.int), [], false)
theorem ws_X11_readAll : ∀ w ∈ wsM yX11_readAll mX11_readAll, w ∈ gw := List.forall_mem_cons.mpr ⟨gw_at 1514 (by decide +kernel) (by decide +kernel), fun _ h => h⟩
theorem kb_X11_257 : KB RX11 257 yX11_readLine mX11_readLine 2 := ⟨gw_at 1527 (by decide +kernel) (by decide +kernel), gw_at 117 (by decide +kernel) (by decide +kernel), trivial, ws_X11_readLine, by decide +kernel, by decide +kernel, by decide +kernel, by decide⟩
theorem ki_X11_readLine : Cond.instanceMethod yX11_readLine ∈ gw ∧ Cond.selects yX11_readLine.cls yX11_readLine yX11_readLine ∈ gw := ⟨gw_at 1529 (by decide +kernel) (by decide +kernel), gw_at 44 (by decide +kernel) (by decide +kernel)⟩
def f_Model_readAll_b28  (k28 : Hp → Nat → Int32 → Int32 → Option (Int32 × Hp)) (h : Hp) (x0 : Nat) (x1 : Int32) (x2 : Int32)  : Option (Int32 × Hp) :=
if hS h x0 = 11 then (
bI (f_Model_readLine h x0 x1 x2) fun v2 h3 =>
if v2 = 0 then (
some ((-1 : Int32), h3)

) else (
if hS h3 x0 = 11 then (
bV (f_Model_blanks h3 x0) fun h8 =>
if hS h8 x0 = 11 then (
if (hI h8 x0 10) = (hI h8 x0 11) then (
some ((x2 + (1 : Int32)), h8)

) else (
bI (f_Model_isAt h8 x0 (59 : Int32) (59 : Int32)) fun v12 h13 =>
if v12 = 0 then (
some ((-1 : Int32), h13)

) else (
if hS h13 x0 = 11 then (
wr (sI h13 x0 10 ((hI h13 x0 10) + (1 : Int32))) fun h17 =>
k28 h17 x0 x1 (x2 + (1 : Int32))
) else none
)

)
) else none) else none
)
) else none
set_option maxRecDepth 20000 in
set_option maxHeartbeats 4000000 in
theorem f_Model_readAll_b28_ok {l : Launch} {X : Nat × (Nat → Int32)} (hst : l.stackTraces = false) {d : Nat} (hd : 50 ≤ d)   {k28 : Hp → Nat → Int32 → Int32 → Option (Int32 × Hp)} (hk28 : ∀ (h : Hp) (x0 : Nat) (x1 : Int32) (x2 : Int32)  (r : Int32 × Hp), k28 h x0 x1 x2 = some r → Rn l X mX11_readAll d 28 [(0, .ref x0), (1, .int x1), (2, .int x2)] [] h (eI r) r.2) {h : Hp} {x0 : Nat} {x1 : Int32} {x2 : Int32}  {r : Int32 × Hp} (E : f_Model_readAll_b28  k28 h x0 x1 x2 = some r) : Rn l X mX11_readAll d 28 [(0, .ref x0), (1, .int x1), (2, .int x2)] [] h (eI r) r.2 := by
  unfold f_Model_readAll_b28 at E
  refine Rn.aload_n (pc' := 29) dX11_readAll_28 rfl 0 rfl rfl ?_
  refine Rn.iload_n (pc' := 30) dX11_readAll_29 rfl 1 rfl rfl ?_
  refine Rn.iload_n (pc' := 31) dX11_readAll_30 rfl 2 rfl rfl ?_
  obtain ⟨g1, E⟩ := gd_of E
  obtain ⟨v2, h3, e4, E⟩ := bI_of E
  refine Rn.callV1 (pc' := 34) (As := [.int x1, .int x2]) (rest := []) (f_Model_readLine_ok hst e4) (Nat.le_trans (by decide) hd) rfl kb_X11_257 ki_X11_readLine rfl g1 rfl rfl (Nat.le_of_ble_eq_true rfl) dX11_readAll_31 rfl rfl ?_
  refine Rn.if_ne (pc' := 37) (tgt := 39) dX11_readAll_34 (by decide) rfl (fun c5 => ?_) (fun c5 => ?_)
  · replace E := (if_of E).2 c5
    refine Rn.aload_n (pc' := 40) dX11_readAll_39 rfl 0 rfl rfl ?_
    obtain ⟨g6, E⟩ := gd_of E
    obtain ⟨h8, e9, E⟩ := bV_of E
    refine Rn.callV1 (pc' := 43) (As := []) (rest := []) (f_Model_blanks_ok hst e9) (Nat.le_trans (by decide) hd) rfl kb_X11_102 ki_X11_blanks rfl g6 rfl rfl (Nat.le_of_ble_eq_true rfl) dX11_readAll_40 rfl rfl ?_
    refine Rn.aload_n (pc' := 44) dX11_readAll_43 rfl 0 rfl rfl ?_
    obtain ⟨g10, E⟩ := gd_of E
    refine Rn.getI (pc' := 47) fl_X11_89_10 g10 rfl dX11_readAll_44 rfl ?_
    refine Rn.aload_n (pc' := 48) dX11_readAll_47 rfl 0 rfl rfl ?_
    refine Rn.getI (pc' := 51) fl_X11_92_10 g10 rfl dX11_readAll_48 rfl ?_
    refine Rn.icmp_ne (pc' := 54) (tgt := 58) dX11_readAll_51 (by decide) rfl (fun c11 => ?_) (fun c11 => ?_)
    · replace E := (if_of E).2 c11
      refine Rn.aload_n (pc' := 59) dX11_readAll_58 rfl 0 rfl rfl ?_
      refine Rn.bipush (pc' := 61) (v := (59 : Int32)) (hv := by decide) dX11_readAll_59 rfl ?_
      refine Rn.bipush (pc' := 63) (v := (59 : Int32)) (hv := by decide) dX11_readAll_61 rfl ?_
      obtain ⟨v12, h13, e14, E⟩ := bI_of E
      refine Rn.callV1 (pc' := 66) (As := [.int (59 : Int32), .int (59 : Int32)]) (rest := []) (f_Model_isAt_ok hst e14) (Nat.le_trans (by decide) hd) rfl kb_X11_95 ki_X11_isAt rfl g10 rfl rfl (Nat.le_of_ble_eq_true rfl) dX11_readAll_63 rfl rfl ?_
      refine Rn.if_ne (pc' := 69) (tgt := 71) dX11_readAll_66 (by decide) rfl (fun c15 => ?_) (fun c15 => ?_)
      · replace E := (if_of E).2 c15
        refine Rn.aload_n (pc' := 72) dX11_readAll_71 rfl 0 rfl rfl ?_
        refine Rn.dup (pc' := 73) (hc := rfl) dX11_readAll_72 rfl ?_
        obtain ⟨g16, E⟩ := gd_of E
        refine Rn.getI (pc' := 76) fl_X11_89_10 g16 rfl dX11_readAll_73 rfl ?_
        refine Rn.iconst (pc' := 77) (v := (1 : Int32)) (hv := by decide) dX11_readAll_76 rfl ?_
        refine Rn.iadd (pc' := 78) dX11_readAll_77 rfl ?_
        refine Rn.putI (pc' := 81) fl_X11_89_10 (fun q hq => by cases hq; decide) g16 rfl rfl rfl dX11_readAll_78 rfl ?_
        replace E := wr_of E
        generalize eh18 : sI h13 x0 10 ((hI h13 x0 10) + (1 : Int32)) = h17 at E ⊢
        refine Rn.iinc (pc' := 84) (v := (x2 + (1 : Int32))) (L' := [(2, .int (x2 + (1 : Int32))), (0, .ref x0), (1, .int x1)]) dX11_readAll_81 2 rfl rfl (by decide) rfl rfl ?_
        refine Rn.goto (pc' := 28) dX11_readAll_84 (by decide) ?_
        refine Rn.sub [1, 2, 0] rfl ?_
        exact hk28 _ _ _ _ _ E
      · replace E := (if_of E).1 c15
        refine Rn.iconst (pc' := 70) (v := (-1 : Int32)) (hv := by decide) dX11_readAll_69 rfl ?_
        cases E
        exact Rn.zret rfl rfl dX11_readAll_70
    · replace E := (if_of E).1 c11
      refine Rn.iload_n (pc' := 55) dX11_readAll_54 rfl 2 rfl rfl ?_
      refine Rn.iconst (pc' := 56) (v := (1 : Int32)) (hv := by decide) dX11_readAll_55 rfl ?_
      refine Rn.iadd (pc' := 57) dX11_readAll_56 rfl ?_
      cases E
      exact Rn.zret rfl rfl dX11_readAll_57
  · replace E := (if_of E).1 c5
    refine Rn.iconst (pc' := 38) (v := (-1 : Int32)) (hv := by decide) dX11_readAll_37 rfl ?_
    cases E
    exact Rn.zret rfl rfl dX11_readAll_38
def f_Model_readAll_L28   (n : Nat) : Hp → Nat → Int32 → Int32 → Option (Int32 × Hp) := Nat.rec (motive := fun _ => Hp → Nat → Int32 → Int32 → Option (Int32 × Hp)) (fun _ _ _ _ => none) (fun _ rec => f_Model_readAll_b28   rec) n
theorem f_Model_readAll_L28_ok {l : Launch} {X : Nat × (Nat → Int32)} (hst : l.stackTraces = false) {d : Nat} (hd : 50 ≤ d)     : ∀ (n : Nat) (h : Hp) (x0 : Nat) (x1 : Int32) (x2 : Int32)  (r : Int32 × Hp), f_Model_readAll_L28   n h x0 x1 x2 = some r → Rn l X mX11_readAll d 28 [(0, .ref x0), (1, .int x1), (2, .int x2)] [] h (eI r) r.2 := by
  intro n
  induction n with
  | zero => intro h x0 x1 x2 r E; cases E
  | succ n ih => intro h x0 x1 x2 r E; exact f_Model_readAll_b28_ok hst hd   ih E
def f_Model_readAll_b0   (h : Hp) (x0 : Nat) (x1 : Int32)  : Option (Int32 × Hp) :=
if hS h x0 = 11 then (
bV (f_Model_uses h x0) fun h3 =>
if hS h3 x0 = 11 then (
wr (sI h3 x0 16 (0 : Int32)) fun h6 =>
bV (f_Model_blanks h6 x0) fun h9 =>
if hS h9 x0 = 11 then (
if (hI h9 x0 10) = (hI h9 x0 11) then (
some ((0 : Int32), h9)

) else (
f_Model_readAll_L28   FU h9 x0 x1 (0 : Int32)

)
) else none) else none) else none
set_option maxRecDepth 20000 in
set_option maxHeartbeats 4000000 in
theorem f_Model_readAll_b0_ok {l : Launch} {X : Nat × (Nat → Int32)} (hst : l.stackTraces = false) {d : Nat} (hd : 50 ≤ d)     {h : Hp} {x0 : Nat} {x1 : Int32}  {r : Int32 × Hp} (E : f_Model_readAll_b0   h x0 x1 = some r) : Rn l X mX11_readAll d 0 [(0, .ref x0), (1, .int x1)] [] h (eI r) r.2 := by
  unfold f_Model_readAll_b0 at E
  refine Rn.aload_n (pc' := 1) dX11_readAll_0 rfl 0 rfl rfl ?_
  obtain ⟨g1, E⟩ := gd_of E
  obtain ⟨h3, e4, E⟩ := bV_of E
  refine Rn.callV1 (pc' := 4) (As := []) (rest := []) (f_Model_uses_ok hst e4) (Nat.le_trans (by decide) hd) rfl kb_X11_254 ki_X11_uses rfl g1 rfl rfl (Nat.le_of_ble_eq_true rfl) dX11_readAll_1 rfl rfl ?_
  refine Rn.aload_n (pc' := 5) dX11_readAll_4 rfl 0 rfl rfl ?_
  refine Rn.iconst (pc' := 6) (v := (0 : Int32)) (hv := by decide) dX11_readAll_5 rfl ?_
  obtain ⟨g5, E⟩ := gd_of E
  refine Rn.putI (pc' := 9) fl_X11_196_10 (fun q hq => by cases hq; decide) g5 rfl rfl rfl dX11_readAll_6 rfl ?_
  replace E := wr_of E
  generalize eh7 : sI h3 x0 16 (0 : Int32) = h6 at E ⊢
  refine Rn.aload_n (pc' := 10) dX11_readAll_9 rfl 0 rfl rfl ?_
  obtain ⟨h9, e10, E⟩ := bV_of E
  refine Rn.callV1 (pc' := 13) (As := []) (rest := []) (f_Model_blanks_ok hst e10) (Nat.le_trans (by decide) hd) rfl kb_X11_102 ki_X11_blanks rfl (kp_sI eh7 g5) rfl rfl (Nat.le_of_ble_eq_true rfl) dX11_readAll_10 rfl rfl ?_
  refine Rn.aload_n (pc' := 14) dX11_readAll_13 rfl 0 rfl rfl ?_
  obtain ⟨g11, E⟩ := gd_of E
  refine Rn.getI (pc' := 17) fl_X11_89_10 g11 rfl dX11_readAll_14 rfl ?_
  refine Rn.aload_n (pc' := 18) dX11_readAll_17 rfl 0 rfl rfl ?_
  refine Rn.getI (pc' := 21) fl_X11_92_10 g11 rfl dX11_readAll_18 rfl ?_
  refine Rn.icmp_ne (pc' := 24) (tgt := 26) dX11_readAll_21 (by decide) rfl (fun c12 => ?_) (fun c12 => ?_)
  · replace E := (if_of E).2 c12
    refine Rn.iconst (pc' := 27) (v := (0 : Int32)) (hv := by decide) dX11_readAll_26 rfl ?_
    refine Rn.istore_n (pc' := 28) (L' := [(2, .int (0 : Int32)), (0, .ref x0), (1, .int x1)]) dX11_readAll_27 rfl (by decide) rfl rfl ?_
    refine Rn.sub [1, 2, 0] rfl ?_
    exact f_Model_readAll_L28_ok hst hd   FU _ _ _ _ _ E
  · replace E := (if_of E).1 c12
    refine Rn.iconst (pc' := 25) (v := (0 : Int32)) (hv := by decide) dX11_readAll_24 rfl ?_
    cases E
    exact Rn.zret rfl rfl dX11_readAll_25
def f_Model_readAll (h : Hp) (x0 : Nat) (x1 : Int32) : Option (Int32 × Hp) := f_Model_readAll_b0  h x0 x1
theorem f_Model_readAll_ok {l : Launch} {X : Nat × (Nat → Int32)} (hst : l.stackTraces = false) {h : Hp} {x0 : Nat} {x1 : Int32} {r : Int32 × Hp} (E : f_Model_readAll h x0 x1 = some r) : MC l X yX11_readAll mX11_readAll 50 [.ref x0, .int x1] h (eI r) r.2 :=
  MC.body (by decide +kernel) rfl (by decide) hst (Nat.le_of_ble_eq_true rfl) (f_Model_readAll_b0_ok hst (Nat.le_refl _) E)
abbrev mX11_law : MI := (RX11, cX11_law, 3, (some Jvm.ClassFile.FieldType.int), [], false)
theorem ws_X11_law : ∀ w ∈ wsM yX11_law mX11_law, w ∈ gw := List.forall_mem_cons.mpr ⟨gw_at 1696 (by decide +kernel) (by decide +kernel), fun _ h => h⟩
def f_Model_law_b52  (k52 : Hp → Nat → Int32 → Int32 → Option (Int32 × Hp)) (h : Hp) (x0 : Nat) (x1 : Int32) (x2 : Int32)  : Option (Int32 × Hp) :=
if (837 : Int32) ≤ x2 then (
if hS h x0 = 11 then (
if hS h (hR h x0 1) = 20 then (
if ib (3 : Int32) (hL h (hR h x0 1)) = true then (
wr (sI h (hR h x0 1) (ix (3 : Int32)) (1 : Int32)) fun h5 =>
some (x1, h5)
) else none) else none) else none
) else (
if hS h x0 = 11 then (
if hS h (hR h x0 1) = 20 then (
if ib ((1454 : Int32) + x2) (hL h (hR h x0 1)) = true then (
if ib ((617 : Int32) + x2) (hL h (hR h x0 1)) = true then (
wr (sI h (hR h x0 1) (ix ((617 : Int32) + x2)) (hI h (hR h x0 1) (ix ((1454 : Int32) + x2)))) fun h11 =>
k52 h11 x0 x1 (x2 + (1 : Int32))
) else none) else none) else none) else none
)

set_option maxRecDepth 20000 in
set_option maxHeartbeats 4000000 in
theorem f_Model_law_b52_ok {l : Launch} {X : Nat × (Nat → Int32)} (hst : l.stackTraces = false) {d : Nat} (hd : 51 ≤ d)   {k52 : Hp → Nat → Int32 → Int32 → Option (Int32 × Hp)} (hk52 : ∀ (h : Hp) (x0 : Nat) (x1 : Int32) (x2 : Int32)  (r : Int32 × Hp), k52 h x0 x1 x2 = some r → Rn l X mX11_law d 52 [(0, .ref x0), (1, .int x1), (2, .int x2)] [] h (eI r) r.2) {h : Hp} {x0 : Nat} {x1 : Int32} {x2 : Int32}  {r : Int32 × Hp} (E : f_Model_law_b52  k52 h x0 x1 x2 = some r) : Rn l X mX11_law d 52 [(0, .ref x0), (1, .int x1), (2, .int x2)] [] h (eI r) r.2 := by
  unfold f_Model_law_b52 at E
  refine Rn.iload_n (pc' := 53) dX11_law_52 rfl 2 rfl rfl ?_
  refine Rn.sipush (pc' := 56) (v := (837 : Int32)) (hv := by decide) dX11_law_53 rfl ?_
  refine Rn.icmp_ge (pc' := 59) (tgt := 85) dX11_law_56 (by decide) rfl (fun c1 => ?_) (fun c1 => ?_)
  · replace E := (if_of E).1 c1
    refine Rn.aload_n (pc' := 86) dX11_law_85 rfl 0 rfl rfl ?_
    obtain ⟨g2, E⟩ := gd_of E
    refine Rn.getR (pc' := 89) fl_X11_13_10 g2 rfl dX11_law_86 rfl ?_
    refine Rn.iconst (pc' := 90) (v := (3 : Int32)) (hv := by decide) dX11_law_89 rfl ?_
    refine Rn.iconst (pc' := 91) (v := (1 : Int32)) (hv := by decide) dX11_law_90 rfl ?_
    obtain ⟨g3, E⟩ := gd_of E
    obtain ⟨g4, E⟩ := gd_of E
    refine Rn.iast (pc' := 92) g3 g4 dX11_law_91 rfl ?_
    replace E := wr_of E
    generalize eh6 : sI h (hR h x0 1) (ix (3 : Int32)) (1 : Int32) = h5 at E ⊢
    refine Rn.iload_n (pc' := 93) dX11_law_92 rfl 1 rfl rfl ?_
    cases E
    exact Rn.zret rfl rfl dX11_law_93
  · replace E := (if_of E).2 c1
    refine Rn.aload_n (pc' := 60) dX11_law_59 rfl 0 rfl rfl ?_
    obtain ⟨g7, E⟩ := gd_of E
    refine Rn.getR (pc' := 63) fl_X11_13_10 g7 rfl dX11_law_60 rfl ?_
    refine Rn.sipush (pc' := 66) (v := (617 : Int32)) (hv := by decide) dX11_law_63 rfl ?_
    refine Rn.iload_n (pc' := 67) dX11_law_66 rfl 2 rfl rfl ?_
    refine Rn.iadd (pc' := 68) dX11_law_67 rfl ?_
    refine Rn.aload_n (pc' := 69) dX11_law_68 rfl 0 rfl rfl ?_
    refine Rn.getR (pc' := 72) fl_X11_13_10 g7 rfl dX11_law_69 rfl ?_
    refine Rn.sipush (pc' := 75) (v := (1454 : Int32)) (hv := by decide) dX11_law_72 rfl ?_
    refine Rn.iload_n (pc' := 76) dX11_law_75 rfl 2 rfl rfl ?_
    refine Rn.iadd (pc' := 77) dX11_law_76 rfl ?_
    obtain ⟨g8, E⟩ := gd_of E
    obtain ⟨g9, E⟩ := gd_of E
    refine Rn.iald (pc' := 78) g8 g9 dX11_law_77 rfl ?_
    obtain ⟨g10, E⟩ := gd_of E
    refine Rn.iast (pc' := 79) g8 g10 dX11_law_78 rfl ?_
    replace E := wr_of E
    generalize eh12 : sI h (hR h x0 1) (ix ((617 : Int32) + x2)) (hI h (hR h x0 1) (ix ((1454 : Int32) + x2))) = h11 at E ⊢
    refine Rn.iinc (pc' := 82) (v := (x2 + (1 : Int32))) (L' := [(2, .int (x2 + (1 : Int32))), (0, .ref x0), (1, .int x1)]) dX11_law_79 2 rfl rfl (by decide) rfl rfl ?_
    refine Rn.goto (pc' := 52) dX11_law_82 (by decide) ?_
    refine Rn.sub [1, 2, 0] rfl ?_
    exact hk52 _ _ _ _ _ E
def f_Model_law_L52   (n : Nat) : Hp → Nat → Int32 → Int32 → Option (Int32 × Hp) := Nat.rec (motive := fun _ => Hp → Nat → Int32 → Int32 → Option (Int32 × Hp)) (fun _ _ _ _ => none) (fun _ rec => f_Model_law_b52   rec) n
theorem f_Model_law_L52_ok {l : Launch} {X : Nat × (Nat → Int32)} (hst : l.stackTraces = false) {d : Nat} (hd : 51 ≤ d)     : ∀ (n : Nat) (h : Hp) (x0 : Nat) (x1 : Int32) (x2 : Int32)  (r : Int32 × Hp), f_Model_law_L52   n h x0 x1 x2 = some r → Rn l X mX11_law d 52 [(0, .ref x0), (1, .int x1), (2, .int x2)] [] h (eI r) r.2 := by
  intro n
  induction n with
  | zero => intro h x0 x1 x2 r E; cases E
  | succ n ih => intro h x0 x1 x2 r E; exact f_Model_law_b52_ok hst hd   ih E
def f_Model_law_b32   (h : Hp) (x0 : Nat) (x1 : Int32) (s0 : Nat) (s1 : Int32) : Option (Int32 × Hp) :=
if hS h s0 = 11 then (
bI (f_Model_throwsIf h s0 s1 (1 : Int32)) fun v2 h3 =>
if v2 = 0 then (
if hS h3 x0 = 11 then (
if hS h3 (hR h3 x0 1) = 20 then (
if ib (1454 : Int32) (hL h3 (hR h3 x0 1)) = true then (
wr (sI h3 (hR h3 x0 1) (ix (1454 : Int32)) x1) fun h9 =>
f_Model_law_L52   FU h9 x0 x1 (0 : Int32)
) else none) else none) else none
) else (
some ((0 : Int32), h3)

)
) else none
set_option maxRecDepth 20000 in
set_option maxHeartbeats 4000000 in
theorem f_Model_law_b32_ok {l : Launch} {X : Nat × (Nat → Int32)} (hst : l.stackTraces = false) {d : Nat} (hd : 51 ≤ d)     {h : Hp} {x0 : Nat} {x1 : Int32} {s0 : Nat} {s1 : Int32} {r : Int32 × Hp} (E : f_Model_law_b32   h x0 x1 s0 s1 = some r) : Rn l X mX11_law d 32 [(0, .ref x0), (1, .int x1)] [.int s1, .ref s0] h (eI r) r.2 := by
  unfold f_Model_law_b32 at E
  refine Rn.iconst (pc' := 33) (v := (1 : Int32)) (hv := by decide) dX11_law_32 rfl ?_
  obtain ⟨g1, E⟩ := gd_of E
  obtain ⟨v2, h3, e4, E⟩ := bI_of E
  refine Rn.callV1 (pc' := 36) (As := [.int s1, .int (1 : Int32)]) (rest := []) (f_Model_throwsIf_ok hst e4) (Nat.le_trans (by decide) hd) rfl kb_X11_265 ki_X11_throwsIf rfl g1 rfl rfl (Nat.le_of_ble_eq_true rfl) dX11_law_33 rfl rfl ?_
  refine Rn.if_eq (pc' := 39) (tgt := 41) dX11_law_36 (by decide) rfl (fun c5 => ?_) (fun c5 => ?_)
  · replace E := (if_of E).1 c5
    refine Rn.aload_n (pc' := 42) dX11_law_41 rfl 0 rfl rfl ?_
    obtain ⟨g6, E⟩ := gd_of E
    refine Rn.getR (pc' := 45) fl_X11_13_10 g6 rfl dX11_law_42 rfl ?_
    refine Rn.sipush (pc' := 48) (v := (1454 : Int32)) (hv := by decide) dX11_law_45 rfl ?_
    refine Rn.iload_n (pc' := 49) dX11_law_48 rfl 1 rfl rfl ?_
    obtain ⟨g7, E⟩ := gd_of E
    obtain ⟨g8, E⟩ := gd_of E
    refine Rn.iast (pc' := 50) g7 g8 dX11_law_49 rfl ?_
    replace E := wr_of E
    generalize eh10 : sI h3 (hR h3 x0 1) (ix (1454 : Int32)) x1 = h9 at E ⊢
    refine Rn.iconst (pc' := 51) (v := (0 : Int32)) (hv := by decide) dX11_law_50 rfl ?_
    refine Rn.istore_n (pc' := 52) (L' := [(2, .int (0 : Int32)), (0, .ref x0), (1, .int x1)]) dX11_law_51 rfl (by decide) rfl rfl ?_
    refine Rn.sub [1, 2, 0] rfl ?_
    exact f_Model_law_L52_ok hst hd   FU _ _ _ _ _ E
  · replace E := (if_of E).2 c5
    refine Rn.iconst (pc' := 40) (v := (0 : Int32)) (hv := by decide) dX11_law_39 rfl ?_
    cases E
    exact Rn.zret rfl rfl dX11_law_40
def f_Model_law_b19   (h : Hp) (x0 : Nat) (x1 : Int32) (s0 : Nat) (s1 : Int32) : Option (Int32 × Hp) :=
if hS h s0 = 11 then (
wr (sI h s0 14 s1) fun h2 =>
if 0 ≤ x1 then (
f_Model_law_b32   h2 x0 x1 x0 (0 : Int32)

) else (
f_Model_law_b32   h2 x0 x1 x0 (1 : Int32)

)
) else none
set_option maxRecDepth 20000 in
set_option maxHeartbeats 4000000 in
theorem f_Model_law_b19_ok {l : Launch} {X : Nat × (Nat → Int32)} (hst : l.stackTraces = false) {d : Nat} (hd : 51 ≤ d)     {h : Hp} {x0 : Nat} {x1 : Int32} {s0 : Nat} {s1 : Int32} {r : Int32 × Hp} (E : f_Model_law_b19   h x0 x1 s0 s1 = some r) : Rn l X mX11_law d 19 [(0, .ref x0), (1, .int x1)] [.int s1, .ref s0] h (eI r) r.2 := by
  unfold f_Model_law_b19 at E
  obtain ⟨g1, E⟩ := gd_of E
  refine Rn.putI (pc' := 22) fl_X11_33_10 (fun q hq => by cases hq; decide) g1 rfl rfl rfl dX11_law_19 rfl ?_
  replace E := wr_of E
  generalize eh3 : sI h s0 14 s1 = h2 at E ⊢
  refine Rn.aload_n (pc' := 23) dX11_law_22 rfl 0 rfl rfl ?_
  refine Rn.iload_n (pc' := 24) dX11_law_23 rfl 1 rfl rfl ?_
  refine Rn.if_ge (pc' := 27) (tgt := 31) dX11_law_24 (by decide) rfl (fun c4 => ?_) (fun c4 => ?_)
  · replace E := (if_of E).1 c4
    refine Rn.iconst (pc' := 32) (v := (0 : Int32)) (hv := by decide) dX11_law_31 rfl ?_
    exact f_Model_law_b32_ok hst hd   E
  · replace E := (if_of E).2 c4
    refine Rn.iconst (pc' := 28) (v := (1 : Int32)) (hv := by decide) dX11_law_27 rfl ?_
    refine Rn.goto (pc' := 32) dX11_law_28 (by decide) ?_
    exact f_Model_law_b32_ok hst hd   E
theorem kb_X11_261 : KB RX11 261 yX11_readAll mX11_readAll 1 := ⟨gw_at 1511 (by decide +kernel) (by decide +kernel), gw_at 117 (by decide +kernel) (by decide +kernel), trivial, ws_X11_readAll, by decide +kernel, by decide +kernel, by decide +kernel, by decide⟩
theorem ki_X11_readAll : Cond.instanceMethod yX11_readAll ∈ gw ∧ Cond.selects yX11_readAll.cls yX11_readAll yX11_readAll ∈ gw := ⟨gw_at 1513 (by decide +kernel) (by decide +kernel), gw_at 40 (by decide +kernel) (by decide +kernel)⟩
def f_Model_law_b0   (h : Hp) (x0 : Nat)  : Option (Int32 × Hp) :=
if hS h x0 = 11 then (
bI (f_Model_readAll h x0 (0 : Int32)) fun v2 h3 =>
if 0 ≤ v2 then (
f_Model_law_b19   h3 x0 v2 x0 (-1 : Int32)

) else (
if hS h3 x0 = 11 then (
f_Model_law_b19   h3 x0 v2 x0 (hI h3 x0 12)
) else none
)
) else none
set_option maxRecDepth 20000 in
set_option maxHeartbeats 4000000 in
theorem f_Model_law_b0_ok {l : Launch} {X : Nat × (Nat → Int32)} (hst : l.stackTraces = false) {d : Nat} (hd : 51 ≤ d)     {h : Hp} {x0 : Nat}  {r : Int32 × Hp} (E : f_Model_law_b0   h x0 = some r) : Rn l X mX11_law d 0 [(0, .ref x0)] [] h (eI r) r.2 := by
  unfold f_Model_law_b0 at E
  refine Rn.aload_n (pc' := 1) dX11_law_0 rfl 0 rfl rfl ?_
  refine Rn.iconst (pc' := 2) (v := (0 : Int32)) (hv := by decide) dX11_law_1 rfl ?_
  obtain ⟨g1, E⟩ := gd_of E
  obtain ⟨v2, h3, e4, E⟩ := bI_of E
  refine Rn.callV1 (pc' := 5) (As := [.int (0 : Int32)]) (rest := []) (f_Model_readAll_ok hst e4) (Nat.le_trans (by decide) hd) rfl kb_X11_261 ki_X11_readAll rfl g1 rfl rfl (Nat.le_of_ble_eq_true rfl) dX11_law_2 rfl rfl ?_
  refine Rn.istore_n (pc' := 6) (L' := [(1, .int v2), (0, .ref x0)]) dX11_law_5 rfl (by decide) rfl rfl ?_
  refine Rn.aload_n (pc' := 7) dX11_law_6 rfl 1 rfl rfl ?_
  refine Rn.iload_n (pc' := 8) dX11_law_7 rfl 0 rfl rfl ?_
  refine Rn.if_ge (pc' := 11) (tgt := 18) dX11_law_8 (by decide) rfl (fun c5 => ?_) (fun c5 => ?_)
  · replace E := (if_of E).1 c5
    refine Rn.iconst (pc' := 19) (v := (-1 : Int32)) (hv := by decide) dX11_law_18 rfl ?_
    refine Rn.sub [1, 0] rfl ?_
    exact f_Model_law_b19_ok hst hd   E
  · replace E := (if_of E).2 c5
    refine Rn.aload_n (pc' := 12) dX11_law_11 rfl 1 rfl rfl ?_
    obtain ⟨g6, E⟩ := gd_of E
    refine Rn.getI (pc' := 15) fl_X11_99_10 g6 rfl dX11_law_12 rfl ?_
    refine Rn.goto (pc' := 19) dX11_law_15 (by decide) ?_
    refine Rn.sub [1, 0] rfl ?_
    exact f_Model_law_b19_ok hst hd   E
def f_Model_law (h : Hp) (x0 : Nat) : Option (Int32 × Hp) := f_Model_law_b0  h x0
theorem f_Model_law_ok {l : Launch} {X : Nat × (Nat → Int32)} (hst : l.stackTraces = false) {h : Hp} {x0 : Nat} {r : Int32 × Hp} (E : f_Model_law h x0 = some r) : MC l X yX11_law mX11_law 51 [.ref x0] h (eI r) r.2 :=
  MC.body (by decide +kernel) rfl (by decide) hst (Nat.le_of_ble_eq_true rfl) (f_Model_law_b0_ok hst (Nat.le_refl _) E)
abbrev mX4_begin : MI := (RX4, cX4_begin, 3, none, [], false)
theorem ws_X4_begin : ∀ w ∈ wsM yX4_begin mX4_begin, w ∈ gw := List.forall_mem_cons.mpr ⟨gw_at 722 (by decide +kernel) (by decide +kernel), fun _ h => h⟩
theorem fl_X4_24_4 : FL RX4 24 4 7 := ⟨_, rfl, by decide, "VintageWater$LandText", gw_at 184 (by decide +kernel) (by decide +kernel), Or.inl rfl⟩
theorem fl_X4_28_4 : FL RX4 28 4 8 := ⟨_, rfl, by decide, "VintageWater$LandText", gw_at 185 (by decide +kernel) (by decide +kernel), Or.inl rfl⟩
theorem fl_X4_31_4 : FL RX4 31 4 2 := ⟨_, rfl, by decide, "VintageWater$LandText", gw_at 197 (by decide +kernel) (by decide +kernel), Or.inr (gw_at 198 (by decide +kernel) (by decide +kernel))⟩
def f_LandText_begin_b0   (h : Hp) (x0 : Nat) (x1 : Int32) (x2 : Int32)  : Option (Hp) :=
if hS h x0 = 5 then (
wr (sI h x0 7 x1) fun h2 =>
wr (sI h2 x0 8 x2) fun h4 =>
wr (sI h4 x0 2 (0 : Int32)) fun h6 =>
some h6
) else none
set_option maxRecDepth 20000 in
set_option maxHeartbeats 4000000 in
theorem f_LandText_begin_b0_ok {l : Launch} {X : Nat × (Nat → Int32)} (hst : l.stackTraces = false) {d : Nat} (hd : 0 ≤ d)     {h : Hp} {x0 : Nat} {x1 : Int32} {x2 : Int32}  {r : Hp} (E : f_LandText_begin_b0   h x0 x1 x2 = some r) : Rn l X mX4_begin d 0 [(0, .ref x0), (1, .int x1), (2, .int x2)] [] h (eV r) r := by
  unfold f_LandText_begin_b0 at E
  refine Rn.aload_n (pc' := 1) dX4_begin_0 rfl 0 rfl rfl ?_
  refine Rn.iload_n (pc' := 2) dX4_begin_1 rfl 1 rfl rfl ?_
  obtain ⟨g1, E⟩ := gd_of E
  refine Rn.putI (pc' := 5) fl_X4_24_4 (fun q hq => by cases hq; decide) g1 rfl rfl rfl dX4_begin_2 rfl ?_
  replace E := wr_of E
  generalize eh3 : sI h x0 7 x1 = h2 at E ⊢
  refine Rn.aload_n (pc' := 6) dX4_begin_5 rfl 0 rfl rfl ?_
  refine Rn.iload_n (pc' := 7) dX4_begin_6 rfl 2 rfl rfl ?_
  refine Rn.putI (pc' := 10) fl_X4_28_4 (fun q hq => by cases hq; decide) (kp_sI eh3 g1) rfl rfl rfl dX4_begin_7 rfl ?_
  replace E := wr_of E
  generalize eh5 : sI h2 x0 8 x2 = h4 at E ⊢
  refine Rn.aload_n (pc' := 11) dX4_begin_10 rfl 0 rfl rfl ?_
  refine Rn.iconst (pc' := 12) (v := (0 : Int32)) (hv := by decide) dX4_begin_11 rfl ?_
  refine Rn.putI (pc' := 15) fl_X4_31_4 (fun q hq => by cases hq; decide) (kp_sI eh5 (kp_sI eh3 g1)) rfl rfl rfl dX4_begin_12 rfl ?_
  replace E := wr_of E
  generalize eh7 : sI h4 x0 2 (0 : Int32) = h6 at E ⊢
  cases E
  exact Rn.vret rfl dX4_begin_15
def f_LandText_begin (h : Hp) (x0 : Nat) (x1 : Int32) (x2 : Int32) : Option (Hp) := f_LandText_begin_b0  h x0 x1 x2
theorem f_LandText_begin_ok {l : Launch} {X : Nat × (Nat → Int32)} (hst : l.stackTraces = false) {h : Hp} {x0 : Nat} {x1 : Int32} {x2 : Int32} {r : Hp} (E : f_LandText_begin h x0 x1 x2 = some r) : MC l X yX4_begin mX4_begin 0 [.ref x0, .int x1, .int x2] h (eV r) r :=
  MC.body (by decide +kernel) rfl (by decide) hst (Nat.le_of_ble_eq_true rfl) (f_LandText_begin_b0_ok hst (Nat.le_refl _) E)
abbrev mX4_mayBegin : MI := (RX4, cX4_mayBegin, 2, (some Jvm.ClassFile.FieldType.boolean), [], false)
theorem ws_X4_mayBegin : ∀ w ∈ wsM yX4_mayBegin mX4_mayBegin, w ∈ gw := List.forall_mem_cons.mpr ⟨gw_at 835 (by decide +kernel) (by decide +kernel), fun _ h => h⟩
def f_LandText_mayBegin_b0   (h : Hp) (x0 : Nat) (x1 : Int32)  : Option (Int32 × Hp) :=
if x1 = (1002 : Int32) then (
some ((1 : Int32), h)

) else (
if x1 = (1015 : Int32) then (
if hS h x0 = 5 then (
if (8 : Int32) ≤ (hI h x0 7) then (
some ((0 : Int32), h)

) else (
some ((1 : Int32), h)

)
) else none
) else (
if x1 = (1016 : Int32) then (
some ((1 : Int32), h)

) else (
if x1 = (1019 : Int32) then (
if hS h x0 = 5 then (
if (8 : Int32) ≤ (hI h x0 8) then (
some ((0 : Int32), h)

) else (
some ((1 : Int32), h)

)
) else none
) else (
if x1 = (1022 : Int32) then (
some ((1 : Int32), h)

) else (
if x1 = (1025 : Int32) then (
some ((1 : Int32), h)

) else (
if x1 = (1026 : Int32) then (
some ((1 : Int32), h)

) else (
some ((0 : Int32), h)

)))))))

set_option maxRecDepth 20000 in
set_option maxHeartbeats 4000000 in
theorem f_LandText_mayBegin_b0_ok {l : Launch} {X : Nat × (Nat → Int32)} (hst : l.stackTraces = false) {d : Nat} (hd : 0 ≤ d)     {h : Hp} {x0 : Nat} {x1 : Int32}  {r : Int32 × Hp} (E : f_LandText_mayBegin_b0   h x0 x1 = some r) : Rn l X mX4_mayBegin d 0 [(0, .ref x0), (1, .int x1)] [] h (eI r) r.2 := by
  unfold f_LandText_mayBegin_b0 at E
  refine Rn.iload_n (pc' := 1) dX4_mayBegin_0 rfl 1 rfl rfl ?_
  by_cases c3 : x1 = (1002 : Int32)
  · replace E := (if_of E).1 c3
    skip
    refine Rn.tabIn (x := x1) (tgt := 146) dX4_mayBegin_1 (by rw [c3]; decide) (by rw [c3]; decide) (by rw [c3]; rfl) (by decide) ?_
    refine Rn.iconst (pc' := 147) (v := (1 : Int32)) (hv := by decide) dX4_mayBegin_146 rfl ?_
    cases E
    exact Rn.zret rfl rfl dX4_mayBegin_147
  replace E := (if_of E).2 c3
  by_cases c4 : x1 = (1015 : Int32)
  · replace E := (if_of E).1 c4
    skip
    refine Rn.tabIn (x := x1) (tgt := 116) dX4_mayBegin_1 (by rw [c4]; decide) (by rw [c4]; decide) (by rw [c4]; rfl) (by decide) ?_
    refine Rn.aload_n (pc' := 117) dX4_mayBegin_116 rfl 0 rfl rfl ?_
    obtain ⟨g5, E⟩ := gd_of E
    refine Rn.getI (pc' := 120) fl_X4_24_4 g5 rfl dX4_mayBegin_117 rfl ?_
    refine Rn.bipush (pc' := 122) (v := (8 : Int32)) (hv := by decide) dX4_mayBegin_120 rfl ?_
    refine Rn.icmp_ge (pc' := 125) (tgt := 129) dX4_mayBegin_122 (by decide) rfl (fun c6 => ?_) (fun c6 => ?_)
    · replace E := (if_of E).1 c6
      refine Rn.iconst (pc' := 130) (v := (0 : Int32)) (hv := by decide) dX4_mayBegin_129 rfl ?_
      cases E
      exact Rn.zret rfl rfl dX4_mayBegin_130
    · replace E := (if_of E).2 c6
      refine Rn.iconst (pc' := 126) (v := (1 : Int32)) (hv := by decide) dX4_mayBegin_125 rfl ?_
      refine Rn.goto (pc' := 130) dX4_mayBegin_126 (by decide) ?_
      cases E
      exact Rn.zret rfl rfl dX4_mayBegin_130
  replace E := (if_of E).2 c4
  by_cases c7 : x1 = (1016 : Int32)
  · replace E := (if_of E).1 c7
    skip
    refine Rn.tabIn (x := x1) (tgt := 146) dX4_mayBegin_1 (by rw [c7]; decide) (by rw [c7]; decide) (by rw [c7]; rfl) (by decide) ?_
    refine Rn.iconst (pc' := 147) (v := (1 : Int32)) (hv := by decide) dX4_mayBegin_146 rfl ?_
    cases E
    exact Rn.zret rfl rfl dX4_mayBegin_147
  replace E := (if_of E).2 c7
  by_cases c8 : x1 = (1019 : Int32)
  · replace E := (if_of E).1 c8
    skip
    refine Rn.tabIn (x := x1) (tgt := 131) dX4_mayBegin_1 (by rw [c8]; decide) (by rw [c8]; decide) (by rw [c8]; rfl) (by decide) ?_
    refine Rn.aload_n (pc' := 132) dX4_mayBegin_131 rfl 0 rfl rfl ?_
    obtain ⟨g9, E⟩ := gd_of E
    refine Rn.getI (pc' := 135) fl_X4_28_4 g9 rfl dX4_mayBegin_132 rfl ?_
    refine Rn.bipush (pc' := 137) (v := (8 : Int32)) (hv := by decide) dX4_mayBegin_135 rfl ?_
    refine Rn.icmp_ge (pc' := 140) (tgt := 144) dX4_mayBegin_137 (by decide) rfl (fun c10 => ?_) (fun c10 => ?_)
    · replace E := (if_of E).1 c10
      refine Rn.iconst (pc' := 145) (v := (0 : Int32)) (hv := by decide) dX4_mayBegin_144 rfl ?_
      cases E
      exact Rn.zret rfl rfl dX4_mayBegin_145
    · replace E := (if_of E).2 c10
      refine Rn.iconst (pc' := 141) (v := (1 : Int32)) (hv := by decide) dX4_mayBegin_140 rfl ?_
      refine Rn.goto (pc' := 145) dX4_mayBegin_141 (by decide) ?_
      cases E
      exact Rn.zret rfl rfl dX4_mayBegin_145
  replace E := (if_of E).2 c8
  by_cases c11 : x1 = (1022 : Int32)
  · replace E := (if_of E).1 c11
    skip
    refine Rn.tabIn (x := x1) (tgt := 146) dX4_mayBegin_1 (by rw [c11]; decide) (by rw [c11]; decide) (by rw [c11]; rfl) (by decide) ?_
    refine Rn.iconst (pc' := 147) (v := (1 : Int32)) (hv := by decide) dX4_mayBegin_146 rfl ?_
    cases E
    exact Rn.zret rfl rfl dX4_mayBegin_147
  replace E := (if_of E).2 c11
  by_cases c12 : x1 = (1025 : Int32)
  · replace E := (if_of E).1 c12
    skip
    refine Rn.tabIn (x := x1) (tgt := 146) dX4_mayBegin_1 (by rw [c12]; decide) (by rw [c12]; decide) (by rw [c12]; rfl) (by decide) ?_
    refine Rn.iconst (pc' := 147) (v := (1 : Int32)) (hv := by decide) dX4_mayBegin_146 rfl ?_
    cases E
    exact Rn.zret rfl rfl dX4_mayBegin_147
  replace E := (if_of E).2 c12
  by_cases c13 : x1 = (1026 : Int32)
  · replace E := (if_of E).1 c13
    skip
    refine Rn.tabIn (x := x1) (tgt := 146) dX4_mayBegin_1 (by rw [c13]; decide) (by rw [c13]; decide) (by rw [c13]; rfl) (by decide) ?_
    refine Rn.iconst (pc' := 147) (v := (1 : Int32)) (hv := by decide) dX4_mayBegin_146 rfl ?_
    cases E
    exact Rn.zret rfl rfl dX4_mayBegin_147
  replace E := (if_of E).2 c13
  refine Rn.tabDef (x := x1) (tgt := 148) dX4_mayBegin_1 (by decide) (fun z hz hq => ?_) ?_
  · have hz2 : z = 1002 ∨ z = 1003 ∨ z = 1004 ∨ z = 1005 ∨ z = 1006 ∨ z = 1007 ∨ z = 1008 ∨ z = 1009 ∨ z = 1010 ∨ z = 1011 ∨ z = 1012 ∨ z = 1013 ∨ z = 1014 ∨ z = 1015 ∨ z = 1016 ∨ z = 1017 ∨ z = 1018 ∨ z = 1019 ∨ z = 1020 ∨ z = 1021 ∨ z = 1022 ∨ z = 1023 ∨ z = 1024 ∨ z = 1025 ∨ z = 1026 := by omega
    rcases hz2 with rfl | rfl | rfl | rfl | rfl | rfl | rfl | rfl | rfl | rfl | rfl | rfl | rfl | rfl | rfl | rfl | rfl | rfl | rfl | rfl | rfl | rfl | rfl | rfl | rfl
    · exact absurd hz c3
    · rfl
    · rfl
    · rfl
    · rfl
    · rfl
    · rfl
    · rfl
    · rfl
    · rfl
    · rfl
    · rfl
    · rfl
    · exact absurd hz c4
    · exact absurd hz c7
    · rfl
    · rfl
    · exact absurd hz c8
    · rfl
    · rfl
    · exact absurd hz c11
    · rfl
    · rfl
    · exact absurd hz c12
    · exact absurd hz c13
  · refine Rn.iconst (pc' := 149) (v := (0 : Int32)) (hv := by decide) dX4_mayBegin_148 rfl ?_
    cases E
    exact Rn.zret rfl rfl dX4_mayBegin_149
def f_LandText_mayBegin (h : Hp) (x0 : Nat) (x1 : Int32) : Option (Int32 × Hp) := f_LandText_mayBegin_b0  h x0 x1
theorem f_LandText_mayBegin_ok {l : Launch} {X : Nat × (Nat → Int32)} (hst : l.stackTraces = false) {h : Hp} {x0 : Nat} {x1 : Int32} {r : Int32 × Hp} (E : f_LandText_mayBegin h x0 x1 = some r) : MC l X yX4_mayBegin mX4_mayBegin 0 [.ref x0, .int x1] h (eI r) r.2 :=
  MC.body (by decide +kernel) rfl (by decide) hst (Nat.le_of_ble_eq_true rfl) (f_LandText_mayBegin_b0_ok hst (Nat.le_refl _) E)
abbrev mX4_isOne : MI := (RX4, cX4_isOne, 3, (some Jvm.ClassFile.FieldType.boolean), [], false)
theorem ws_X4_isOne : ∀ w ∈ wsM yX4_isOne mX4_isOne, w ∈ gw := List.forall_mem_cons.mpr ⟨gw_at 855 (by decide +kernel) (by decide +kernel), fun _ h => h⟩
theorem fl_X4_34_4 : FL RX4 34 4 0 := ⟨_, rfl, by decide, "VintageWater$LandText", gw_at 190 (by decide +kernel) (by decide +kernel), Or.inr (gw_at 191 (by decide +kernel) (by decide +kernel))⟩
theorem kb_X4_93 : KB RX4 93 yX9_number mX9_number 2 := ⟨gw_at 856 (by decide +kernel) (by decide +kernel), gw_at 108 (by decide +kernel) (by decide +kernel), trivial, ws_X9_number, by decide +kernel, by decide +kernel, by decide +kernel, by decide⟩
theorem fl_X4_59_4 : FL RX4 59 4 9 := ⟨_, rfl, by decide, "VintageWater$LandText", gw_at 186 (by decide +kernel) (by decide +kernel), Or.inl rfl⟩
def f_LandText_isOne_b0   (h : Hp) (x0 : Nat) (x1 : Int32) (x2 : Int32)  : Option (Int32 × Hp) :=
if hS h x0 = 5 then (
if hS h (hR h x0 0) = 9 then (
bI (f_Tape_number h (hR h x0 0) x1 x2) fun v3 h4 =>
if hS h4 x0 = 5 then (
wr (sI h4 x0 9 v3) fun h7 =>
if (hI h7 x0 9) = (-1 : Int32) then (
some ((0 : Int32), h7)

) else (
some ((1 : Int32), h7)

)
) else none) else none) else none
set_option maxRecDepth 20000 in
set_option maxHeartbeats 4000000 in
theorem f_LandText_isOne_b0_ok {l : Launch} {X : Nat × (Nat → Int32)} (hst : l.stackTraces = false) {d : Nat} (hd : 2 ≤ d)     {h : Hp} {x0 : Nat} {x1 : Int32} {x2 : Int32}  {r : Int32 × Hp} (E : f_LandText_isOne_b0   h x0 x1 x2 = some r) : Rn l X mX4_isOne d 0 [(0, .ref x0), (1, .int x1), (2, .int x2)] [] h (eI r) r.2 := by
  unfold f_LandText_isOne_b0 at E
  refine Rn.aload_n (pc' := 1) dX4_isOne_0 rfl 0 rfl rfl ?_
  refine Rn.aload_n (pc' := 2) dX4_isOne_1 rfl 0 rfl rfl ?_
  obtain ⟨g1, E⟩ := gd_of E
  refine Rn.getR (pc' := 5) fl_X4_34_4 g1 rfl dX4_isOne_2 rfl ?_
  refine Rn.iload_n (pc' := 6) dX4_isOne_5 rfl 1 rfl rfl ?_
  refine Rn.iload_n (pc' := 7) dX4_isOne_6 rfl 2 rfl rfl ?_
  obtain ⟨g2, E⟩ := gd_of E
  obtain ⟨v3, h4, e5, E⟩ := bI_of E
  refine Rn.callV1 (pc' := 10) (As := [.int x1, .int x2]) (rest := [.ref x0]) (f_Tape_number_ok hst e5) (Nat.le_trans (by decide) hd) rfl kb_X4_93 ki_X9_number rfl g2 rfl rfl (Nat.le_of_ble_eq_true rfl) dX4_isOne_7 rfl rfl ?_
  obtain ⟨g6, E⟩ := gd_of E
  refine Rn.putI (pc' := 13) fl_X4_59_4 (fun q hq => by cases hq; decide) g6 rfl rfl rfl dX4_isOne_10 rfl ?_
  replace E := wr_of E
  generalize eh8 : sI h4 x0 9 v3 = h7 at E ⊢
  refine Rn.aload_n (pc' := 14) dX4_isOne_13 rfl 0 rfl rfl ?_
  refine Rn.getI (pc' := 17) fl_X4_59_4 (kp_sI eh8 g6) rfl dX4_isOne_14 rfl ?_
  refine Rn.iconst (pc' := 18) (v := (-1 : Int32)) (hv := by decide) dX4_isOne_17 rfl ?_
  refine Rn.icmp_eq (pc' := 21) (tgt := 25) dX4_isOne_18 (by decide) rfl (fun c9 => ?_) (fun c9 => ?_)
  · replace E := (if_of E).1 c9
    refine Rn.iconst (pc' := 26) (v := (0 : Int32)) (hv := by decide) dX4_isOne_25 rfl ?_
    cases E
    exact Rn.zret rfl rfl dX4_isOne_26
  · replace E := (if_of E).2 c9
    refine Rn.iconst (pc' := 22) (v := (1 : Int32)) (hv := by decide) dX4_isOne_21 rfl ?_
    refine Rn.goto (pc' := 26) dX4_isOne_22 (by decide) ?_
    cases E
    exact Rn.zret rfl rfl dX4_isOne_26
def f_LandText_isOne (h : Hp) (x0 : Nat) (x1 : Int32) (x2 : Int32) : Option (Int32 × Hp) := f_LandText_isOne_b0  h x0 x1 x2
theorem f_LandText_isOne_ok {l : Launch} {X : Nat × (Nat → Int32)} (hst : l.stackTraces = false) {h : Hp} {x0 : Nat} {x1 : Int32} {x2 : Int32} {r : Int32 × Hp} (E : f_LandText_isOne h x0 x1 x2 = some r) : MC l X yX4_isOne mX4_isOne 2 [.ref x0, .int x1, .int x2] h (eI r) r.2 :=
  MC.body (by decide +kernel) rfl (by decide) hst (Nat.le_of_ble_eq_true rfl) (f_LandText_isOne_b0_ok hst (Nat.le_refl _) E)
abbrev mX4_isThree : MI := (RX4, cX4_isThree, 3, (some Jvm.ClassFile.FieldType.boolean), [], false)
theorem ws_X4_isThree : ∀ w ∈ wsM yX4_isThree mX4_isThree, w ∈ gw := List.forall_mem_cons.mpr ⟨gw_at 880 (by decide +kernel) (by decide +kernel), fun _ h => h⟩
theorem fl_X4_65_4 : FL RX4 65 4 11 := ⟨_, rfl, by decide, "VintageWater$LandText", gw_at 188 (by decide +kernel) (by decide +kernel), Or.inl rfl⟩
def f_LandText_isThree_b0   (h : Hp) (x0 : Nat) (x1 : Int32) (x2 : Int32)  : Option (Int32 × Hp) :=
if hS h x0 = 5 then (
if hS h (hR h x0 0) = 9 then (
bI (f_Tape_number h (hR h x0 0) x1 x2) fun v3 h4 =>
if hS h4 x0 = 5 then (
wr (sI h4 x0 11 v3) fun h7 =>
if (hI h7 x0 11) = (-1 : Int32) then (
some ((0 : Int32), h7)

) else (
some ((1 : Int32), h7)

)
) else none) else none) else none
set_option maxRecDepth 20000 in
set_option maxHeartbeats 4000000 in
theorem f_LandText_isThree_b0_ok {l : Launch} {X : Nat × (Nat → Int32)} (hst : l.stackTraces = false) {d : Nat} (hd : 2 ≤ d)     {h : Hp} {x0 : Nat} {x1 : Int32} {x2 : Int32}  {r : Int32 × Hp} (E : f_LandText_isThree_b0   h x0 x1 x2 = some r) : Rn l X mX4_isThree d 0 [(0, .ref x0), (1, .int x1), (2, .int x2)] [] h (eI r) r.2 := by
  unfold f_LandText_isThree_b0 at E
  refine Rn.aload_n (pc' := 1) dX4_isThree_0 rfl 0 rfl rfl ?_
  refine Rn.aload_n (pc' := 2) dX4_isThree_1 rfl 0 rfl rfl ?_
  obtain ⟨g1, E⟩ := gd_of E
  refine Rn.getR (pc' := 5) fl_X4_34_4 g1 rfl dX4_isThree_2 rfl ?_
  refine Rn.iload_n (pc' := 6) dX4_isThree_5 rfl 1 rfl rfl ?_
  refine Rn.iload_n (pc' := 7) dX4_isThree_6 rfl 2 rfl rfl ?_
  obtain ⟨g2, E⟩ := gd_of E
  obtain ⟨v3, h4, e5, E⟩ := bI_of E
  refine Rn.callV1 (pc' := 10) (As := [.int x1, .int x2]) (rest := [.ref x0]) (f_Tape_number_ok hst e5) (Nat.le_trans (by decide) hd) rfl kb_X4_93 ki_X9_number rfl g2 rfl rfl (Nat.le_of_ble_eq_true rfl) dX4_isThree_7 rfl rfl ?_
  obtain ⟨g6, E⟩ := gd_of E
  refine Rn.putI (pc' := 13) fl_X4_65_4 (fun q hq => by cases hq; decide) g6 rfl rfl rfl dX4_isThree_10 rfl ?_
  replace E := wr_of E
  generalize eh8 : sI h4 x0 11 v3 = h7 at E ⊢
  refine Rn.aload_n (pc' := 14) dX4_isThree_13 rfl 0 rfl rfl ?_
  refine Rn.getI (pc' := 17) fl_X4_65_4 (kp_sI eh8 g6) rfl dX4_isThree_14 rfl ?_
  refine Rn.iconst (pc' := 18) (v := (-1 : Int32)) (hv := by decide) dX4_isThree_17 rfl ?_
  refine Rn.icmp_eq (pc' := 21) (tgt := 25) dX4_isThree_18 (by decide) rfl (fun c9 => ?_) (fun c9 => ?_)
  · replace E := (if_of E).1 c9
    refine Rn.iconst (pc' := 26) (v := (0 : Int32)) (hv := by decide) dX4_isThree_25 rfl ?_
    cases E
    exact Rn.zret rfl rfl dX4_isThree_26
  · replace E := (if_of E).2 c9
    refine Rn.iconst (pc' := 22) (v := (1 : Int32)) (hv := by decide) dX4_isThree_21 rfl ?_
    refine Rn.goto (pc' := 26) dX4_isThree_22 (by decide) ?_
    cases E
    exact Rn.zret rfl rfl dX4_isThree_26
def f_LandText_isThree (h : Hp) (x0 : Nat) (x1 : Int32) (x2 : Int32) : Option (Int32 × Hp) := f_LandText_isThree_b0  h x0 x1 x2
theorem f_LandText_isThree_ok {l : Launch} {X : Nat × (Nat → Int32)} (hst : l.stackTraces = false) {h : Hp} {x0 : Nat} {x1 : Int32} {x2 : Int32} {r : Int32 × Hp} (E : f_LandText_isThree h x0 x1 x2 = some r) : MC l X yX4_isThree mX4_isThree 2 [.ref x0, .int x1, .int x2] h (eI r) r.2 :=
  MC.body (by decide +kernel) rfl (by decide) hst (Nat.le_of_ble_eq_true rfl) (f_LandText_isThree_b0_ok hst (Nat.le_refl _) E)
abbrev mX4_isTwo : MI := (RX4, cX4_isTwo, 3, (some Jvm.ClassFile.FieldType.boolean), [], false)
theorem ws_X4_isTwo : ∀ w ∈ wsM yX4_isTwo mX4_isTwo, w ∈ gw := List.forall_mem_cons.mpr ⟨gw_at 876 (by decide +kernel) (by decide +kernel), fun _ h => h⟩
theorem fl_X4_62_4 : FL RX4 62 4 10 := ⟨_, rfl, by decide, "VintageWater$LandText", gw_at 187 (by decide +kernel) (by decide +kernel), Or.inl rfl⟩
def f_LandText_isTwo_b0   (h : Hp) (x0 : Nat) (x1 : Int32) (x2 : Int32)  : Option (Int32 × Hp) :=
if hS h x0 = 5 then (
if hS h (hR h x0 0) = 9 then (
bI (f_Tape_number h (hR h x0 0) x1 x2) fun v3 h4 =>
if hS h4 x0 = 5 then (
wr (sI h4 x0 10 v3) fun h7 =>
if (hI h7 x0 10) = (-1 : Int32) then (
some ((0 : Int32), h7)

) else (
some ((1 : Int32), h7)

)
) else none) else none) else none
set_option maxRecDepth 20000 in
set_option maxHeartbeats 4000000 in
theorem f_LandText_isTwo_b0_ok {l : Launch} {X : Nat × (Nat → Int32)} (hst : l.stackTraces = false) {d : Nat} (hd : 2 ≤ d)     {h : Hp} {x0 : Nat} {x1 : Int32} {x2 : Int32}  {r : Int32 × Hp} (E : f_LandText_isTwo_b0   h x0 x1 x2 = some r) : Rn l X mX4_isTwo d 0 [(0, .ref x0), (1, .int x1), (2, .int x2)] [] h (eI r) r.2 := by
  unfold f_LandText_isTwo_b0 at E
  refine Rn.aload_n (pc' := 1) dX4_isTwo_0 rfl 0 rfl rfl ?_
  refine Rn.aload_n (pc' := 2) dX4_isTwo_1 rfl 0 rfl rfl ?_
  obtain ⟨g1, E⟩ := gd_of E
  refine Rn.getR (pc' := 5) fl_X4_34_4 g1 rfl dX4_isTwo_2 rfl ?_
  refine Rn.iload_n (pc' := 6) dX4_isTwo_5 rfl 1 rfl rfl ?_
  refine Rn.iload_n (pc' := 7) dX4_isTwo_6 rfl 2 rfl rfl ?_
  obtain ⟨g2, E⟩ := gd_of E
  obtain ⟨v3, h4, e5, E⟩ := bI_of E
  refine Rn.callV1 (pc' := 10) (As := [.int x1, .int x2]) (rest := [.ref x0]) (f_Tape_number_ok hst e5) (Nat.le_trans (by decide) hd) rfl kb_X4_93 ki_X9_number rfl g2 rfl rfl (Nat.le_of_ble_eq_true rfl) dX4_isTwo_7 rfl rfl ?_
  obtain ⟨g6, E⟩ := gd_of E
  refine Rn.putI (pc' := 13) fl_X4_62_4 (fun q hq => by cases hq; decide) g6 rfl rfl rfl dX4_isTwo_10 rfl ?_
  replace E := wr_of E
  generalize eh8 : sI h4 x0 10 v3 = h7 at E ⊢
  refine Rn.aload_n (pc' := 14) dX4_isTwo_13 rfl 0 rfl rfl ?_
  refine Rn.getI (pc' := 17) fl_X4_62_4 (kp_sI eh8 g6) rfl dX4_isTwo_14 rfl ?_
  refine Rn.iconst (pc' := 18) (v := (-1 : Int32)) (hv := by decide) dX4_isTwo_17 rfl ?_
  refine Rn.icmp_eq (pc' := 21) (tgt := 25) dX4_isTwo_18 (by decide) rfl (fun c9 => ?_) (fun c9 => ?_)
  · replace E := (if_of E).1 c9
    refine Rn.iconst (pc' := 26) (v := (0 : Int32)) (hv := by decide) dX4_isTwo_25 rfl ?_
    cases E
    exact Rn.zret rfl rfl dX4_isTwo_26
  · replace E := (if_of E).2 c9
    refine Rn.iconst (pc' := 22) (v := (1 : Int32)) (hv := by decide) dX4_isTwo_21 rfl ?_
    refine Rn.goto (pc' := 26) dX4_isTwo_22 (by decide) ?_
    cases E
    exact Rn.zret rfl rfl dX4_isTwo_26
def f_LandText_isTwo (h : Hp) (x0 : Nat) (x1 : Int32) (x2 : Int32) : Option (Int32 × Hp) := f_LandText_isTwo_b0  h x0 x1 x2
theorem f_LandText_isTwo_ok {l : Launch} {X : Nat × (Nat → Int32)} (hst : l.stackTraces = false) {h : Hp} {x0 : Nat} {x1 : Int32} {x2 : Int32} {r : Int32 × Hp} (E : f_LandText_isTwo h x0 x1 x2 = some r) : MC l X yX4_isTwo mX4_isTwo 2 [.ref x0, .int x1, .int x2] h (eI r) r.2 :=
  MC.body (by decide +kernel) rfl (by decide) hst (Nat.le_of_ble_eq_true rfl) (f_LandText_isTwo_b0_ok hst (Nat.le_refl _) E)
abbrev mX4_isLeak : MI := (RX4, cX4_isLeak, 1, (some Jvm.ClassFile.FieldType.boolean), [], false)
theorem ws_X4_isLeak : ∀ w ∈ wsM yX4_isLeak mX4_isLeak, w ∈ gw := List.forall_mem_cons.mpr ⟨gw_at 884 (by decide +kernel) (by decide +kernel), fun _ h => h⟩
theorem kb_X4_74 : KB RX4 74 yX4_isOne mX4_isOne 2 := ⟨gw_at 852 (by decide +kernel) (by decide +kernel), gw_at 110 (by decide +kernel) (by decide +kernel), trivial, ws_X4_isOne, by decide +kernel, by decide +kernel, by decide +kernel, by decide⟩
theorem ki_X4_isOne : Cond.instanceMethod yX4_isOne ∈ gw ∧ Cond.selects yX4_isOne.cls yX4_isOne yX4_isOne ∈ gw := ⟨gw_at 854 (by decide +kernel) (by decide +kernel), gw_at 20 (by decide +kernel) (by decide +kernel)⟩
theorem kb_X4_90 : KB RX4 90 yX9_is mX9_is 1 := ⟨gw_at 863 (by decide +kernel) (by decide +kernel), gw_at 108 (by decide +kernel) (by decide +kernel), trivial, ws_X9_is, by decide +kernel, by decide +kernel, by decide +kernel, by decide⟩
theorem kb_X4_78 : KB RX4 78 yX9_takes mX9_takes 1 := ⟨gw_at 868 (by decide +kernel) (by decide +kernel), gw_at 108 (by decide +kernel) (by decide +kernel), trivial, ws_X9_takes, by decide +kernel, by decide +kernel, by decide +kernel, by decide⟩
theorem kb_X4_81 : KB RX4 81 yX4_isTwo mX4_isTwo 2 := ⟨gw_at 873 (by decide +kernel) (by decide +kernel), gw_at 110 (by decide +kernel) (by decide +kernel), trivial, ws_X4_isTwo, by decide +kernel, by decide +kernel, by decide +kernel, by decide⟩
theorem ki_X4_isTwo : Cond.instanceMethod yX4_isTwo ∈ gw ∧ Cond.selects yX4_isTwo.cls yX4_isTwo yX4_isTwo ∈ gw := ⟨gw_at 875 (by decide +kernel) (by decide +kernel), gw_at 22 (by decide +kernel) (by decide +kernel)⟩
theorem kb_X4_84 : KB RX4 84 yX4_isThree mX4_isThree 2 := ⟨gw_at 877 (by decide +kernel) (by decide +kernel), gw_at 110 (by decide +kernel) (by decide +kernel), trivial, ws_X4_isThree, by decide +kernel, by decide +kernel, by decide +kernel, by decide⟩
theorem ki_X4_isThree : Cond.instanceMethod yX4_isThree ∈ gw ∧ Cond.selects yX4_isThree.cls yX4_isThree yX4_isThree ∈ gw := ⟨gw_at 879 (by decide +kernel) (by decide +kernel), gw_at 23 (by decide +kernel) (by decide +kernel)⟩
theorem kb_X4_48 : KB RX4 48 yX9_fail mX9_fail 0 := ⟨gw_at 836 (by decide +kernel) (by decide +kernel), gw_at 108 (by decide +kernel) (by decide +kernel), trivial, ws_X9_fail, by decide +kernel, by decide +kernel, by decide +kernel, by decide⟩
theorem kb_X4_52 : KB RX4 52 yX9_step mX9_step 0 := ⟨gw_at 840 (by decide +kernel) (by decide +kernel), gw_at 108 (by decide +kernel) (by decide +kernel), trivial, ws_X9_step, by decide +kernel, by decide +kernel, by decide +kernel, by decide⟩
def f_LandText_isLeak_b0   (h : Hp) (x0 : Nat)  : Option (Int32 × Hp) :=
if hS h x0 = 5 then (
bI (f_LandText_isOne h x0 (0 : Int32) ((hI h x0 7) - (1 : Int32))) fun v2 h3 =>
if v2 = 0 then (
some ((0 : Int32), h3)

) else (
if hS h3 x0 = 5 then (
if hS h3 (hR h3 x0 0) = 9 then (
bI (f_Tape_is h3 (hR h3 x0 0) (1024 : Int32)) fun v8 h9 =>
if v8 = 0 then (
if hS h9 x0 = 5 then (
if hS h9 (hR h9 x0 0) = 9 then (
bI (f_Tape_takes h9 (hR h9 x0 0) (1023 : Int32)) fun v14 h15 =>
if v14 = 0 then (
some ((0 : Int32), h15)

) else (
if hS h15 x0 = 5 then (
if hS h15 (hR h15 x0 0) = 9 then (
bI (f_Tape_is h15 (hR h15 x0 0) (hI h15 x0 9)) fun v20 h21 =>
if v20 = 0 then (
if hS h21 x0 = 5 then (
bI (f_LandText_isTwo h21 x0 (0 : Int32) ((hI h21 x0 7) - (1 : Int32))) fun v25 h26 =>
if v25 = 0 then (
some ((0 : Int32), h26)

) else (
if hS h26 x0 = 5 then (
bI (f_LandText_isThree h26 x0 (0 : Int32) (99 : Int32)) fun v30 h31 =>
if v30 = 0 then (
some ((0 : Int32), h31)

) else (
some ((1 : Int32), h31)

)
) else none
)
) else none
) else (
if hS h21 x0 = 5 then (
if hS h21 (hR h21 x0 0) = 9 then (
bI (f_Tape_fail h21 (hR h21 x0 0)) fun v36 h37 =>
if v36 = 0 ∨ v36 = 1 then (
some (v36, h37)
) else none) else none) else none
)
) else none) else none
)
) else none) else none
) else (
if hS h9 x0 = 5 then (
if hS h9 (hR h9 x0 0) = 9 then (
bV (f_Tape_step h9 (hR h9 x0 0)) fun h43 =>
if hS h43 x0 = 5 then (
wr (sI h43 x0 10 (-1 : Int32)) fun h46 =>
bI (f_LandText_isThree h46 x0 (0 : Int32) (99 : Int32)) fun v48 h49 =>
if v48 = 0 ∨ v48 = 1 then (
some (v48, h49)
) else none) else none) else none) else none
)
) else none) else none
)
) else none
set_option maxRecDepth 20000 in
set_option maxHeartbeats 4000000 in
theorem f_LandText_isLeak_b0_ok {l : Launch} {X : Nat × (Nat → Int32)} (hst : l.stackTraces = false) {d : Nat} (hd : 3 ≤ d)     {h : Hp} {x0 : Nat}  {r : Int32 × Hp} (E : f_LandText_isLeak_b0   h x0 = some r) : Rn l X mX4_isLeak d 0 [(0, .ref x0)] [] h (eI r) r.2 := by
  unfold f_LandText_isLeak_b0 at E
  refine Rn.aload_n (pc' := 1) dX4_isLeak_0 rfl 0 rfl rfl ?_
  refine Rn.iconst (pc' := 2) (v := (0 : Int32)) (hv := by decide) dX4_isLeak_1 rfl ?_
  refine Rn.aload_n (pc' := 3) dX4_isLeak_2 rfl 0 rfl rfl ?_
  obtain ⟨g1, E⟩ := gd_of E
  refine Rn.getI (pc' := 6) fl_X4_24_4 g1 rfl dX4_isLeak_3 rfl ?_
  refine Rn.iconst (pc' := 7) (v := (1 : Int32)) (hv := by decide) dX4_isLeak_6 rfl ?_
  refine Rn.isub (pc' := 8) dX4_isLeak_7 rfl ?_
  obtain ⟨v2, h3, e4, E⟩ := bI_of E
  refine Rn.callV1 (pc' := 11) (As := [.int (0 : Int32), .int ((hI h x0 7) - (1 : Int32))]) (rest := []) (f_LandText_isOne_ok hst e4) (Nat.le_trans (by decide) hd) rfl kb_X4_74 ki_X4_isOne rfl g1 rfl rfl (Nat.le_of_ble_eq_true rfl) dX4_isLeak_8 rfl rfl ?_
  refine Rn.if_ne (pc' := 14) (tgt := 16) dX4_isLeak_11 (by decide) rfl (fun c5 => ?_) (fun c5 => ?_)
  · replace E := (if_of E).2 c5
    refine Rn.aload_n (pc' := 17) dX4_isLeak_16 rfl 0 rfl rfl ?_
    obtain ⟨g6, E⟩ := gd_of E
    refine Rn.getR (pc' := 20) fl_X4_34_4 g6 rfl dX4_isLeak_17 rfl ?_
    refine Rn.sipush (pc' := 23) (v := (1024 : Int32)) (hv := by decide) dX4_isLeak_20 rfl ?_
    obtain ⟨g7, E⟩ := gd_of E
    obtain ⟨v8, h9, e10, E⟩ := bI_of E
    refine Rn.callV1 (pc' := 26) (As := [.int (1024 : Int32)]) (rest := []) (f_Tape_is_ok hst e10) (Nat.le_trans (by decide) hd) rfl kb_X4_90 ki_X9_is rfl g7 rfl rfl (Nat.le_of_ble_eq_true rfl) dX4_isLeak_23 rfl rfl ?_
    refine Rn.if_eq (pc' := 29) (tgt := 49) dX4_isLeak_26 (by decide) rfl (fun c11 => ?_) (fun c11 => ?_)
    · replace E := (if_of E).1 c11
      refine Rn.aload_n (pc' := 50) dX4_isLeak_49 rfl 0 rfl rfl ?_
      obtain ⟨g12, E⟩ := gd_of E
      refine Rn.getR (pc' := 53) fl_X4_34_4 g12 rfl dX4_isLeak_50 rfl ?_
      refine Rn.sipush (pc' := 56) (v := (1023 : Int32)) (hv := by decide) dX4_isLeak_53 rfl ?_
      obtain ⟨g13, E⟩ := gd_of E
      obtain ⟨v14, h15, e16, E⟩ := bI_of E
      refine Rn.callV1 (pc' := 59) (As := [.int (1023 : Int32)]) (rest := []) (f_Tape_takes_ok hst e16) (Nat.le_trans (by decide) hd) rfl kb_X4_78 ki_X9_takes rfl g13 rfl rfl (Nat.le_of_ble_eq_true rfl) dX4_isLeak_56 rfl rfl ?_
      refine Rn.if_ne (pc' := 62) (tgt := 64) dX4_isLeak_59 (by decide) rfl (fun c17 => ?_) (fun c17 => ?_)
      · replace E := (if_of E).2 c17
        refine Rn.aload_n (pc' := 65) dX4_isLeak_64 rfl 0 rfl rfl ?_
        obtain ⟨g18, E⟩ := gd_of E
        refine Rn.getR (pc' := 68) fl_X4_34_4 g18 rfl dX4_isLeak_65 rfl ?_
        refine Rn.aload_n (pc' := 69) dX4_isLeak_68 rfl 0 rfl rfl ?_
        refine Rn.getI (pc' := 72) fl_X4_59_4 g18 rfl dX4_isLeak_69 rfl ?_
        obtain ⟨g19, E⟩ := gd_of E
        obtain ⟨v20, h21, e22, E⟩ := bI_of E
        refine Rn.callV1 (pc' := 75) (As := [.int (hI h15 x0 9)]) (rest := []) (f_Tape_is_ok hst e22) (Nat.le_trans (by decide) hd) rfl kb_X4_90 ki_X9_is rfl g19 rfl rfl (Nat.le_of_ble_eq_true rfl) dX4_isLeak_72 rfl rfl ?_
        refine Rn.if_eq (pc' := 78) (tgt := 86) dX4_isLeak_75 (by decide) rfl (fun c23 => ?_) (fun c23 => ?_)
        · replace E := (if_of E).1 c23
          refine Rn.aload_n (pc' := 87) dX4_isLeak_86 rfl 0 rfl rfl ?_
          refine Rn.iconst (pc' := 88) (v := (0 : Int32)) (hv := by decide) dX4_isLeak_87 rfl ?_
          refine Rn.aload_n (pc' := 89) dX4_isLeak_88 rfl 0 rfl rfl ?_
          obtain ⟨g24, E⟩ := gd_of E
          refine Rn.getI (pc' := 92) fl_X4_24_4 g24 rfl dX4_isLeak_89 rfl ?_
          refine Rn.iconst (pc' := 93) (v := (1 : Int32)) (hv := by decide) dX4_isLeak_92 rfl ?_
          refine Rn.isub (pc' := 94) dX4_isLeak_93 rfl ?_
          obtain ⟨v25, h26, e27, E⟩ := bI_of E
          refine Rn.callV1 (pc' := 97) (As := [.int (0 : Int32), .int ((hI h21 x0 7) - (1 : Int32))]) (rest := []) (f_LandText_isTwo_ok hst e27) (Nat.le_trans (by decide) hd) rfl kb_X4_81 ki_X4_isTwo rfl g24 rfl rfl (Nat.le_of_ble_eq_true rfl) dX4_isLeak_94 rfl rfl ?_
          refine Rn.if_eq (pc' := 100) (tgt := 114) dX4_isLeak_97 (by decide) rfl (fun c28 => ?_) (fun c28 => ?_)
          · replace E := (if_of E).1 c28
            refine Rn.iconst (pc' := 115) (v := (0 : Int32)) (hv := by decide) dX4_isLeak_114 rfl ?_
            cases E
            exact Rn.zret rfl rfl dX4_isLeak_115
          · replace E := (if_of E).2 c28
            refine Rn.aload_n (pc' := 101) dX4_isLeak_100 rfl 0 rfl rfl ?_
            refine Rn.iconst (pc' := 102) (v := (0 : Int32)) (hv := by decide) dX4_isLeak_101 rfl ?_
            refine Rn.bipush (pc' := 104) (v := (99 : Int32)) (hv := by decide) dX4_isLeak_102 rfl ?_
            obtain ⟨g29, E⟩ := gd_of E
            obtain ⟨v30, h31, e32, E⟩ := bI_of E
            refine Rn.callV1 (pc' := 107) (As := [.int (0 : Int32), .int (99 : Int32)]) (rest := []) (f_LandText_isThree_ok hst e32) (Nat.le_trans (by decide) hd) rfl kb_X4_84 ki_X4_isThree rfl g29 rfl rfl (Nat.le_of_ble_eq_true rfl) dX4_isLeak_104 rfl rfl ?_
            refine Rn.if_eq (pc' := 110) (tgt := 114) dX4_isLeak_107 (by decide) rfl (fun c33 => ?_) (fun c33 => ?_)
            · replace E := (if_of E).1 c33
              refine Rn.iconst (pc' := 115) (v := (0 : Int32)) (hv := by decide) dX4_isLeak_114 rfl ?_
              cases E
              exact Rn.zret rfl rfl dX4_isLeak_115
            · replace E := (if_of E).2 c33
              refine Rn.iconst (pc' := 111) (v := (1 : Int32)) (hv := by decide) dX4_isLeak_110 rfl ?_
              refine Rn.goto (pc' := 115) dX4_isLeak_111 (by decide) ?_
              cases E
              exact Rn.zret rfl rfl dX4_isLeak_115
        · replace E := (if_of E).2 c23
          refine Rn.aload_n (pc' := 79) dX4_isLeak_78 rfl 0 rfl rfl ?_
          obtain ⟨g34, E⟩ := gd_of E
          refine Rn.getR (pc' := 82) fl_X4_34_4 g34 rfl dX4_isLeak_79 rfl ?_
          obtain ⟨g35, E⟩ := gd_of E
          obtain ⟨v36, h37, e38, E⟩ := bI_of E
          refine Rn.callV1 (pc' := 85) (As := []) (rest := []) (f_Tape_fail_ok hst e38) (Nat.le_trans (by decide) hd) rfl kb_X4_48 ki_X9_fail rfl g35 rfl rfl (Nat.le_of_ble_eq_true rfl) dX4_isLeak_82 rfl rfl ?_
          obtain ⟨g39, E⟩ := gd_of E
          cases E
          exact Rn.zret rfl (nar_b g39) dX4_isLeak_85
      · replace E := (if_of E).1 c17
        refine Rn.iconst (pc' := 63) (v := (0 : Int32)) (hv := by decide) dX4_isLeak_62 rfl ?_
        cases E
        exact Rn.zret rfl rfl dX4_isLeak_63
    · replace E := (if_of E).2 c11
      refine Rn.aload_n (pc' := 30) dX4_isLeak_29 rfl 0 rfl rfl ?_
      obtain ⟨g40, E⟩ := gd_of E
      refine Rn.getR (pc' := 33) fl_X4_34_4 g40 rfl dX4_isLeak_30 rfl ?_
      obtain ⟨g41, E⟩ := gd_of E
      obtain ⟨h43, e44, E⟩ := bV_of E
      refine Rn.callV1 (pc' := 36) (As := []) (rest := []) (f_Tape_step_ok hst e44) (Nat.le_trans (by decide) hd) rfl kb_X4_52 ki_X9_step rfl g41 rfl rfl (Nat.le_of_ble_eq_true rfl) dX4_isLeak_33 rfl rfl ?_
      refine Rn.aload_n (pc' := 37) dX4_isLeak_36 rfl 0 rfl rfl ?_
      refine Rn.iconst (pc' := 38) (v := (-1 : Int32)) (hv := by decide) dX4_isLeak_37 rfl ?_
      obtain ⟨g45, E⟩ := gd_of E
      refine Rn.putI (pc' := 41) fl_X4_62_4 (fun q hq => by cases hq; decide) g45 rfl rfl rfl dX4_isLeak_38 rfl ?_
      replace E := wr_of E
      generalize eh47 : sI h43 x0 10 (-1 : Int32) = h46 at E ⊢
      refine Rn.aload_n (pc' := 42) dX4_isLeak_41 rfl 0 rfl rfl ?_
      refine Rn.iconst (pc' := 43) (v := (0 : Int32)) (hv := by decide) dX4_isLeak_42 rfl ?_
      refine Rn.bipush (pc' := 45) (v := (99 : Int32)) (hv := by decide) dX4_isLeak_43 rfl ?_
      obtain ⟨v48, h49, e50, E⟩ := bI_of E
      refine Rn.callV1 (pc' := 48) (As := [.int (0 : Int32), .int (99 : Int32)]) (rest := []) (f_LandText_isThree_ok hst e50) (Nat.le_trans (by decide) hd) rfl kb_X4_84 ki_X4_isThree rfl (kp_sI eh47 g45) rfl rfl (Nat.le_of_ble_eq_true rfl) dX4_isLeak_45 rfl rfl ?_
      obtain ⟨g51, E⟩ := gd_of E
      cases E
      exact Rn.zret rfl (nar_b g51) dX4_isLeak_48
  · replace E := (if_of E).1 c5
    refine Rn.iconst (pc' := 15) (v := (0 : Int32)) (hv := by decide) dX4_isLeak_14 rfl ?_
    cases E
    exact Rn.zret rfl rfl dX4_isLeak_15
def f_LandText_isLeak (h : Hp) (x0 : Nat) : Option (Int32 × Hp) := f_LandText_isLeak_b0  h x0
theorem f_LandText_isLeak_ok {l : Launch} {X : Nat × (Nat → Int32)} (hst : l.stackTraces = false) {h : Hp} {x0 : Nat} {r : Int32 × Hp} (E : f_LandText_isLeak h x0 = some r) : MC l X yX4_isLeak mX4_isLeak 3 [.ref x0] h (eI r) r.2 :=
  MC.body (by decide +kernel) rfl (by decide) hst (Nat.le_of_ble_eq_true rfl) (f_LandText_isLeak_b0_ok hst (Nat.le_refl _) E)
abbrev mX4_isHouse : MI := (RX4, cX4_isHouse, 1, (some Jvm.ClassFile.FieldType.boolean), [], false)
theorem ws_X4_isHouse : ∀ w ∈ wsM yX4_isHouse mX4_isHouse, w ∈ gw := List.forall_mem_cons.mpr ⟨gw_at 867 (by decide +kernel) (by decide +kernel), fun _ h => h⟩
def f_LandText_isHouse_b0   (h : Hp) (x0 : Nat)  : Option (Int32 × Hp) :=
if hS h x0 = 5 then (
bI (f_LandText_isOne h x0 (0 : Int32) (99 : Int32)) fun v2 h3 =>
if v2 = 0 then (
some ((0 : Int32), h3)

) else (
if hS h3 x0 = 5 then (
if hS h3 (hR h3 x0 0) = 9 then (
bI (f_Tape_takes h3 (hR h3 x0 0) (1020 : Int32)) fun v8 h9 =>
if v8 = 0 then (
some ((0 : Int32), h9)

) else (
if hS h9 x0 = 5 then (
bI (f_LandText_isTwo h9 x0 (0 : Int32) ((hI h9 x0 7) - (1 : Int32))) fun v13 h14 =>
if v13 = 0 then (
some ((0 : Int32), h14)

) else (
if hS h14 x0 = 5 then (
wr (sI h14 x0 11 (99 : Int32)) fun h18 =>
wr (sI h18 x0 8 ((hI h18 x0 8) + (1 : Int32))) fun h20 =>
if hS h20 (hR h20 x0 0) = 9 then (
bI (f_Tape_is h20 (hR h20 x0 0) (1021 : Int32)) fun v23 h24 =>
if v23 = 0 then (
some ((1 : Int32), h24)

) else (
if hS h24 x0 = 5 then (
if hS h24 (hR h24 x0 0) = 9 then (
bV (f_Tape_step h24 (hR h24 x0 0)) fun h30 =>
if hS h30 x0 = 5 then (
bI (f_LandText_isThree h30 x0 (0 : Int32) (99 : Int32)) fun v33 h34 =>
if v33 = 0 ∨ v33 = 1 then (
some (v33, h34)
) else none) else none) else none) else none
)
) else none) else none
)
) else none
)
) else none) else none
)
) else none
set_option maxRecDepth 20000 in
set_option maxHeartbeats 4000000 in
theorem f_LandText_isHouse_b0_ok {l : Launch} {X : Nat × (Nat → Int32)} (hst : l.stackTraces = false) {d : Nat} (hd : 3 ≤ d)     {h : Hp} {x0 : Nat}  {r : Int32 × Hp} (E : f_LandText_isHouse_b0   h x0 = some r) : Rn l X mX4_isHouse d 0 [(0, .ref x0)] [] h (eI r) r.2 := by
  unfold f_LandText_isHouse_b0 at E
  refine Rn.aload_n (pc' := 1) dX4_isHouse_0 rfl 0 rfl rfl ?_
  refine Rn.iconst (pc' := 2) (v := (0 : Int32)) (hv := by decide) dX4_isHouse_1 rfl ?_
  refine Rn.bipush (pc' := 4) (v := (99 : Int32)) (hv := by decide) dX4_isHouse_2 rfl ?_
  obtain ⟨g1, E⟩ := gd_of E
  obtain ⟨v2, h3, e4, E⟩ := bI_of E
  refine Rn.callV1 (pc' := 7) (As := [.int (0 : Int32), .int (99 : Int32)]) (rest := []) (f_LandText_isOne_ok hst e4) (Nat.le_trans (by decide) hd) rfl kb_X4_74 ki_X4_isOne rfl g1 rfl rfl (Nat.le_of_ble_eq_true rfl) dX4_isHouse_4 rfl rfl ?_
  refine Rn.if_eq (pc' := 10) (tgt := 37) dX4_isHouse_7 (by decide) rfl (fun c5 => ?_) (fun c5 => ?_)
  · replace E := (if_of E).1 c5
    refine Rn.iconst (pc' := 38) (v := (0 : Int32)) (hv := by decide) dX4_isHouse_37 rfl ?_
    cases E
    exact Rn.zret rfl rfl dX4_isHouse_38
  · replace E := (if_of E).2 c5
    refine Rn.aload_n (pc' := 11) dX4_isHouse_10 rfl 0 rfl rfl ?_
    obtain ⟨g6, E⟩ := gd_of E
    refine Rn.getR (pc' := 14) fl_X4_34_4 g6 rfl dX4_isHouse_11 rfl ?_
    refine Rn.sipush (pc' := 17) (v := (1020 : Int32)) (hv := by decide) dX4_isHouse_14 rfl ?_
    obtain ⟨g7, E⟩ := gd_of E
    obtain ⟨v8, h9, e10, E⟩ := bI_of E
    refine Rn.callV1 (pc' := 20) (As := [.int (1020 : Int32)]) (rest := []) (f_Tape_takes_ok hst e10) (Nat.le_trans (by decide) hd) rfl kb_X4_78 ki_X9_takes rfl g7 rfl rfl (Nat.le_of_ble_eq_true rfl) dX4_isHouse_17 rfl rfl ?_
    refine Rn.if_eq (pc' := 23) (tgt := 37) dX4_isHouse_20 (by decide) rfl (fun c11 => ?_) (fun c11 => ?_)
    · replace E := (if_of E).1 c11
      refine Rn.iconst (pc' := 38) (v := (0 : Int32)) (hv := by decide) dX4_isHouse_37 rfl ?_
      cases E
      exact Rn.zret rfl rfl dX4_isHouse_38
    · replace E := (if_of E).2 c11
      refine Rn.aload_n (pc' := 24) dX4_isHouse_23 rfl 0 rfl rfl ?_
      refine Rn.iconst (pc' := 25) (v := (0 : Int32)) (hv := by decide) dX4_isHouse_24 rfl ?_
      refine Rn.aload_n (pc' := 26) dX4_isHouse_25 rfl 0 rfl rfl ?_
      obtain ⟨g12, E⟩ := gd_of E
      refine Rn.getI (pc' := 29) fl_X4_24_4 g12 rfl dX4_isHouse_26 rfl ?_
      refine Rn.iconst (pc' := 30) (v := (1 : Int32)) (hv := by decide) dX4_isHouse_29 rfl ?_
      refine Rn.isub (pc' := 31) dX4_isHouse_30 rfl ?_
      obtain ⟨v13, h14, e15, E⟩ := bI_of E
      refine Rn.callV1 (pc' := 34) (As := [.int (0 : Int32), .int ((hI h9 x0 7) - (1 : Int32))]) (rest := []) (f_LandText_isTwo_ok hst e15) (Nat.le_trans (by decide) hd) rfl kb_X4_81 ki_X4_isTwo rfl g12 rfl rfl (Nat.le_of_ble_eq_true rfl) dX4_isHouse_31 rfl rfl ?_
      refine Rn.if_ne (pc' := 37) (tgt := 39) dX4_isHouse_34 (by decide) rfl (fun c16 => ?_) (fun c16 => ?_)
      · replace E := (if_of E).2 c16
        refine Rn.aload_n (pc' := 40) dX4_isHouse_39 rfl 0 rfl rfl ?_
        refine Rn.bipush (pc' := 42) (v := (99 : Int32)) (hv := by decide) dX4_isHouse_40 rfl ?_
        obtain ⟨g17, E⟩ := gd_of E
        refine Rn.putI (pc' := 45) fl_X4_65_4 (fun q hq => by cases hq; decide) g17 rfl rfl rfl dX4_isHouse_42 rfl ?_
        replace E := wr_of E
        generalize eh19 : sI h14 x0 11 (99 : Int32) = h18 at E ⊢
        refine Rn.aload_n (pc' := 46) dX4_isHouse_45 rfl 0 rfl rfl ?_
        refine Rn.dup (pc' := 47) (hc := rfl) dX4_isHouse_46 rfl ?_
        refine Rn.getI (pc' := 50) fl_X4_28_4 (kp_sI eh19 g17) rfl dX4_isHouse_47 rfl ?_
        refine Rn.iconst (pc' := 51) (v := (1 : Int32)) (hv := by decide) dX4_isHouse_50 rfl ?_
        refine Rn.iadd (pc' := 52) dX4_isHouse_51 rfl ?_
        refine Rn.putI (pc' := 55) fl_X4_28_4 (fun q hq => by cases hq; decide) (kp_sI eh19 g17) rfl rfl rfl dX4_isHouse_52 rfl ?_
        replace E := wr_of E
        generalize eh21 : sI h18 x0 8 ((hI h18 x0 8) + (1 : Int32)) = h20 at E ⊢
        refine Rn.aload_n (pc' := 56) dX4_isHouse_55 rfl 0 rfl rfl ?_
        refine Rn.getR (pc' := 59) fl_X4_34_4 (kp_sI eh21 (kp_sI eh19 g17)) rfl dX4_isHouse_56 rfl ?_
        refine Rn.sipush (pc' := 62) (v := (1021 : Int32)) (hv := by decide) dX4_isHouse_59 rfl ?_
        obtain ⟨g22, E⟩ := gd_of E
        obtain ⟨v23, h24, e25, E⟩ := bI_of E
        refine Rn.callV1 (pc' := 65) (As := [.int (1021 : Int32)]) (rest := []) (f_Tape_is_ok hst e25) (Nat.le_trans (by decide) hd) rfl kb_X4_90 ki_X9_is rfl g22 rfl rfl (Nat.le_of_ble_eq_true rfl) dX4_isHouse_62 rfl rfl ?_
        refine Rn.if_ne (pc' := 68) (tgt := 70) dX4_isHouse_65 (by decide) rfl (fun c26 => ?_) (fun c26 => ?_)
        · replace E := (if_of E).2 c26
          refine Rn.aload_n (pc' := 71) dX4_isHouse_70 rfl 0 rfl rfl ?_
          obtain ⟨g27, E⟩ := gd_of E
          refine Rn.getR (pc' := 74) fl_X4_34_4 g27 rfl dX4_isHouse_71 rfl ?_
          obtain ⟨g28, E⟩ := gd_of E
          obtain ⟨h30, e31, E⟩ := bV_of E
          refine Rn.callV1 (pc' := 77) (As := []) (rest := []) (f_Tape_step_ok hst e31) (Nat.le_trans (by decide) hd) rfl kb_X4_52 ki_X9_step rfl g28 rfl rfl (Nat.le_of_ble_eq_true rfl) dX4_isHouse_74 rfl rfl ?_
          refine Rn.aload_n (pc' := 78) dX4_isHouse_77 rfl 0 rfl rfl ?_
          refine Rn.iconst (pc' := 79) (v := (0 : Int32)) (hv := by decide) dX4_isHouse_78 rfl ?_
          refine Rn.bipush (pc' := 81) (v := (99 : Int32)) (hv := by decide) dX4_isHouse_79 rfl ?_
          obtain ⟨g32, E⟩ := gd_of E
          obtain ⟨v33, h34, e35, E⟩ := bI_of E
          refine Rn.callV1 (pc' := 84) (As := [.int (0 : Int32), .int (99 : Int32)]) (rest := []) (f_LandText_isThree_ok hst e35) (Nat.le_trans (by decide) hd) rfl kb_X4_84 ki_X4_isThree rfl g32 rfl rfl (Nat.le_of_ble_eq_true rfl) dX4_isHouse_81 rfl rfl ?_
          obtain ⟨g36, E⟩ := gd_of E
          cases E
          exact Rn.zret rfl (nar_b g36) dX4_isHouse_84
        · replace E := (if_of E).1 c26
          refine Rn.iconst (pc' := 69) (v := (1 : Int32)) (hv := by decide) dX4_isHouse_68 rfl ?_
          cases E
          exact Rn.zret rfl rfl dX4_isHouse_69
      · replace E := (if_of E).1 c16
        refine Rn.iconst (pc' := 38) (v := (0 : Int32)) (hv := by decide) dX4_isHouse_37 rfl ?_
        cases E
        exact Rn.zret rfl rfl dX4_isHouse_38
def f_LandText_isHouse (h : Hp) (x0 : Nat) : Option (Int32 × Hp) := f_LandText_isHouse_b0  h x0
theorem f_LandText_isHouse_ok {l : Launch} {X : Nat × (Nat → Int32)} (hst : l.stackTraces = false) {h : Hp} {x0 : Nat} {r : Int32 × Hp} (E : f_LandText_isHouse h x0 = some r) : MC l X yX4_isHouse mX4_isHouse 3 [.ref x0] h (eI r) r.2 :=
  MC.body (by decide +kernel) rfl (by decide) hst (Nat.le_of_ble_eq_true rfl) (f_LandText_isHouse_b0_ok hst (Nat.le_refl _) E)
abbrev mX4_isCistern : MI := (RX4, cX4_isCistern, 1, (some Jvm.ClassFile.FieldType.boolean), [], false)
theorem ws_X4_isCistern : ∀ w ∈ wsM yX4_isCistern mX4_isCistern, w ∈ gw := List.forall_mem_cons.mpr ⟨gw_at 851 (by decide +kernel) (by decide +kernel), fun _ h => h⟩
def f_LandText_isCistern_b103   (h : Hp) (x0 : Nat)  : Option (Int32 × Hp) :=
if hS h x0 = 5 then (
wr (sI h x0 7 ((hI h x0 7) + (1 : Int32))) fun h2 =>
some ((1 : Int32), h2)
) else none
set_option maxRecDepth 20000 in
set_option maxHeartbeats 4000000 in
theorem f_LandText_isCistern_b103_ok {l : Launch} {X : Nat × (Nat → Int32)} (hst : l.stackTraces = false) {d : Nat} (hd : 3 ≤ d)     {h : Hp} {x0 : Nat}  {r : Int32 × Hp} (E : f_LandText_isCistern_b103   h x0 = some r) : Rn l X mX4_isCistern d 103 [(0, .ref x0)] [] h (eI r) r.2 := by
  unfold f_LandText_isCistern_b103 at E
  refine Rn.aload_n (pc' := 104) dX4_isCistern_103 rfl 0 rfl rfl ?_
  refine Rn.dup (pc' := 105) (hc := rfl) dX4_isCistern_104 rfl ?_
  obtain ⟨g1, E⟩ := gd_of E
  refine Rn.getI (pc' := 108) fl_X4_24_4 g1 rfl dX4_isCistern_105 rfl ?_
  refine Rn.iconst (pc' := 109) (v := (1 : Int32)) (hv := by decide) dX4_isCistern_108 rfl ?_
  refine Rn.iadd (pc' := 110) dX4_isCistern_109 rfl ?_
  refine Rn.putI (pc' := 113) fl_X4_24_4 (fun q hq => by cases hq; decide) g1 rfl rfl rfl dX4_isCistern_110 rfl ?_
  replace E := wr_of E
  generalize eh3 : sI h x0 7 ((hI h x0 7) + (1 : Int32)) = h2 at E ⊢
  refine Rn.iconst (pc' := 114) (v := (1 : Int32)) (hv := by decide) dX4_isCistern_113 rfl ?_
  cases E
  exact Rn.zret rfl rfl dX4_isCistern_114
def f_LandText_isCistern_b93   (h : Hp) (x0 : Nat) (s0 : Nat) (s1 : Int32) : Option (Int32 × Hp) :=
if hS h s0 = 5 then (
wr (sI h s0 10 s1) fun h2 =>
if hS h2 x0 = 5 then (
if hS h2 (hR h2 x0 0) = 9 then (
bV (f_Tape_step h2 (hR h2 x0 0)) fun h7 =>
f_LandText_isCistern_b103   h7 x0
) else none) else none) else none
set_option maxRecDepth 20000 in
set_option maxHeartbeats 4000000 in
theorem f_LandText_isCistern_b93_ok {l : Launch} {X : Nat × (Nat → Int32)} (hst : l.stackTraces = false) {d : Nat} (hd : 3 ≤ d)     {h : Hp} {x0 : Nat} {s0 : Nat} {s1 : Int32} {r : Int32 × Hp} (E : f_LandText_isCistern_b93   h x0 s0 s1 = some r) : Rn l X mX4_isCistern d 93 [(0, .ref x0)] [.int s1, .ref s0] h (eI r) r.2 := by
  unfold f_LandText_isCistern_b93 at E
  obtain ⟨g1, E⟩ := gd_of E
  refine Rn.putI (pc' := 96) fl_X4_62_4 (fun q hq => by cases hq; decide) g1 rfl rfl rfl dX4_isCistern_93 rfl ?_
  replace E := wr_of E
  generalize eh3 : sI h s0 10 s1 = h2 at E ⊢
  refine Rn.aload_n (pc' := 97) dX4_isCistern_96 rfl 0 rfl rfl ?_
  obtain ⟨g4, E⟩ := gd_of E
  refine Rn.getR (pc' := 100) fl_X4_34_4 g4 rfl dX4_isCistern_97 rfl ?_
  obtain ⟨g5, E⟩ := gd_of E
  obtain ⟨h7, e8, E⟩ := bV_of E
  refine Rn.callV1 (pc' := 103) (As := []) (rest := []) (f_Tape_step_ok hst e8) (Nat.le_trans (by decide) hd) rfl kb_X4_52 ki_X9_step rfl g5 rfl rfl (Nat.le_of_ble_eq_true rfl) dX4_isCistern_100 rfl rfl ?_
  exact f_LandText_isCistern_b103_ok hst hd   E
def f_LandText_isCistern_b57   (h : Hp) (x0 : Nat)  : Option (Int32 × Hp) :=
if hS h x0 = 5 then (
if hS h (hR h x0 0) = 9 then (
bI (f_Tape_is h (hR h x0 0) (1005 : Int32)) fun v3 h4 =>
if v3 = 0 then (
if hS h4 x0 = 5 then (
if hS h4 (hR h4 x0 0) = 9 then (
bI (f_Tape_is h4 (hR h4 x0 0) (1006 : Int32)) fun v9 h10 =>
if v9 = 0 then (
f_LandText_isCistern_b93   h10 x0 x0 (3 : Int32)

) else (
f_LandText_isCistern_b93   h10 x0 x0 (2 : Int32)

)
) else none) else none
) else (
f_LandText_isCistern_b93   h4 x0 x0 (1 : Int32)

)
) else none) else none
set_option maxRecDepth 20000 in
set_option maxHeartbeats 4000000 in
theorem f_LandText_isCistern_b57_ok {l : Launch} {X : Nat × (Nat → Int32)} (hst : l.stackTraces = false) {d : Nat} (hd : 3 ≤ d)     {h : Hp} {x0 : Nat}  {r : Int32 × Hp} (E : f_LandText_isCistern_b57   h x0 = some r) : Rn l X mX4_isCistern d 57 [(0, .ref x0)] [] h (eI r) r.2 := by
  unfold f_LandText_isCistern_b57 at E
  refine Rn.aload_n (pc' := 58) dX4_isCistern_57 rfl 0 rfl rfl ?_
  refine Rn.aload_n (pc' := 59) dX4_isCistern_58 rfl 0 rfl rfl ?_
  obtain ⟨g1, E⟩ := gd_of E
  refine Rn.getR (pc' := 62) fl_X4_34_4 g1 rfl dX4_isCistern_59 rfl ?_
  refine Rn.sipush (pc' := 65) (v := (1005 : Int32)) (hv := by decide) dX4_isCistern_62 rfl ?_
  obtain ⟨g2, E⟩ := gd_of E
  obtain ⟨v3, h4, e5, E⟩ := bI_of E
  refine Rn.callV1 (pc' := 68) (As := [.int (1005 : Int32)]) (rest := [.ref x0]) (f_Tape_is_ok hst e5) (Nat.le_trans (by decide) hd) rfl kb_X4_90 ki_X9_is rfl g2 rfl rfl (Nat.le_of_ble_eq_true rfl) dX4_isCistern_65 rfl rfl ?_
  refine Rn.if_eq (pc' := 71) (tgt := 75) dX4_isCistern_68 (by decide) rfl (fun c6 => ?_) (fun c6 => ?_)
  · replace E := (if_of E).1 c6
    refine Rn.aload_n (pc' := 76) dX4_isCistern_75 rfl 0 rfl rfl ?_
    obtain ⟨g7, E⟩ := gd_of E
    refine Rn.getR (pc' := 79) fl_X4_34_4 g7 rfl dX4_isCistern_76 rfl ?_
    refine Rn.sipush (pc' := 82) (v := (1006 : Int32)) (hv := by decide) dX4_isCistern_79 rfl ?_
    obtain ⟨g8, E⟩ := gd_of E
    obtain ⟨v9, h10, e11, E⟩ := bI_of E
    refine Rn.callV1 (pc' := 85) (As := [.int (1006 : Int32)]) (rest := [.ref x0]) (f_Tape_is_ok hst e11) (Nat.le_trans (by decide) hd) rfl kb_X4_90 ki_X9_is rfl g8 rfl rfl (Nat.le_of_ble_eq_true rfl) dX4_isCistern_82 rfl rfl ?_
    refine Rn.if_eq (pc' := 88) (tgt := 92) dX4_isCistern_85 (by decide) rfl (fun c12 => ?_) (fun c12 => ?_)
    · replace E := (if_of E).1 c12
      refine Rn.iconst (pc' := 93) (v := (3 : Int32)) (hv := by decide) dX4_isCistern_92 rfl ?_
      exact f_LandText_isCistern_b93_ok hst hd   E
    · replace E := (if_of E).2 c12
      refine Rn.iconst (pc' := 89) (v := (2 : Int32)) (hv := by decide) dX4_isCistern_88 rfl ?_
      refine Rn.goto (pc' := 93) dX4_isCistern_89 (by decide) ?_
      exact f_LandText_isCistern_b93_ok hst hd   E
  · replace E := (if_of E).2 c6
    refine Rn.iconst (pc' := 72) (v := (1 : Int32)) (hv := by decide) dX4_isCistern_71 rfl ?_
    refine Rn.goto (pc' := 93) dX4_isCistern_72 (by decide) ?_
    exact f_LandText_isCistern_b93_ok hst hd   E
def f_LandText_isCistern_b0   (h : Hp) (x0 : Nat)  : Option (Int32 × Hp) :=
if hS h x0 = 5 then (
bI (f_LandText_isOne h x0 (1 : Int32) (999 : Int32)) fun v2 h3 =>
if v2 = 0 then (
some ((0 : Int32), h3)

) else (
if hS h3 x0 = 5 then (
wr (sI h3 x0 10 (0 : Int32)) fun h7 =>
if hS h7 (hR h7 x0 0) = 9 then (
bI (f_Tape_is h7 (hR h7 x0 0) (1005 : Int32)) fun v10 h11 =>
if v10 = 0 then (
if hS h11 x0 = 5 then (
if hS h11 (hR h11 x0 0) = 9 then (
bI (f_Tape_is h11 (hR h11 x0 0) (1006 : Int32)) fun v16 h17 =>
if v16 = 0 then (
if hS h17 x0 = 5 then (
if hS h17 (hR h17 x0 0) = 9 then (
bI (f_Tape_is h17 (hR h17 x0 0) (1007 : Int32)) fun v22 h23 =>
if v22 = 0 then (
f_LandText_isCistern_b103   h23 x0

) else (
f_LandText_isCistern_b57   h23 x0

)
) else none) else none
) else (
f_LandText_isCistern_b57   h17 x0

)
) else none) else none
) else (
f_LandText_isCistern_b57   h11 x0

)
) else none) else none
)
) else none
set_option maxRecDepth 20000 in
set_option maxHeartbeats 4000000 in
theorem f_LandText_isCistern_b0_ok {l : Launch} {X : Nat × (Nat → Int32)} (hst : l.stackTraces = false) {d : Nat} (hd : 3 ≤ d)     {h : Hp} {x0 : Nat}  {r : Int32 × Hp} (E : f_LandText_isCistern_b0   h x0 = some r) : Rn l X mX4_isCistern d 0 [(0, .ref x0)] [] h (eI r) r.2 := by
  unfold f_LandText_isCistern_b0 at E
  refine Rn.aload_n (pc' := 1) dX4_isCistern_0 rfl 0 rfl rfl ?_
  refine Rn.iconst (pc' := 2) (v := (1 : Int32)) (hv := by decide) dX4_isCistern_1 rfl ?_
  refine Rn.sipush (pc' := 5) (v := (999 : Int32)) (hv := by decide) dX4_isCistern_2 rfl ?_
  obtain ⟨g1, E⟩ := gd_of E
  obtain ⟨v2, h3, e4, E⟩ := bI_of E
  refine Rn.callV1 (pc' := 8) (As := [.int (1 : Int32), .int (999 : Int32)]) (rest := []) (f_LandText_isOne_ok hst e4) (Nat.le_trans (by decide) hd) rfl kb_X4_74 ki_X4_isOne rfl g1 rfl rfl (Nat.le_of_ble_eq_true rfl) dX4_isCistern_5 rfl rfl ?_
  refine Rn.if_ne (pc' := 11) (tgt := 13) dX4_isCistern_8 (by decide) rfl (fun c5 => ?_) (fun c5 => ?_)
  · replace E := (if_of E).2 c5
    refine Rn.aload_n (pc' := 14) dX4_isCistern_13 rfl 0 rfl rfl ?_
    refine Rn.iconst (pc' := 15) (v := (0 : Int32)) (hv := by decide) dX4_isCistern_14 rfl ?_
    obtain ⟨g6, E⟩ := gd_of E
    refine Rn.putI (pc' := 18) fl_X4_62_4 (fun q hq => by cases hq; decide) g6 rfl rfl rfl dX4_isCistern_15 rfl ?_
    replace E := wr_of E
    generalize eh8 : sI h3 x0 10 (0 : Int32) = h7 at E ⊢
    refine Rn.aload_n (pc' := 19) dX4_isCistern_18 rfl 0 rfl rfl ?_
    refine Rn.getR (pc' := 22) fl_X4_34_4 (kp_sI eh8 g6) rfl dX4_isCistern_19 rfl ?_
    refine Rn.sipush (pc' := 25) (v := (1005 : Int32)) (hv := by decide) dX4_isCistern_22 rfl ?_
    obtain ⟨g9, E⟩ := gd_of E
    obtain ⟨v10, h11, e12, E⟩ := bI_of E
    refine Rn.callV1 (pc' := 28) (As := [.int (1005 : Int32)]) (rest := []) (f_Tape_is_ok hst e12) (Nat.le_trans (by decide) hd) rfl kb_X4_90 ki_X9_is rfl g9 rfl rfl (Nat.le_of_ble_eq_true rfl) dX4_isCistern_25 rfl rfl ?_
    refine Rn.if_ne (pc' := 31) (tgt := 57) dX4_isCistern_28 (by decide) rfl (fun c13 => ?_) (fun c13 => ?_)
    · replace E := (if_of E).2 c13
      exact f_LandText_isCistern_b57_ok hst hd   E
    · replace E := (if_of E).1 c13
      refine Rn.aload_n (pc' := 32) dX4_isCistern_31 rfl 0 rfl rfl ?_
      obtain ⟨g14, E⟩ := gd_of E
      refine Rn.getR (pc' := 35) fl_X4_34_4 g14 rfl dX4_isCistern_32 rfl ?_
      refine Rn.sipush (pc' := 38) (v := (1006 : Int32)) (hv := by decide) dX4_isCistern_35 rfl ?_
      obtain ⟨g15, E⟩ := gd_of E
      obtain ⟨v16, h17, e18, E⟩ := bI_of E
      refine Rn.callV1 (pc' := 41) (As := [.int (1006 : Int32)]) (rest := []) (f_Tape_is_ok hst e18) (Nat.le_trans (by decide) hd) rfl kb_X4_90 ki_X9_is rfl g15 rfl rfl (Nat.le_of_ble_eq_true rfl) dX4_isCistern_38 rfl rfl ?_
      refine Rn.if_ne (pc' := 44) (tgt := 57) dX4_isCistern_41 (by decide) rfl (fun c19 => ?_) (fun c19 => ?_)
      · replace E := (if_of E).2 c19
        exact f_LandText_isCistern_b57_ok hst hd   E
      · replace E := (if_of E).1 c19
        refine Rn.aload_n (pc' := 45) dX4_isCistern_44 rfl 0 rfl rfl ?_
        obtain ⟨g20, E⟩ := gd_of E
        refine Rn.getR (pc' := 48) fl_X4_34_4 g20 rfl dX4_isCistern_45 rfl ?_
        refine Rn.sipush (pc' := 51) (v := (1007 : Int32)) (hv := by decide) dX4_isCistern_48 rfl ?_
        obtain ⟨g21, E⟩ := gd_of E
        obtain ⟨v22, h23, e24, E⟩ := bI_of E
        refine Rn.callV1 (pc' := 54) (As := [.int (1007 : Int32)]) (rest := []) (f_Tape_is_ok hst e24) (Nat.le_trans (by decide) hd) rfl kb_X4_90 ki_X9_is rfl g21 rfl rfl (Nat.le_of_ble_eq_true rfl) dX4_isCistern_51 rfl rfl ?_
        refine Rn.if_eq (pc' := 57) (tgt := 103) dX4_isCistern_54 (by decide) rfl (fun c25 => ?_) (fun c25 => ?_)
        · replace E := (if_of E).1 c25
          exact f_LandText_isCistern_b103_ok hst hd   E
        · replace E := (if_of E).2 c25
          exact f_LandText_isCistern_b57_ok hst hd   E
  · replace E := (if_of E).1 c5
    refine Rn.iconst (pc' := 12) (v := (0 : Int32)) (hv := by decide) dX4_isCistern_11 rfl ?_
    cases E
    exact Rn.zret rfl rfl dX4_isCistern_12
def f_LandText_isCistern (h : Hp) (x0 : Nat) : Option (Int32 × Hp) := f_LandText_isCistern_b0  h x0
theorem f_LandText_isCistern_ok {l : Launch} {X : Nat × (Nat → Int32)} (hst : l.stackTraces = false) {h : Hp} {x0 : Nat} {r : Int32 × Hp} (E : f_LandText_isCistern h x0 = some r) : MC l X yX4_isCistern mX4_isCistern 3 [.ref x0] h (eI r) r.2 :=
  MC.body (by decide +kernel) rfl (by decide) hst (Nat.le_of_ble_eq_true rfl) (f_LandText_isCistern_b0_ok hst (Nat.le_refl _) E)
abbrev mX4_isRest : MI := (RX4, cX4_isRest, 2, (some Jvm.ClassFile.FieldType.boolean), [], false)
theorem ws_X4_isRest : ∀ w ∈ wsM yX4_isRest mX4_isRest, w ∈ gw := List.forall_mem_cons.mpr ⟨gw_at 847 (by decide +kernel) (by decide +kernel), fun _ h => h⟩
theorem kb_X4_68 : KB RX4 68 yX4_isCistern mX4_isCistern 0 := ⟨gw_at 848 (by decide +kernel) (by decide +kernel), gw_at 110 (by decide +kernel) (by decide +kernel), trivial, ws_X4_isCistern, by decide +kernel, by decide +kernel, by decide +kernel, by decide⟩
theorem ki_X4_isCistern : Cond.instanceMethod yX4_isCistern ∈ gw ∧ Cond.selects yX4_isCistern.cls yX4_isCistern yX4_isCistern ∈ gw := ⟨gw_at 850 (by decide +kernel) (by decide +kernel), gw_at 19 (by decide +kernel) (by decide +kernel)⟩
theorem kb_X4_71 : KB RX4 71 yX4_isHouse mX4_isHouse 0 := ⟨gw_at 864 (by decide +kernel) (by decide +kernel), gw_at 110 (by decide +kernel) (by decide +kernel), trivial, ws_X4_isHouse, by decide +kernel, by decide +kernel, by decide +kernel, by decide⟩
theorem ki_X4_isHouse : Cond.instanceMethod yX4_isHouse ∈ gw ∧ Cond.selects yX4_isHouse.cls yX4_isHouse yX4_isHouse ∈ gw := ⟨gw_at 866 (by decide +kernel) (by decide +kernel), gw_at 21 (by decide +kernel) (by decide +kernel)⟩
theorem kb_X4_87 : KB RX4 87 yX4_isLeak mX4_isLeak 0 := ⟨gw_at 881 (by decide +kernel) (by decide +kernel), gw_at 110 (by decide +kernel) (by decide +kernel), trivial, ws_X4_isLeak, by decide +kernel, by decide +kernel, by decide +kernel, by decide⟩
theorem ki_X4_isLeak : Cond.instanceMethod yX4_isLeak ∈ gw ∧ Cond.selects yX4_isLeak.cls yX4_isLeak yX4_isLeak ∈ gw := ⟨gw_at 883 (by decide +kernel) (by decide +kernel), gw_at 24 (by decide +kernel) (by decide +kernel)⟩
def f_LandText_isRest_b0   (h : Hp) (x0 : Nat) (x1 : Int32)  : Option (Int32 × Hp) :=
if x1 = (1002 : Int32) then (
if hS h x0 = 5 then (
bI (f_LandText_isOne h x0 (0 : Int32) (29 : Int32)) fun v5 h6 =>
if v5 = 0 then (
some ((0 : Int32), h6)

) else (
if hS h6 x0 = 5 then (
bI (f_LandText_isTwo h6 x0 (0 : Int32) (99 : Int32)) fun v10 h11 =>
if v10 = 0 then (
some ((0 : Int32), h11)

) else (
some ((1 : Int32), h11)

)
) else none
)
) else none
) else (
if x1 = (1015 : Int32) then (
if hS h x0 = 5 then (
bI (f_LandText_isCistern h x0) fun v16 h17 =>
if v16 = 0 ∨ v16 = 1 then (
some (v16, h17)
) else none) else none
) else (
if x1 = (1016 : Int32) then (
if hS h x0 = 5 then (
bI (f_LandText_isOne h x0 (0 : Int32) (999 : Int32)) fun v22 h23 =>
if v22 = 0 then (
some ((0 : Int32), h23)

) else (
if hS h23 x0 = 5 then (
if hS h23 (hR h23 x0 0) = 9 then (
bI (f_Tape_takes h23 (hR h23 x0 0) (1017 : Int32)) fun v28 h29 =>
if v28 = 0 then (
some ((0 : Int32), h29)

) else (
if hS h29 x0 = 5 then (
bI (f_LandText_isTwo h29 x0 (0 : Int32) (29 : Int32)) fun v33 h34 =>
if v33 = 0 then (
some ((0 : Int32), h34)

) else (
if hS h34 x0 = 5 then (
if hS h34 (hR h34 x0 0) = 9 then (
bI (f_Tape_takes h34 (hR h34 x0 0) (1018 : Int32)) fun v39 h40 =>
if v39 = 0 then (
some ((0 : Int32), h40)

) else (
if hS h40 x0 = 5 then (
bI (f_LandText_isThree h40 x0 (0 : Int32) ((hI h40 x0 7) - (1 : Int32))) fun v44 h45 =>
if v44 = 0 then (
some ((0 : Int32), h45)

) else (
some ((1 : Int32), h45)

)
) else none
)
) else none) else none
)
) else none
)
) else none) else none
)
) else none
) else (
if x1 = (1019 : Int32) then (
if hS h x0 = 5 then (
bI (f_LandText_isHouse h x0) fun v50 h51 =>
if v50 = 0 ∨ v50 = 1 then (
some (v50, h51)
) else none) else none
) else (
if x1 = (1022 : Int32) then (
if hS h x0 = 5 then (
bI (f_LandText_isLeak h x0) fun v56 h57 =>
if v56 = 0 ∨ v56 = 1 then (
some (v56, h57)
) else none) else none
) else (
if hS h x0 = 5 then (
bI (f_LandText_isOne h x0 (0 : Int32) ((hI h x0 7) - (1 : Int32))) fun v61 h62 =>
if v61 = 0 ∨ v61 = 1 then (
some (v61, h62)
) else none) else none
)))))

set_option maxRecDepth 20000 in
set_option maxHeartbeats 4000000 in
theorem f_LandText_isRest_b0_ok {l : Launch} {X : Nat × (Nat → Int32)} (hst : l.stackTraces = false) {d : Nat} (hd : 4 ≤ d)     {h : Hp} {x0 : Nat} {x1 : Int32}  {r : Int32 × Hp} (E : f_LandText_isRest_b0   h x0 x1 = some r) : Rn l X mX4_isRest d 0 [(0, .ref x0), (1, .int x1)] [] h (eI r) r.2 := by
  unfold f_LandText_isRest_b0 at E
  refine Rn.iload_n (pc' := 1) dX4_isRest_0 rfl 1 rfl rfl ?_
  by_cases c3 : x1 = (1002 : Int32)
  · replace E := (if_of E).1 c3
    skip
    refine Rn.look (x := x1) (tgt := 129) dX4_isRest_1 (by decide) (by rw [c3]; first | done | rfl) (by decide) ?_
    refine Rn.aload_n (pc' := 130) dX4_isRest_129 rfl 0 rfl rfl ?_
    refine Rn.iconst (pc' := 131) (v := (0 : Int32)) (hv := by decide) dX4_isRest_130 rfl ?_
    refine Rn.bipush (pc' := 133) (v := (29 : Int32)) (hv := by decide) dX4_isRest_131 rfl ?_
    obtain ⟨g4, E⟩ := gd_of E
    obtain ⟨v5, h6, e7, E⟩ := bI_of E
    refine Rn.callV1 (pc' := 136) (As := [.int (0 : Int32), .int (29 : Int32)]) (rest := []) (f_LandText_isOne_ok hst e7) (Nat.le_trans (by decide) hd) rfl kb_X4_74 ki_X4_isOne rfl g4 rfl rfl (Nat.le_of_ble_eq_true rfl) dX4_isRest_133 rfl rfl ?_
    refine Rn.if_eq (pc' := 139) (tgt := 153) dX4_isRest_136 (by decide) rfl (fun c8 => ?_) (fun c8 => ?_)
    · replace E := (if_of E).1 c8
      refine Rn.iconst (pc' := 154) (v := (0 : Int32)) (hv := by decide) dX4_isRest_153 rfl ?_
      cases E
      exact Rn.zret rfl rfl dX4_isRest_154
    · replace E := (if_of E).2 c8
      refine Rn.aload_n (pc' := 140) dX4_isRest_139 rfl 0 rfl rfl ?_
      refine Rn.iconst (pc' := 141) (v := (0 : Int32)) (hv := by decide) dX4_isRest_140 rfl ?_
      refine Rn.bipush (pc' := 143) (v := (99 : Int32)) (hv := by decide) dX4_isRest_141 rfl ?_
      obtain ⟨g9, E⟩ := gd_of E
      obtain ⟨v10, h11, e12, E⟩ := bI_of E
      refine Rn.callV1 (pc' := 146) (As := [.int (0 : Int32), .int (99 : Int32)]) (rest := []) (f_LandText_isTwo_ok hst e12) (Nat.le_trans (by decide) hd) rfl kb_X4_81 ki_X4_isTwo rfl g9 rfl rfl (Nat.le_of_ble_eq_true rfl) dX4_isRest_143 rfl rfl ?_
      refine Rn.if_eq (pc' := 149) (tgt := 153) dX4_isRest_146 (by decide) rfl (fun c13 => ?_) (fun c13 => ?_)
      · replace E := (if_of E).1 c13
        refine Rn.iconst (pc' := 154) (v := (0 : Int32)) (hv := by decide) dX4_isRest_153 rfl ?_
        cases E
        exact Rn.zret rfl rfl dX4_isRest_154
      · replace E := (if_of E).2 c13
        refine Rn.iconst (pc' := 150) (v := (1 : Int32)) (hv := by decide) dX4_isRest_149 rfl ?_
        refine Rn.goto (pc' := 154) dX4_isRest_150 (by decide) ?_
        cases E
        exact Rn.zret rfl rfl dX4_isRest_154
  replace E := (if_of E).2 c3
  by_cases c14 : x1 = (1015 : Int32)
  · replace E := (if_of E).1 c14
    skip
    refine Rn.look (x := x1) (tgt := 52) dX4_isRest_1 (by decide) (by rw [c14]; first | done | rfl) (by decide) ?_
    refine Rn.aload_n (pc' := 53) dX4_isRest_52 rfl 0 rfl rfl ?_
    obtain ⟨g15, E⟩ := gd_of E
    obtain ⟨v16, h17, e18, E⟩ := bI_of E
    refine Rn.callV1 (pc' := 56) (As := []) (rest := []) (f_LandText_isCistern_ok hst e18) (Nat.le_trans (by decide) hd) rfl kb_X4_68 ki_X4_isCistern rfl g15 rfl rfl (Nat.le_of_ble_eq_true rfl) dX4_isRest_53 rfl rfl ?_
    obtain ⟨g19, E⟩ := gd_of E
    cases E
    exact Rn.zret rfl (nar_b g19) dX4_isRest_56
  replace E := (if_of E).2 c14
  by_cases c20 : x1 = (1016 : Int32)
  · replace E := (if_of E).1 c20
    skip
    refine Rn.look (x := x1) (tgt := 62) dX4_isRest_1 (by decide) (by rw [c20]; first | done | rfl) (by decide) ?_
    refine Rn.aload_n (pc' := 63) dX4_isRest_62 rfl 0 rfl rfl ?_
    refine Rn.iconst (pc' := 64) (v := (0 : Int32)) (hv := by decide) dX4_isRest_63 rfl ?_
    refine Rn.sipush (pc' := 67) (v := (999 : Int32)) (hv := by decide) dX4_isRest_64 rfl ?_
    obtain ⟨g21, E⟩ := gd_of E
    obtain ⟨v22, h23, e24, E⟩ := bI_of E
    refine Rn.callV1 (pc' := 70) (As := [.int (0 : Int32), .int (999 : Int32)]) (rest := []) (f_LandText_isOne_ok hst e24) (Nat.le_trans (by decide) hd) rfl kb_X4_74 ki_X4_isOne rfl g21 rfl rfl (Nat.le_of_ble_eq_true rfl) dX4_isRest_67 rfl rfl ?_
    refine Rn.if_eq (pc' := 73) (tgt := 127) dX4_isRest_70 (by decide) rfl (fun c25 => ?_) (fun c25 => ?_)
    · replace E := (if_of E).1 c25
      refine Rn.iconst (pc' := 128) (v := (0 : Int32)) (hv := by decide) dX4_isRest_127 rfl ?_
      cases E
      exact Rn.zret rfl rfl dX4_isRest_128
    · replace E := (if_of E).2 c25
      refine Rn.aload_n (pc' := 74) dX4_isRest_73 rfl 0 rfl rfl ?_
      obtain ⟨g26, E⟩ := gd_of E
      refine Rn.getR (pc' := 77) fl_X4_34_4 g26 rfl dX4_isRest_74 rfl ?_
      refine Rn.sipush (pc' := 80) (v := (1017 : Int32)) (hv := by decide) dX4_isRest_77 rfl ?_
      obtain ⟨g27, E⟩ := gd_of E
      obtain ⟨v28, h29, e30, E⟩ := bI_of E
      refine Rn.callV1 (pc' := 83) (As := [.int (1017 : Int32)]) (rest := []) (f_Tape_takes_ok hst e30) (Nat.le_trans (by decide) hd) rfl kb_X4_78 ki_X9_takes rfl g27 rfl rfl (Nat.le_of_ble_eq_true rfl) dX4_isRest_80 rfl rfl ?_
      refine Rn.if_eq (pc' := 86) (tgt := 127) dX4_isRest_83 (by decide) rfl (fun c31 => ?_) (fun c31 => ?_)
      · replace E := (if_of E).1 c31
        refine Rn.iconst (pc' := 128) (v := (0 : Int32)) (hv := by decide) dX4_isRest_127 rfl ?_
        cases E
        exact Rn.zret rfl rfl dX4_isRest_128
      · replace E := (if_of E).2 c31
        refine Rn.aload_n (pc' := 87) dX4_isRest_86 rfl 0 rfl rfl ?_
        refine Rn.iconst (pc' := 88) (v := (0 : Int32)) (hv := by decide) dX4_isRest_87 rfl ?_
        refine Rn.bipush (pc' := 90) (v := (29 : Int32)) (hv := by decide) dX4_isRest_88 rfl ?_
        obtain ⟨g32, E⟩ := gd_of E
        obtain ⟨v33, h34, e35, E⟩ := bI_of E
        refine Rn.callV1 (pc' := 93) (As := [.int (0 : Int32), .int (29 : Int32)]) (rest := []) (f_LandText_isTwo_ok hst e35) (Nat.le_trans (by decide) hd) rfl kb_X4_81 ki_X4_isTwo rfl g32 rfl rfl (Nat.le_of_ble_eq_true rfl) dX4_isRest_90 rfl rfl ?_
        refine Rn.if_eq (pc' := 96) (tgt := 127) dX4_isRest_93 (by decide) rfl (fun c36 => ?_) (fun c36 => ?_)
        · replace E := (if_of E).1 c36
          refine Rn.iconst (pc' := 128) (v := (0 : Int32)) (hv := by decide) dX4_isRest_127 rfl ?_
          cases E
          exact Rn.zret rfl rfl dX4_isRest_128
        · replace E := (if_of E).2 c36
          refine Rn.aload_n (pc' := 97) dX4_isRest_96 rfl 0 rfl rfl ?_
          obtain ⟨g37, E⟩ := gd_of E
          refine Rn.getR (pc' := 100) fl_X4_34_4 g37 rfl dX4_isRest_97 rfl ?_
          refine Rn.sipush (pc' := 103) (v := (1018 : Int32)) (hv := by decide) dX4_isRest_100 rfl ?_
          obtain ⟨g38, E⟩ := gd_of E
          obtain ⟨v39, h40, e41, E⟩ := bI_of E
          refine Rn.callV1 (pc' := 106) (As := [.int (1018 : Int32)]) (rest := []) (f_Tape_takes_ok hst e41) (Nat.le_trans (by decide) hd) rfl kb_X4_78 ki_X9_takes rfl g38 rfl rfl (Nat.le_of_ble_eq_true rfl) dX4_isRest_103 rfl rfl ?_
          refine Rn.if_eq (pc' := 109) (tgt := 127) dX4_isRest_106 (by decide) rfl (fun c42 => ?_) (fun c42 => ?_)
          · replace E := (if_of E).1 c42
            refine Rn.iconst (pc' := 128) (v := (0 : Int32)) (hv := by decide) dX4_isRest_127 rfl ?_
            cases E
            exact Rn.zret rfl rfl dX4_isRest_128
          · replace E := (if_of E).2 c42
            refine Rn.aload_n (pc' := 110) dX4_isRest_109 rfl 0 rfl rfl ?_
            refine Rn.iconst (pc' := 111) (v := (0 : Int32)) (hv := by decide) dX4_isRest_110 rfl ?_
            refine Rn.aload_n (pc' := 112) dX4_isRest_111 rfl 0 rfl rfl ?_
            obtain ⟨g43, E⟩ := gd_of E
            refine Rn.getI (pc' := 115) fl_X4_24_4 g43 rfl dX4_isRest_112 rfl ?_
            refine Rn.iconst (pc' := 116) (v := (1 : Int32)) (hv := by decide) dX4_isRest_115 rfl ?_
            refine Rn.isub (pc' := 117) dX4_isRest_116 rfl ?_
            obtain ⟨v44, h45, e46, E⟩ := bI_of E
            refine Rn.callV1 (pc' := 120) (As := [.int (0 : Int32), .int ((hI h40 x0 7) - (1 : Int32))]) (rest := []) (f_LandText_isThree_ok hst e46) (Nat.le_trans (by decide) hd) rfl kb_X4_84 ki_X4_isThree rfl g43 rfl rfl (Nat.le_of_ble_eq_true rfl) dX4_isRest_117 rfl rfl ?_
            refine Rn.if_eq (pc' := 123) (tgt := 127) dX4_isRest_120 (by decide) rfl (fun c47 => ?_) (fun c47 => ?_)
            · replace E := (if_of E).1 c47
              refine Rn.iconst (pc' := 128) (v := (0 : Int32)) (hv := by decide) dX4_isRest_127 rfl ?_
              cases E
              exact Rn.zret rfl rfl dX4_isRest_128
            · replace E := (if_of E).2 c47
              refine Rn.iconst (pc' := 124) (v := (1 : Int32)) (hv := by decide) dX4_isRest_123 rfl ?_
              refine Rn.goto (pc' := 128) dX4_isRest_124 (by decide) ?_
              cases E
              exact Rn.zret rfl rfl dX4_isRest_128
  replace E := (if_of E).2 c20
  by_cases c48 : x1 = (1019 : Int32)
  · replace E := (if_of E).1 c48
    skip
    refine Rn.look (x := x1) (tgt := 57) dX4_isRest_1 (by decide) (by rw [c48]; first | done | rfl) (by decide) ?_
    refine Rn.aload_n (pc' := 58) dX4_isRest_57 rfl 0 rfl rfl ?_
    obtain ⟨g49, E⟩ := gd_of E
    obtain ⟨v50, h51, e52, E⟩ := bI_of E
    refine Rn.callV1 (pc' := 61) (As := []) (rest := []) (f_LandText_isHouse_ok hst e52) (Nat.le_trans (by decide) hd) rfl kb_X4_71 ki_X4_isHouse rfl g49 rfl rfl (Nat.le_of_ble_eq_true rfl) dX4_isRest_58 rfl rfl ?_
    obtain ⟨g53, E⟩ := gd_of E
    cases E
    exact Rn.zret rfl (nar_b g53) dX4_isRest_61
  replace E := (if_of E).2 c48
  by_cases c54 : x1 = (1022 : Int32)
  · replace E := (if_of E).1 c54
    skip
    refine Rn.look (x := x1) (tgt := 155) dX4_isRest_1 (by decide) (by rw [c54]; first | done | rfl) (by decide) ?_
    refine Rn.aload_n (pc' := 156) dX4_isRest_155 rfl 0 rfl rfl ?_
    obtain ⟨g55, E⟩ := gd_of E
    obtain ⟨v56, h57, e58, E⟩ := bI_of E
    refine Rn.callV1 (pc' := 159) (As := []) (rest := []) (f_LandText_isLeak_ok hst e58) (Nat.le_trans (by decide) hd) rfl kb_X4_87 ki_X4_isLeak rfl g55 rfl rfl (Nat.le_of_ble_eq_true rfl) dX4_isRest_156 rfl rfl ?_
    obtain ⟨g59, E⟩ := gd_of E
    cases E
    exact Rn.zret rfl (nar_b g59) dX4_isRest_159
  replace E := (if_of E).2 c54
  refine Rn.look (x := x1) (tgt := 160) dX4_isRest_1 (by decide) (look_no _ _ (List.forall_mem_cons.mpr ⟨look_nt (by decide) c3, List.forall_mem_cons.mpr ⟨look_nt (by decide) c14, List.forall_mem_cons.mpr ⟨look_nt (by decide) c20, List.forall_mem_cons.mpr ⟨look_nt (by decide) c48, List.forall_mem_cons.mpr ⟨look_nt (by decide) c54, fun _ h => absurd h List.not_mem_nil⟩⟩⟩⟩⟩)) (by decide) ?_
  refine Rn.aload_n (pc' := 161) dX4_isRest_160 rfl 0 rfl rfl ?_
  refine Rn.iconst (pc' := 162) (v := (0 : Int32)) (hv := by decide) dX4_isRest_161 rfl ?_
  refine Rn.aload_n (pc' := 163) dX4_isRest_162 rfl 0 rfl rfl ?_
  obtain ⟨g60, E⟩ := gd_of E
  refine Rn.getI (pc' := 166) fl_X4_24_4 g60 rfl dX4_isRest_163 rfl ?_
  refine Rn.iconst (pc' := 167) (v := (1 : Int32)) (hv := by decide) dX4_isRest_166 rfl ?_
  refine Rn.isub (pc' := 168) dX4_isRest_167 rfl ?_
  obtain ⟨v61, h62, e63, E⟩ := bI_of E
  refine Rn.callV1 (pc' := 171) (As := [.int (0 : Int32), .int ((hI h x0 7) - (1 : Int32))]) (rest := []) (f_LandText_isOne_ok hst e63) (Nat.le_trans (by decide) hd) rfl kb_X4_74 ki_X4_isOne rfl g60 rfl rfl (Nat.le_of_ble_eq_true rfl) dX4_isRest_168 rfl rfl ?_
  obtain ⟨g64, E⟩ := gd_of E
  cases E
  exact Rn.zret rfl (nar_b g64) dX4_isRest_171
def f_LandText_isRest (h : Hp) (x0 : Nat) (x1 : Int32) : Option (Int32 × Hp) := f_LandText_isRest_b0  h x0 x1
theorem f_LandText_isRest_ok {l : Launch} {X : Nat × (Nat → Int32)} (hst : l.stackTraces = false) {h : Hp} {x0 : Nat} {x1 : Int32} {r : Int32 × Hp} (E : f_LandText_isRest h x0 x1 = some r) : MC l X yX4_isRest mX4_isRest 4 [.ref x0, .int x1] h (eI r) r.2 :=
  MC.body (by decide +kernel) rfl (by decide) hst (Nat.le_of_ble_eq_true rfl) (f_LandText_isRest_b0_ok hst (Nat.le_refl _) E)
abbrev mX4_isLine : MI := (RX4, cX4_isLine, 2, (some Jvm.ClassFile.FieldType.boolean), [], false)
theorem ws_X4_isLine : ∀ w ∈ wsM yX4_isLine mX4_isLine, w ∈ gw := List.forall_mem_cons.mpr ⟨gw_at 827 (by decide +kernel) (by decide +kernel), fun _ h => h⟩
theorem kb_X4_38 : KB RX4 38 yX9_code mX9_code 0 := ⟨gw_at 828 (by decide +kernel) (by decide +kernel), gw_at 108 (by decide +kernel) (by decide +kernel), trivial, ws_X9_code, by decide +kernel, by decide +kernel, by decide +kernel, by decide⟩
theorem kb_X4_44 : KB RX4 44 yX4_mayBegin mX4_mayBegin 1 := ⟨gw_at 832 (by decide +kernel) (by decide +kernel), gw_at 110 (by decide +kernel) (by decide +kernel), trivial, ws_X4_mayBegin, by decide +kernel, by decide +kernel, by decide +kernel, by decide⟩
theorem ki_X4_mayBegin : Cond.instanceMethod yX4_mayBegin ∈ gw ∧ Cond.selects yX4_mayBegin.cls yX4_mayBegin yX4_mayBegin ∈ gw := ⟨gw_at 834 (by decide +kernel) (by decide +kernel), gw_at 17 (by decide +kernel) (by decide +kernel)⟩
theorem kb_X4_56 : KB RX4 56 yX4_isRest mX4_isRest 1 := ⟨gw_at 844 (by decide +kernel) (by decide +kernel), gw_at 110 (by decide +kernel) (by decide +kernel), trivial, ws_X4_isRest, by decide +kernel, by decide +kernel, by decide +kernel, by decide⟩
theorem ki_X4_isRest : Cond.instanceMethod yX4_isRest ∈ gw ∧ Cond.selects yX4_isRest.cls yX4_isRest yX4_isRest ∈ gw := ⟨gw_at 846 (by decide +kernel) (by decide +kernel), gw_at 18 (by decide +kernel) (by decide +kernel)⟩
def f_LandText_isLine_b0   (h : Hp) (x0 : Nat)  : Option (Int32 × Hp) :=
if hS h x0 = 5 then (
if hS h (hR h x0 0) = 9 then (
bI (f_Tape_code h (hR h x0 0)) fun v3 h4 =>
if hS h4 x0 = 5 then (
bI (f_LandText_mayBegin h4 x0 v3) fun v7 h8 =>
if v7 = 0 then (
if hS h8 x0 = 5 then (
if hS h8 (hR h8 x0 0) = 9 then (
bI (f_Tape_fail h8 (hR h8 x0 0)) fun v13 h14 =>
if v13 = 0 ∨ v13 = 1 then (
some (v13, h14)
) else none) else none) else none
) else (
if hS h8 x0 = 5 then (
if hS h8 (hR h8 x0 0) = 9 then (
bV (f_Tape_step h8 (hR h8 x0 0)) fun h20 =>
if hS h20 x0 = 5 then (
bI (f_LandText_isRest h20 x0 v3) fun v23 h24 =>
if v23 = 0 then (
some ((0 : Int32), h24)

) else (
if hS h24 x0 = 5 then (
if (hI h24 x0 2) < (14 : Int32) then (
if hS h24 (hR h24 x0 3) = 20 then (
if ib (hI h24 x0 2) (hL h24 (hR h24 x0 3)) = true then (
wr (sI h24 (hR h24 x0 3) (ix (hI h24 x0 2)) v3) fun h31 =>
if hS h31 (hR h31 x0 4) = 20 then (
if ib (hI h31 x0 2) (hL h31 (hR h31 x0 4)) = true then (
wr (sI h31 (hR h31 x0 4) (ix (hI h31 x0 2)) (hI h31 x0 9)) fun h35 =>
if hS h35 (hR h35 x0 5) = 20 then (
if ib (hI h35 x0 2) (hL h35 (hR h35 x0 5)) = true then (
wr (sI h35 (hR h35 x0 5) (ix (hI h35 x0 2)) (hI h35 x0 10)) fun h39 =>
if hS h39 (hR h39 x0 6) = 20 then (
if ib (hI h39 x0 2) (hL h39 (hR h39 x0 6)) = true then (
wr (sI h39 (hR h39 x0 6) (ix (hI h39 x0 2)) (hI h39 x0 11)) fun h43 =>
wr (sI h43 x0 2 ((hI h43 x0 2) + (1 : Int32))) fun h45 =>
some ((1 : Int32), h45)
) else none) else none) else none) else none) else none) else none) else none) else none
) else (
some ((0 : Int32), h24)

)
) else none
)
) else none) else none) else none
)
) else none) else none) else none
set_option maxRecDepth 20000 in
set_option maxHeartbeats 4000000 in
theorem f_LandText_isLine_b0_ok {l : Launch} {X : Nat × (Nat → Int32)} (hst : l.stackTraces = false) {d : Nat} (hd : 5 ≤ d)     {h : Hp} {x0 : Nat}  {r : Int32 × Hp} (E : f_LandText_isLine_b0   h x0 = some r) : Rn l X mX4_isLine d 0 [(0, .ref x0)] [] h (eI r) r.2 := by
  unfold f_LandText_isLine_b0 at E
  refine Rn.aload_n (pc' := 1) dX4_isLine_0 rfl 0 rfl rfl ?_
  obtain ⟨g1, E⟩ := gd_of E
  refine Rn.getR (pc' := 4) fl_X4_34_4 g1 rfl dX4_isLine_1 rfl ?_
  obtain ⟨g2, E⟩ := gd_of E
  obtain ⟨v3, h4, e5, E⟩ := bI_of E
  refine Rn.callV1 (pc' := 7) (As := []) (rest := []) (f_Tape_code_ok hst e5) (Nat.le_trans (by decide) hd) rfl kb_X4_38 ki_X9_code rfl g2 rfl rfl (Nat.le_of_ble_eq_true rfl) dX4_isLine_4 rfl rfl ?_
  refine Rn.istore_n (pc' := 8) (L' := [(1, .int v3), (0, .ref x0)]) dX4_isLine_7 rfl (by decide) rfl rfl ?_
  refine Rn.aload_n (pc' := 9) dX4_isLine_8 rfl 1 rfl rfl ?_
  refine Rn.iload_n (pc' := 10) dX4_isLine_9 rfl 0 rfl rfl ?_
  obtain ⟨g6, E⟩ := gd_of E
  obtain ⟨v7, h8, e9, E⟩ := bI_of E
  refine Rn.callV1 (pc' := 13) (As := [.int v3]) (rest := []) (f_LandText_mayBegin_ok hst e9) (Nat.le_trans (by decide) hd) rfl kb_X4_44 ki_X4_mayBegin rfl g6 rfl rfl (Nat.le_of_ble_eq_true rfl) dX4_isLine_10 rfl rfl ?_
  refine Rn.if_ne (pc' := 16) (tgt := 24) dX4_isLine_13 (by decide) rfl (fun c10 => ?_) (fun c10 => ?_)
  · replace E := (if_of E).2 c10
    refine Rn.aload_n (pc' := 25) dX4_isLine_24 rfl 1 rfl rfl ?_
    obtain ⟨g17, E⟩ := gd_of E
    refine Rn.getR (pc' := 28) fl_X4_34_4 g17 rfl dX4_isLine_25 rfl ?_
    obtain ⟨g18, E⟩ := gd_of E
    obtain ⟨h20, e21, E⟩ := bV_of E
    refine Rn.callV1 (pc' := 31) (As := []) (rest := []) (f_Tape_step_ok hst e21) (Nat.le_trans (by decide) hd) rfl kb_X4_52 ki_X9_step rfl g18 rfl rfl (Nat.le_of_ble_eq_true rfl) dX4_isLine_28 rfl rfl ?_
    refine Rn.aload_n (pc' := 32) dX4_isLine_31 rfl 1 rfl rfl ?_
    refine Rn.iload_n (pc' := 33) dX4_isLine_32 rfl 0 rfl rfl ?_
    obtain ⟨g22, E⟩ := gd_of E
    obtain ⟨v23, h24, e25, E⟩ := bI_of E
    refine Rn.callV1 (pc' := 36) (As := [.int v3]) (rest := []) (f_LandText_isRest_ok hst e25) (Nat.le_trans (by decide) hd) rfl kb_X4_56 ki_X4_isRest rfl g22 rfl rfl (Nat.le_of_ble_eq_true rfl) dX4_isLine_33 rfl rfl ?_
    refine Rn.if_eq (pc' := 39) (tgt := 48) dX4_isLine_36 (by decide) rfl (fun c26 => ?_) (fun c26 => ?_)
    · replace E := (if_of E).1 c26
      refine Rn.iconst (pc' := 49) (v := (0 : Int32)) (hv := by decide) dX4_isLine_48 rfl ?_
      cases E
      exact Rn.zret rfl rfl dX4_isLine_49
    · replace E := (if_of E).2 c26
      refine Rn.aload_n (pc' := 40) dX4_isLine_39 rfl 1 rfl rfl ?_
      obtain ⟨g27, E⟩ := gd_of E
      refine Rn.getI (pc' := 43) fl_X4_31_4 g27 rfl dX4_isLine_40 rfl ?_
      refine Rn.bipush (pc' := 45) (v := (14 : Int32)) (hv := by decide) dX4_isLine_43 rfl ?_
      refine Rn.icmp_lt (pc' := 48) (tgt := 50) dX4_isLine_45 (by decide) rfl (fun c28 => ?_) (fun c28 => ?_)
      · replace E := (if_of E).1 c28
        refine Rn.aload_n (pc' := 51) dX4_isLine_50 rfl 1 rfl rfl ?_
        refine Rn.getR (pc' := 54) fl_X4_9_4 g27 rfl dX4_isLine_51 rfl ?_
        refine Rn.aload_n (pc' := 55) dX4_isLine_54 rfl 1 rfl rfl ?_
        refine Rn.getI (pc' := 58) fl_X4_31_4 g27 rfl dX4_isLine_55 rfl ?_
        refine Rn.iload_n (pc' := 59) dX4_isLine_58 rfl 0 rfl rfl ?_
        obtain ⟨g29, E⟩ := gd_of E
        obtain ⟨g30, E⟩ := gd_of E
        refine Rn.iast (pc' := 60) g29 g30 dX4_isLine_59 rfl ?_
        replace E := wr_of E
        generalize eh32 : sI h24 (hR h24 x0 3) (ix (hI h24 x0 2)) v3 = h31 at E ⊢
        refine Rn.aload_n (pc' := 61) dX4_isLine_60 rfl 1 rfl rfl ?_
        refine Rn.getR (pc' := 64) fl_X4_15_4 (kp_sI eh32 g27) rfl dX4_isLine_61 rfl ?_
        refine Rn.aload_n (pc' := 65) dX4_isLine_64 rfl 1 rfl rfl ?_
        refine Rn.getI (pc' := 68) fl_X4_31_4 (kp_sI eh32 g27) rfl dX4_isLine_65 rfl ?_
        refine Rn.aload_n (pc' := 69) dX4_isLine_68 rfl 1 rfl rfl ?_
        refine Rn.getI (pc' := 72) fl_X4_59_4 (kp_sI eh32 g27) rfl dX4_isLine_69 rfl ?_
        obtain ⟨g33, E⟩ := gd_of E
        obtain ⟨g34, E⟩ := gd_of E
        refine Rn.iast (pc' := 73) g33 g34 dX4_isLine_72 rfl ?_
        replace E := wr_of E
        generalize eh36 : sI h31 (hR h31 x0 4) (ix (hI h31 x0 2)) (hI h31 x0 9) = h35 at E ⊢
        refine Rn.aload_n (pc' := 74) dX4_isLine_73 rfl 1 rfl rfl ?_
        refine Rn.getR (pc' := 77) fl_X4_18_4 (kp_sI eh36 (kp_sI eh32 g27)) rfl dX4_isLine_74 rfl ?_
        refine Rn.aload_n (pc' := 78) dX4_isLine_77 rfl 1 rfl rfl ?_
        refine Rn.getI (pc' := 81) fl_X4_31_4 (kp_sI eh36 (kp_sI eh32 g27)) rfl dX4_isLine_78 rfl ?_
        refine Rn.aload_n (pc' := 82) dX4_isLine_81 rfl 1 rfl rfl ?_
        refine Rn.getI (pc' := 85) fl_X4_62_4 (kp_sI eh36 (kp_sI eh32 g27)) rfl dX4_isLine_82 rfl ?_
        obtain ⟨g37, E⟩ := gd_of E
        obtain ⟨g38, E⟩ := gd_of E
        refine Rn.iast (pc' := 86) g37 g38 dX4_isLine_85 rfl ?_
        replace E := wr_of E
        generalize eh40 : sI h35 (hR h35 x0 5) (ix (hI h35 x0 2)) (hI h35 x0 10) = h39 at E ⊢
        refine Rn.aload_n (pc' := 87) dX4_isLine_86 rfl 1 rfl rfl ?_
        refine Rn.getR (pc' := 90) fl_X4_21_4 (kp_sI eh40 (kp_sI eh36 (kp_sI eh32 g27))) rfl dX4_isLine_87 rfl ?_
        refine Rn.aload_n (pc' := 91) dX4_isLine_90 rfl 1 rfl rfl ?_
        refine Rn.getI (pc' := 94) fl_X4_31_4 (kp_sI eh40 (kp_sI eh36 (kp_sI eh32 g27))) rfl dX4_isLine_91 rfl ?_
        refine Rn.aload_n (pc' := 95) dX4_isLine_94 rfl 1 rfl rfl ?_
        refine Rn.getI (pc' := 98) fl_X4_65_4 (kp_sI eh40 (kp_sI eh36 (kp_sI eh32 g27))) rfl dX4_isLine_95 rfl ?_
        obtain ⟨g41, E⟩ := gd_of E
        obtain ⟨g42, E⟩ := gd_of E
        refine Rn.iast (pc' := 99) g41 g42 dX4_isLine_98 rfl ?_
        replace E := wr_of E
        generalize eh44 : sI h39 (hR h39 x0 6) (ix (hI h39 x0 2)) (hI h39 x0 11) = h43 at E ⊢
        refine Rn.aload_n (pc' := 100) dX4_isLine_99 rfl 1 rfl rfl ?_
        refine Rn.dup (pc' := 101) (hc := rfl) dX4_isLine_100 rfl ?_
        refine Rn.getI (pc' := 104) fl_X4_31_4 (kp_sI eh44 (kp_sI eh40 (kp_sI eh36 (kp_sI eh32 g27)))) rfl dX4_isLine_101 rfl ?_
        refine Rn.iconst (pc' := 105) (v := (1 : Int32)) (hv := by decide) dX4_isLine_104 rfl ?_
        refine Rn.iadd (pc' := 106) dX4_isLine_105 rfl ?_
        refine Rn.putI (pc' := 109) fl_X4_31_4 (fun q hq => by cases hq; decide) (kp_sI eh44 (kp_sI eh40 (kp_sI eh36 (kp_sI eh32 g27)))) rfl rfl rfl dX4_isLine_106 rfl ?_
        replace E := wr_of E
        generalize eh46 : sI h43 x0 2 ((hI h43 x0 2) + (1 : Int32)) = h45 at E ⊢
        refine Rn.iconst (pc' := 110) (v := (1 : Int32)) (hv := by decide) dX4_isLine_109 rfl ?_
        cases E
        exact Rn.zret rfl rfl dX4_isLine_110
      · replace E := (if_of E).2 c28
        refine Rn.iconst (pc' := 49) (v := (0 : Int32)) (hv := by decide) dX4_isLine_48 rfl ?_
        cases E
        exact Rn.zret rfl rfl dX4_isLine_49
  · replace E := (if_of E).1 c10
    refine Rn.aload_n (pc' := 17) dX4_isLine_16 rfl 1 rfl rfl ?_
    obtain ⟨g11, E⟩ := gd_of E
    refine Rn.getR (pc' := 20) fl_X4_34_4 g11 rfl dX4_isLine_17 rfl ?_
    obtain ⟨g12, E⟩ := gd_of E
    obtain ⟨v13, h14, e15, E⟩ := bI_of E
    refine Rn.callV1 (pc' := 23) (As := []) (rest := []) (f_Tape_fail_ok hst e15) (Nat.le_trans (by decide) hd) rfl kb_X4_48 ki_X9_fail rfl g12 rfl rfl (Nat.le_of_ble_eq_true rfl) dX4_isLine_20 rfl rfl ?_
    obtain ⟨g16, E⟩ := gd_of E
    cases E
    exact Rn.zret rfl (nar_b g16) dX4_isLine_23
def f_LandText_isLine (h : Hp) (x0 : Nat) : Option (Int32 × Hp) := f_LandText_isLine_b0  h x0
theorem f_LandText_isLine_ok {l : Launch} {X : Nat × (Nat → Int32)} (hst : l.stackTraces = false) {h : Hp} {x0 : Nat} {r : Int32 × Hp} (E : f_LandText_isLine h x0 = some r) : MC l X yX4_isLine mX4_isLine 5 [.ref x0] h (eI r) r.2 :=
  MC.body (by decide +kernel) rfl (by decide) hst (Nat.le_of_ble_eq_true rfl) (f_LandText_isLine_b0_ok hst (Nat.le_refl _) E)
theorem ku_X7_28_4 : Cond.methodLink RX7 28 (⟨"VintageWater$Lines", "isLine", "()Z"⟩ : MethodName) ∈ gw ∧ Cond.sameMethod "VintageWater$Lines" "VintageWater$Lines" "isLine" "()Z" ∈ gw ∧ Cond.selects "VintageWater$LandText" (⟨"VintageWater$Lines", "isLine", "()Z"⟩ : MethodName) yX4_isLine ∈ gw ∧ Cond.instanceMethod yX4_isLine ∈ gw ∧ Cond.initialized yX4_isLine.cls ∈ gw := ⟨gw_at 822 (by decide +kernel) (by decide +kernel), gw_at 824 (by decide +kernel) (by decide +kernel), gw_at 825 (by decide +kernel) (by decide +kernel), gw_at 826 (by decide +kernel) (by decide +kernel), gw_at 110 (by decide +kernel) (by decide +kernel)⟩
def f_Lines_isRead_4_b24  (k24 : Hp → Nat → Int32 → Option (Int32 × Hp)) (h : Hp) (x0 : Nat) (x1 : Int32)  : Option (Int32 × Hp) :=
if hS h x0 = 5 then (
if (hI h x0 1) ≤ x1 then (
if hS h (hR h x0 0) = 9 then (
bI (f_Tape_fail h (hR h x0 0)) fun v4 h5 =>
if v4 = 0 ∨ v4 = 1 then (
some (v4, h5)
) else none) else none
) else (
bI (f_LandText_isLine h x0) fun v8 h9 =>
if v8 = 0 then (
some ((0 : Int32), h9)

) else (
if hS h9 x0 = 5 then (
if hS h9 (hR h9 x0 0) = 9 then (
bI (f_Tape_is h9 (hR h9 x0 0) (3000 : Int32)) fun v14 h15 =>
if v14 = 0 then (
if hS h15 x0 = 5 then (
if hS h15 (hR h15 x0 0) = 9 then (
bI (f_Tape_takes h15 (hR h15 x0 0) (2059 : Int32)) fun v20 h21 =>
if v20 = 0 then (
some ((0 : Int32), h21)

) else (
k24 h21 x0 (x1 + (1 : Int32))

)
) else none) else none
) else (
some ((1 : Int32), h15)

)
) else none) else none
)

)
) else none
set_option maxRecDepth 20000 in
set_option maxHeartbeats 4000000 in
theorem f_Lines_isRead_4_b24_ok {l : Launch} {X : Nat × (Nat → Int32)} (hst : l.stackTraces = false) {d : Nat} (hd : 8 ≤ d)   {k24 : Hp → Nat → Int32 → Option (Int32 × Hp)} (hk24 : ∀ (h : Hp) (x0 : Nat) (x1 : Int32)  (r : Int32 × Hp), k24 h x0 x1 = some r → Rn l X mX7_isRead d 24 [(0, .ref x0), (1, .int x1)] [] h (eI r) r.2) {h : Hp} {x0 : Nat} {x1 : Int32}  {r : Int32 × Hp} (E : f_Lines_isRead_4_b24  k24 h x0 x1 = some r) : Rn l X mX7_isRead d 24 [(0, .ref x0), (1, .int x1)] [] h (eI r) r.2 := by
  unfold f_Lines_isRead_4_b24 at E
  refine Rn.iload_n (pc' := 25) dX7_isRead_24 rfl 1 rfl rfl ?_
  refine Rn.aload_n (pc' := 26) dX7_isRead_25 rfl 0 rfl rfl ?_
  obtain ⟨g1, E⟩ := gd_of E
  refine Rn.getI (pc' := 29) fl_X7_15_4 g1 rfl dX7_isRead_26 rfl ?_
  refine Rn.icmp_ge (pc' := 32) (tgt := 77) dX7_isRead_29 (by decide) rfl (fun c2 => ?_) (fun c2 => ?_)
  · replace E := (if_of E).1 c2
    refine Rn.aload_n (pc' := 78) dX7_isRead_77 rfl 0 rfl rfl ?_
    refine Rn.getR (pc' := 81) fl_X7_9_4 g1 rfl dX7_isRead_78 rfl ?_
    obtain ⟨g3, E⟩ := gd_of E
    obtain ⟨v4, h5, e6, E⟩ := bI_of E
    refine Rn.callV1 (pc' := 84) (As := []) (rest := []) (f_Tape_fail_ok hst e6) (Nat.le_trans (by decide) hd) rfl kb_X7_35 ki_X9_fail rfl g3 rfl rfl (Nat.le_of_ble_eq_true rfl) dX7_isRead_81 rfl rfl ?_
    obtain ⟨g7, E⟩ := gd_of E
    cases E
    exact Rn.zret rfl (nar_b g7) dX7_isRead_84
  · replace E := (if_of E).2 c2
    refine Rn.aload_n (pc' := 33) dX7_isRead_32 rfl 0 rfl rfl ?_
    obtain ⟨v8, h9, e10, E⟩ := bI_of E
    refine Rn.callU1 (pc' := 36) (x := ⟨"VintageWater$Lines", "isLine", "()Z"⟩) (As := []) (rest := []) (ci := 4) (C0 := "VintageWater$LandText") (owner := "VintageWater$Lines") (f_LandText_isLine_ok hst e10) (Nat.le_trans (by decide) hd) rfl ku_X7_28_4 (by decide) ws_X4_isLine (by decide +kernel) (by decide) rfl g1 rfl rfl (Nat.le_of_ble_eq_true rfl) dX7_isRead_33 rfl rfl ?_
    refine Rn.if_ne (pc' := 39) (tgt := 41) dX7_isRead_36 (by decide) rfl (fun c11 => ?_) (fun c11 => ?_)
    · replace E := (if_of E).2 c11
      refine Rn.aload_n (pc' := 42) dX7_isRead_41 rfl 0 rfl rfl ?_
      obtain ⟨g12, E⟩ := gd_of E
      refine Rn.getR (pc' := 45) fl_X7_9_4 g12 rfl dX7_isRead_42 rfl ?_
      refine Rn.sipush (pc' := 48) (v := (3000 : Int32)) (hv := by decide) dX7_isRead_45 rfl ?_
      obtain ⟨g13, E⟩ := gd_of E
      obtain ⟨v14, h15, e16, E⟩ := bI_of E
      refine Rn.callV1 (pc' := 51) (As := [.int (3000 : Int32)]) (rest := []) (f_Tape_is_ok hst e16) (Nat.le_trans (by decide) hd) rfl kb_X7_24 ki_X9_is rfl g13 rfl rfl (Nat.le_of_ble_eq_true rfl) dX7_isRead_48 rfl rfl ?_
      refine Rn.if_eq (pc' := 54) (tgt := 56) dX7_isRead_51 (by decide) rfl (fun c17 => ?_) (fun c17 => ?_)
      · replace E := (if_of E).1 c17
        refine Rn.aload_n (pc' := 57) dX7_isRead_56 rfl 0 rfl rfl ?_
        obtain ⟨g18, E⟩ := gd_of E
        refine Rn.getR (pc' := 60) fl_X7_9_4 g18 rfl dX7_isRead_57 rfl ?_
        refine Rn.sipush (pc' := 63) (v := (2059 : Int32)) (hv := by decide) dX7_isRead_60 rfl ?_
        obtain ⟨g19, E⟩ := gd_of E
        obtain ⟨v20, h21, e22, E⟩ := bI_of E
        refine Rn.callV1 (pc' := 66) (As := [.int (2059 : Int32)]) (rest := []) (f_Tape_takes_ok hst e22) (Nat.le_trans (by decide) hd) rfl kb_X7_32 ki_X9_takes rfl g19 rfl rfl (Nat.le_of_ble_eq_true rfl) dX7_isRead_63 rfl rfl ?_
        refine Rn.if_ne (pc' := 69) (tgt := 71) dX7_isRead_66 (by decide) rfl (fun c23 => ?_) (fun c23 => ?_)
        · replace E := (if_of E).2 c23
          refine Rn.iinc (pc' := 74) (v := (x1 + (1 : Int32))) (L' := [(1, .int (x1 + (1 : Int32))), (0, .ref x0)]) dX7_isRead_71 1 rfl rfl (by decide) rfl rfl ?_
          refine Rn.goto (pc' := 24) dX7_isRead_74 (by decide) ?_
          refine Rn.sub [1, 0] rfl ?_
          exact hk24 _ _ _ _ E
        · replace E := (if_of E).1 c23
          refine Rn.iconst (pc' := 70) (v := (0 : Int32)) (hv := by decide) dX7_isRead_69 rfl ?_
          cases E
          exact Rn.zret rfl rfl dX7_isRead_70
      · replace E := (if_of E).2 c17
        refine Rn.iconst (pc' := 55) (v := (1 : Int32)) (hv := by decide) dX7_isRead_54 rfl ?_
        cases E
        exact Rn.zret rfl rfl dX7_isRead_55
    · replace E := (if_of E).1 c11
      refine Rn.iconst (pc' := 40) (v := (0 : Int32)) (hv := by decide) dX7_isRead_39 rfl ?_
      cases E
      exact Rn.zret rfl rfl dX7_isRead_40
def f_Lines_isRead_4_L24   (n : Nat) : Hp → Nat → Int32 → Option (Int32 × Hp) := Nat.rec (motive := fun _ => Hp → Nat → Int32 → Option (Int32 × Hp)) (fun _ _ _ => none) (fun _ rec => f_Lines_isRead_4_b24   rec) n
theorem f_Lines_isRead_4_L24_ok {l : Launch} {X : Nat × (Nat → Int32)} (hst : l.stackTraces = false) {d : Nat} (hd : 8 ≤ d)     : ∀ (n : Nat) (h : Hp) (x0 : Nat) (x1 : Int32)  (r : Int32 × Hp), f_Lines_isRead_4_L24   n h x0 x1 = some r → Rn l X mX7_isRead d 24 [(0, .ref x0), (1, .int x1)] [] h (eI r) r.2 := by
  intro n
  induction n with
  | zero => intro h x0 x1 r E; cases E
  | succ n ih => intro h x0 x1 r E; exact f_Lines_isRead_4_b24_ok hst hd   ih E
def f_Lines_isRead_4_b0   (h : Hp) (x0 : Nat)  : Option (Int32 × Hp) :=
if hS h x0 = 5 then (
if hS h (hR h x0 0) = 9 then (
bV (f_Tape_cut h (hR h x0 0)) fun h4 =>
if hS h4 x0 = 5 then (
if hS h4 (hR h4 x0 0) = 9 then (
bI (f_Tape_is h4 (hR h4 x0 0) (3000 : Int32)) fun v8 h9 =>
if v8 = 0 then (
f_Lines_isRead_4_L24   FU h9 x0 (0 : Int32)

) else (
some ((1 : Int32), h9)

)
) else none) else none) else none) else none
set_option maxRecDepth 20000 in
set_option maxHeartbeats 4000000 in
theorem f_Lines_isRead_4_b0_ok {l : Launch} {X : Nat × (Nat → Int32)} (hst : l.stackTraces = false) {d : Nat} (hd : 8 ≤ d)     {h : Hp} {x0 : Nat}  {r : Int32 × Hp} (E : f_Lines_isRead_4_b0   h x0 = some r) : Rn l X mX7_isRead d 0 [(0, .ref x0)] [] h (eI r) r.2 := by
  unfold f_Lines_isRead_4_b0 at E
  refine Rn.aload_n (pc' := 1) dX7_isRead_0 rfl 0 rfl rfl ?_
  obtain ⟨g1, E⟩ := gd_of E
  refine Rn.getR (pc' := 4) fl_X7_9_4 g1 rfl dX7_isRead_1 rfl ?_
  obtain ⟨g2, E⟩ := gd_of E
  obtain ⟨h4, e5, E⟩ := bV_of E
  refine Rn.callV1 (pc' := 7) (As := []) (rest := []) (f_Tape_cut_ok hst e5) (Nat.le_trans (by decide) hd) rfl kb_X7_19 ki_X9_cut rfl g2 rfl rfl (Nat.le_of_ble_eq_true rfl) dX7_isRead_4 rfl rfl ?_
  refine Rn.aload_n (pc' := 8) dX7_isRead_7 rfl 0 rfl rfl ?_
  obtain ⟨g6, E⟩ := gd_of E
  refine Rn.getR (pc' := 11) fl_X7_9_4 g6 rfl dX7_isRead_8 rfl ?_
  refine Rn.sipush (pc' := 14) (v := (3000 : Int32)) (hv := by decide) dX7_isRead_11 rfl ?_
  obtain ⟨g7, E⟩ := gd_of E
  obtain ⟨v8, h9, e10, E⟩ := bI_of E
  refine Rn.callV1 (pc' := 17) (As := [.int (3000 : Int32)]) (rest := []) (f_Tape_is_ok hst e10) (Nat.le_trans (by decide) hd) rfl kb_X7_24 ki_X9_is rfl g7 rfl rfl (Nat.le_of_ble_eq_true rfl) dX7_isRead_14 rfl rfl ?_
  refine Rn.if_eq (pc' := 20) (tgt := 22) dX7_isRead_17 (by decide) rfl (fun c11 => ?_) (fun c11 => ?_)
  · replace E := (if_of E).1 c11
    refine Rn.iconst (pc' := 23) (v := (0 : Int32)) (hv := by decide) dX7_isRead_22 rfl ?_
    refine Rn.istore_n (pc' := 24) (L' := [(1, .int (0 : Int32)), (0, .ref x0)]) dX7_isRead_23 rfl (by decide) rfl rfl ?_
    refine Rn.sub [1, 0] rfl ?_
    exact f_Lines_isRead_4_L24_ok hst hd   FU _ _ _ _ E
  · replace E := (if_of E).2 c11
    refine Rn.iconst (pc' := 21) (v := (1 : Int32)) (hv := by decide) dX7_isRead_20 rfl ?_
    cases E
    exact Rn.zret rfl rfl dX7_isRead_21
def f_Lines_isRead_4 (h : Hp) (x0 : Nat) : Option (Int32 × Hp) := f_Lines_isRead_4_b0  h x0
theorem f_Lines_isRead_4_ok {l : Launch} {X : Nat × (Nat → Int32)} (hst : l.stackTraces = false) {h : Hp} {x0 : Nat} {r : Int32 × Hp} (E : f_Lines_isRead_4 h x0 = some r) : MC l X yX7_isRead mX7_isRead 8 [.ref x0] h (eI r) r.2 :=
  MC.body (by decide +kernel) rfl (by decide) hst (Nat.le_of_ble_eq_true rfl) (f_Lines_isRead_4_b0_ok hst (Nat.le_refl _) E)
abbrev mX3_setSealed : MI := (RX3, cX3_setSealed, 3, none, [], false)
theorem ws_X3_setSealed : ∀ w ∈ wsM yX3_setSealed mX3_setSealed, w ∈ gw := List.forall_mem_cons.mpr ⟨gw_at 1040 (by decide +kernel) (by decide +kernel), fun _ h => h⟩
def f_Land_setSealed_b0   (h : Hp) (x0 : Nat) (x1 : Int32) (x2 : Int32)  : Option (Hp) :=
if hS h x0 = 4 then (
bI (f_Land_hasCistern h x0 x1) fun v2 h3 =>
if v2 = 0 then (
some h3

) else (
if hS h3 x0 = 4 then (
if hS h3 (hR h3 x0 3) = 23 then (
if ib x1 (hL h3 (hR h3 x0 3)) = true then (
if hS h3 (hR h3 (hR h3 x0 3) (ix x1)) = 1 then (
if x2 = 0 ∨ x2 = 1 then (
wr (sI h3 (hR h3 (hR h3 x0 3) (ix x1)) 2 x2) fun h11 =>
some h11
) else none) else none) else none) else none) else none
)
) else none
set_option maxRecDepth 20000 in
set_option maxHeartbeats 4000000 in
theorem f_Land_setSealed_b0_ok {l : Launch} {X : Nat × (Nat → Int32)} (hst : l.stackTraces = false) {d : Nat} (hd : 1 ≤ d)     {h : Hp} {x0 : Nat} {x1 : Int32} {x2 : Int32}  {r : Hp} (E : f_Land_setSealed_b0   h x0 x1 x2 = some r) : Rn l X mX3_setSealed d 0 [(0, .ref x0), (1, .int x1), (2, .int x2)] [] h (eV r) r := by
  unfold f_Land_setSealed_b0 at E
  refine Rn.aload_n (pc' := 1) dX3_setSealed_0 rfl 0 rfl rfl ?_
  refine Rn.iload_n (pc' := 2) dX3_setSealed_1 rfl 1 rfl rfl ?_
  obtain ⟨g1, E⟩ := gd_of E
  obtain ⟨v2, h3, e4, E⟩ := bI_of E
  refine Rn.callV1 (pc' := 5) (As := [.int x1]) (rest := []) (f_Land_hasCistern_ok hst e4) (Nat.le_trans (by decide) hd) rfl kb_X3_106 ki_X3_hasCistern rfl g1 rfl rfl (Nat.le_of_ble_eq_true rfl) dX3_setSealed_2 rfl rfl ?_
  refine Rn.if_eq (pc' := 8) (tgt := 18) dX3_setSealed_5 (by decide) rfl (fun c5 => ?_) (fun c5 => ?_)
  · replace E := (if_of E).1 c5
    cases E
    exact Rn.vret rfl dX3_setSealed_18
  · replace E := (if_of E).2 c5
    refine Rn.aload_n (pc' := 9) dX3_setSealed_8 rfl 0 rfl rfl ?_
    obtain ⟨g6, E⟩ := gd_of E
    refine Rn.getR (pc' := 12) fl_X3_11_3 g6 rfl dX3_setSealed_9 rfl ?_
    refine Rn.iload_n (pc' := 13) dX3_setSealed_12 rfl 1 rfl rfl ?_
    obtain ⟨g7, E⟩ := gd_of E
    obtain ⟨g8, E⟩ := gd_of E
    refine Rn.aald (pc' := 14) g7 (by decide) (by decide) g8 dX3_setSealed_13 rfl ?_
    refine Rn.iload_n (pc' := 15) dX3_setSealed_14 rfl 2 rfl rfl ?_
    obtain ⟨g9, E⟩ := gd_of E
    obtain ⟨g10, E⟩ := gd_of E
    refine Rn.putI (pc' := 18) fl_X3_129_0 (fun q hq => by cases hq; decide) g9 rfl (nar_b g10) (fit_b g10) dX3_setSealed_15 rfl ?_
    replace E := wr_of E
    generalize eh12 : sI h3 (hR h3 (hR h3 x0 3) (ix x1)) 2 x2 = h11 at E ⊢
    cases E
    exact Rn.vret rfl dX3_setSealed_18
def f_Land_setSealed (h : Hp) (x0 : Nat) (x1 : Int32) (x2 : Int32) : Option (Hp) := f_Land_setSealed_b0  h x0 x1 x2
theorem f_Land_setSealed_ok {l : Launch} {X : Nat × (Nat → Int32)} (hst : l.stackTraces = false) {h : Hp} {x0 : Nat} {x1 : Int32} {x2 : Int32} {r : Hp} (E : f_Land_setSealed h x0 x1 x2 = some r) : MC l X yX3_setSealed mX3_setSealed 1 [.ref x0, .int x1, .int x2] h (eV r) r :=
  MC.body (by decide +kernel) rfl (by decide) hst (Nat.le_of_ble_eq_true rfl) (f_Land_setSealed_b0_ok hst (Nat.le_refl _) E)
abbrev mX3_setLeak : MI := (RX3, cX3_setLeak, 4, none, [], false)
theorem ws_X3_setLeak : ∀ w ∈ wsM yX3_setLeak mX3_setLeak, w ∈ gw := List.forall_mem_cons.mpr ⟨gw_at 1036 (by decide +kernel) (by decide +kernel), fun _ h => h⟩
def f_Land_setLeak_b0   (h : Hp) (x0 : Nat) (x1 : Int32) (x2 : Int32) (x3 : Int32)  : Option (Hp) :=
if hS h x0 = 4 then (
bI (f_Land_hasCistern h x0 x1) fun v2 h3 =>
if v2 = 0 then (
some h3

) else (
if hS h3 x0 = 4 then (
if hS h3 (hR h3 x0 3) = 23 then (
if ib x1 (hL h3 (hR h3 x0 3)) = true then (
if hS h3 (hR h3 (hR h3 x0 3) (ix x1)) = 1 then (
wr (sI h3 (hR h3 (hR h3 x0 3) (ix x1)) 3 x3) fun h10 =>
if hS h10 (hR h10 x0 3) = 23 then (
if ib x1 (hL h10 (hR h10 x0 3)) = true then (
if hS h10 (hR h10 (hR h10 x0 3) (ix x1)) = 1 then (
wr (sI h10 (hR h10 (hR h10 x0 3) (ix x1)) 4 x2) fun h15 =>
some h15
) else none) else none) else none) else none) else none) else none) else none
)
) else none
set_option maxRecDepth 20000 in
set_option maxHeartbeats 4000000 in
theorem f_Land_setLeak_b0_ok {l : Launch} {X : Nat × (Nat → Int32)} (hst : l.stackTraces = false) {d : Nat} (hd : 1 ≤ d)     {h : Hp} {x0 : Nat} {x1 : Int32} {x2 : Int32} {x3 : Int32}  {r : Hp} (E : f_Land_setLeak_b0   h x0 x1 x2 x3 = some r) : Rn l X mX3_setLeak d 0 [(0, .ref x0), (1, .int x1), (2, .int x2), (3, .int x3)] [] h (eV r) r := by
  unfold f_Land_setLeak_b0 at E
  refine Rn.aload_n (pc' := 1) dX3_setLeak_0 rfl 0 rfl rfl ?_
  refine Rn.iload_n (pc' := 2) dX3_setLeak_1 rfl 1 rfl rfl ?_
  obtain ⟨g1, E⟩ := gd_of E
  obtain ⟨v2, h3, e4, E⟩ := bI_of E
  refine Rn.callV1 (pc' := 5) (As := [.int x1]) (rest := []) (f_Land_hasCistern_ok hst e4) (Nat.le_trans (by decide) hd) rfl kb_X3_106 ki_X3_hasCistern rfl g1 rfl rfl (Nat.le_of_ble_eq_true rfl) dX3_setLeak_2 rfl rfl ?_
  refine Rn.if_eq (pc' := 8) (tgt := 28) dX3_setLeak_5 (by decide) rfl (fun c5 => ?_) (fun c5 => ?_)
  · replace E := (if_of E).1 c5
    cases E
    exact Rn.vret rfl dX3_setLeak_28
  · replace E := (if_of E).2 c5
    refine Rn.aload_n (pc' := 9) dX3_setLeak_8 rfl 0 rfl rfl ?_
    obtain ⟨g6, E⟩ := gd_of E
    refine Rn.getR (pc' := 12) fl_X3_11_3 g6 rfl dX3_setLeak_9 rfl ?_
    refine Rn.iload_n (pc' := 13) dX3_setLeak_12 rfl 1 rfl rfl ?_
    obtain ⟨g7, E⟩ := gd_of E
    obtain ⟨g8, E⟩ := gd_of E
    refine Rn.aald (pc' := 14) g7 (by decide) (by decide) g8 dX3_setLeak_13 rfl ?_
    refine Rn.iload_n (pc' := 15) dX3_setLeak_14 rfl 3 rfl rfl ?_
    obtain ⟨g9, E⟩ := gd_of E
    refine Rn.putI (pc' := 18) fl_X3_123_0 (fun q hq => by cases hq; decide) g9 rfl rfl rfl dX3_setLeak_15 rfl ?_
    replace E := wr_of E
    generalize eh11 : sI h3 (hR h3 (hR h3 x0 3) (ix x1)) 3 x3 = h10 at E ⊢
    refine Rn.aload_n (pc' := 19) dX3_setLeak_18 rfl 0 rfl rfl ?_
    refine Rn.getR (pc' := 22) fl_X3_11_3 (kp_sI eh11 g6) rfl dX3_setLeak_19 rfl ?_
    refine Rn.iload_n (pc' := 23) dX3_setLeak_22 rfl 1 rfl rfl ?_
    obtain ⟨g12, E⟩ := gd_of E
    obtain ⟨g13, E⟩ := gd_of E
    refine Rn.aald (pc' := 24) g12 (by decide) (by decide) g13 dX3_setLeak_23 rfl ?_
    refine Rn.iload_n (pc' := 25) dX3_setLeak_24 rfl 2 rfl rfl ?_
    obtain ⟨g14, E⟩ := gd_of E
    refine Rn.putI (pc' := 28) fl_X3_126_0 (fun q hq => by cases hq; decide) g14 rfl rfl rfl dX3_setLeak_25 rfl ?_
    replace E := wr_of E
    generalize eh16 : sI h10 (hR h10 (hR h10 x0 3) (ix x1)) 4 x2 = h15 at E ⊢
    cases E
    exact Rn.vret rfl dX3_setLeak_28
def f_Land_setLeak (h : Hp) (x0 : Nat) (x1 : Int32) (x2 : Int32) (x3 : Int32) : Option (Hp) := f_Land_setLeak_b0  h x0 x1 x2 x3
theorem f_Land_setLeak_ok {l : Launch} {X : Nat × (Nat → Int32)} (hst : l.stackTraces = false) {h : Hp} {x0 : Nat} {x1 : Int32} {x2 : Int32} {x3 : Int32} {r : Hp} (E : f_Land_setLeak h x0 x1 x2 x3 = some r) : MC l X yX3_setLeak mX3_setLeak 1 [.ref x0, .int x1, .int x2, .int x3] h (eV r) r :=
  MC.body (by decide +kernel) rfl (by decide) hst (Nat.le_of_ble_eq_true rfl) (f_Land_setLeak_b0_ok hst (Nat.le_refl _) E)
abbrev mX2_begin : MI := (RX2, cX2_begin, 4, none, [], false)
theorem ws_X2_begin : ∀ w ∈ wsM yX2_begin mX2_begin, w ∈ gw := List.forall_mem_cons.mpr ⟨gw_at 1022 (by decide +kernel) (by decide +kernel), fun _ h => h⟩
theorem kb_X2_31 : KB RX2 31 yJ7_fill_53178 mJ7_fill_53178 2 := ⟨gw_at 1023 (by decide +kernel) (by decide +kernel), gw_at 127 (by decide +kernel) (by decide +kernel), trivial, ws_J7_fill_53178, by decide +kernel, by decide +kernel, by decide +kernel, by decide⟩
def f_House_begin_b0   (h : Hp) (x0 : Nat) (x1 : Int32) (x2 : Int32) (x3 : Int32)  : Option (Hp) :=
if hS h x0 = 3 then (
wr (sI h x0 0 x1) fun h2 =>
wr (sI h2 x0 1 x2) fun h4 =>
wr (sI h4 x0 2 x3) fun h6 =>
wr (sI h6 x0 3 (0 : Int32)) fun h8 =>
wr (sI h8 x0 4 (0 : Int32)) fun h10 =>
bV (f_Arrays_fill h10 (hR h10 x0 5) (0 : Int32)) fun h13 =>
some h13
) else none
set_option maxRecDepth 20000 in
set_option maxHeartbeats 4000000 in
theorem f_House_begin_b0_ok {l : Launch} {X : Nat × (Nat → Int32)} (hst : l.stackTraces = false) {d : Nat} (hd : 1 ≤ d)     {h : Hp} {x0 : Nat} {x1 : Int32} {x2 : Int32} {x3 : Int32}  {r : Hp} (E : f_House_begin_b0   h x0 x1 x2 x3 = some r) : Rn l X mX2_begin d 0 [(0, .ref x0), (1, .int x1), (2, .int x2), (3, .int x3)] [] h (eV r) r := by
  unfold f_House_begin_b0 at E
  refine Rn.aload_n (pc' := 1) dX2_begin_0 rfl 0 rfl rfl ?_
  refine Rn.iload_n (pc' := 2) dX2_begin_1 rfl 1 rfl rfl ?_
  obtain ⟨g1, E⟩ := gd_of E
  refine Rn.putI (pc' := 5) fl_X2_15_2 (fun q hq => by cases hq; decide) g1 rfl rfl rfl dX2_begin_2 rfl ?_
  replace E := wr_of E
  generalize eh3 : sI h x0 0 x1 = h2 at E ⊢
  refine Rn.aload_n (pc' := 6) dX2_begin_5 rfl 0 rfl rfl ?_
  refine Rn.iload_n (pc' := 7) dX2_begin_6 rfl 2 rfl rfl ?_
  refine Rn.putI (pc' := 10) fl_X2_19_2 (fun q hq => by cases hq; decide) (kp_sI eh3 g1) rfl rfl rfl dX2_begin_7 rfl ?_
  replace E := wr_of E
  generalize eh5 : sI h2 x0 1 x2 = h4 at E ⊢
  refine Rn.aload_n (pc' := 11) dX2_begin_10 rfl 0 rfl rfl ?_
  refine Rn.iload_n (pc' := 12) dX2_begin_11 rfl 3 rfl rfl ?_
  refine Rn.putI (pc' := 15) fl_X2_22_2 (fun q hq => by cases hq; decide) (kp_sI eh5 (kp_sI eh3 g1)) rfl rfl rfl dX2_begin_12 rfl ?_
  replace E := wr_of E
  generalize eh7 : sI h4 x0 2 x3 = h6 at E ⊢
  refine Rn.aload_n (pc' := 16) dX2_begin_15 rfl 0 rfl rfl ?_
  refine Rn.iconst (pc' := 17) (v := (0 : Int32)) (hv := by decide) dX2_begin_16 rfl ?_
  refine Rn.putI (pc' := 20) fl_X2_25_2 (fun q hq => by cases hq; decide) (kp_sI eh7 (kp_sI eh5 (kp_sI eh3 g1))) rfl rfl rfl dX2_begin_17 rfl ?_
  replace E := wr_of E
  generalize eh9 : sI h6 x0 3 (0 : Int32) = h8 at E ⊢
  refine Rn.aload_n (pc' := 21) dX2_begin_20 rfl 0 rfl rfl ?_
  refine Rn.iconst (pc' := 22) (v := (0 : Int32)) (hv := by decide) dX2_begin_21 rfl ?_
  refine Rn.putI (pc' := 25) fl_X2_28_2 (fun q hq => by cases hq; decide) (kp_sI eh9 (kp_sI eh7 (kp_sI eh5 (kp_sI eh3 g1)))) rfl rfl rfl dX2_begin_22 rfl ?_
  replace E := wr_of E
  generalize eh11 : sI h8 x0 4 (0 : Int32) = h10 at E ⊢
  refine Rn.aload_n (pc' := 26) dX2_begin_25 rfl 0 rfl rfl ?_
  refine Rn.getR (pc' := 29) fl_X2_9_2 (kp_sI eh11 (kp_sI eh9 (kp_sI eh7 (kp_sI eh5 (kp_sI eh3 g1))))) rfl dX2_begin_26 rfl ?_
  refine Rn.iconst (pc' := 30) (v := (0 : Int32)) (hv := by decide) dX2_begin_29 rfl ?_
  obtain ⟨h13, e14, E⟩ := bV_of E
  refine Rn.callS1 (pc' := 33) (As := [.ref (hR h10 x0 5), .int (0 : Int32)]) (rest := []) (f_Arrays_fill_ok hst e14) (Nat.le_trans (by decide) hd) rfl kb_X2_31 ks_J7_fill_53178 rfl rfl (Nat.le_of_ble_eq_true rfl) dX2_begin_30 rfl rfl ?_
  cases E
  exact Rn.vret rfl dX2_begin_33
def f_House_begin (h : Hp) (x0 : Nat) (x1 : Int32) (x2 : Int32) (x3 : Int32) : Option (Hp) := f_House_begin_b0  h x0 x1 x2 x3
theorem f_House_begin_ok {l : Launch} {X : Nat × (Nat → Int32)} (hst : l.stackTraces = false) {h : Hp} {x0 : Nat} {x1 : Int32} {x2 : Int32} {x3 : Int32} {r : Hp} (E : f_House_begin h x0 x1 x2 x3 = some r) : MC l X yX2_begin mX2_begin 1 [.ref x0, .int x1, .int x2, .int x3] h (eV r) r :=
  MC.body (by decide +kernel) rfl (by decide) hst (Nat.le_of_ble_eq_true rfl) (f_House_begin_b0_ok hst (Nat.le_refl _) E)
abbrev mX3_addHouse : MI := (RX3, cX3_addHouse, 4, none, [], false)
theorem ws_X3_addHouse : ∀ w ∈ wsM yX3_addHouse mX3_addHouse, w ∈ gw := List.forall_mem_cons.mpr ⟨gw_at 1018 (by decide +kernel) (by decide +kernel), fun _ h => h⟩
theorem kb_X3_94 : KB RX3 94 yX2_begin mX2_begin 3 := ⟨gw_at 1019 (by decide +kernel) (by decide +kernel), gw_at 115 (by decide +kernel) (by decide +kernel), trivial, ws_X2_begin, by decide +kernel, by decide +kernel, by decide +kernel, by decide⟩
theorem ki_X2_begin : Cond.instanceMethod yX2_begin ∈ gw ∧ Cond.selects yX2_begin.cls yX2_begin yX2_begin ∈ gw := ⟨gw_at 1020 (by decide +kernel) (by decide +kernel), gw_at 1021 (by decide +kernel) (by decide +kernel)⟩
def f_Land_addHouse_b0   (h : Hp) (x0 : Nat) (x1 : Int32) (x2 : Int32) (x3 : Int32)  : Option (Hp) :=
if hS h x0 = 4 then (
if (8 : Int32) ≤ (hI h x0 1) then (
some h

) else (
if hS h (hR h x0 4) = 24 then (
if ib (hI h x0 1) (hL h (hR h x0 4)) = true then (
if hS h (hR h (hR h x0 4) (ix (hI h x0 1))) = 3 then (
bV (f_House_begin h (hR h (hR h x0 4) (ix (hI h x0 1))) x1 x2 x3) fun h7 =>
if hS h7 x0 = 4 then (
wr (sI h7 x0 1 ((hI h7 x0 1) + (1 : Int32))) fun h10 =>
some h10
) else none) else none) else none) else none
)
) else none
set_option maxRecDepth 20000 in
set_option maxHeartbeats 4000000 in
theorem f_Land_addHouse_b0_ok {l : Launch} {X : Nat × (Nat → Int32)} (hst : l.stackTraces = false) {d : Nat} (hd : 2 ≤ d)     {h : Hp} {x0 : Nat} {x1 : Int32} {x2 : Int32} {x3 : Int32}  {r : Hp} (E : f_Land_addHouse_b0   h x0 x1 x2 x3 = some r) : Rn l X mX3_addHouse d 0 [(0, .ref x0), (1, .int x1), (2, .int x2), (3, .int x3)] [] h (eV r) r := by
  unfold f_Land_addHouse_b0 at E
  refine Rn.aload_n (pc' := 1) dX3_addHouse_0 rfl 0 rfl rfl ?_
  obtain ⟨g1, E⟩ := gd_of E
  refine Rn.getI (pc' := 4) fl_X3_46_3 g1 rfl dX3_addHouse_1 rfl ?_
  refine Rn.bipush (pc' := 6) (v := (8 : Int32)) (hv := by decide) dX3_addHouse_4 rfl ?_
  refine Rn.icmp_ge (pc' := 9) (tgt := 34) dX3_addHouse_6 (by decide) rfl (fun c2 => ?_) (fun c2 => ?_)
  · replace E := (if_of E).1 c2
    cases E
    exact Rn.vret rfl dX3_addHouse_34
  · replace E := (if_of E).2 c2
    refine Rn.aload_n (pc' := 10) dX3_addHouse_9 rfl 0 rfl rfl ?_
    refine Rn.getR (pc' := 13) fl_X3_19_3 g1 rfl dX3_addHouse_10 rfl ?_
    refine Rn.aload_n (pc' := 14) dX3_addHouse_13 rfl 0 rfl rfl ?_
    refine Rn.getI (pc' := 17) fl_X3_46_3 g1 rfl dX3_addHouse_14 rfl ?_
    obtain ⟨g3, E⟩ := gd_of E
    obtain ⟨g4, E⟩ := gd_of E
    refine Rn.aald (pc' := 18) g3 (by decide) (by decide) g4 dX3_addHouse_17 rfl ?_
    refine Rn.iload_n (pc' := 19) dX3_addHouse_18 rfl 1 rfl rfl ?_
    refine Rn.iload_n (pc' := 20) dX3_addHouse_19 rfl 2 rfl rfl ?_
    refine Rn.iload_n (pc' := 21) dX3_addHouse_20 rfl 3 rfl rfl ?_
    obtain ⟨g5, E⟩ := gd_of E
    obtain ⟨h7, e8, E⟩ := bV_of E
    refine Rn.callV1 (pc' := 24) (As := [.int x1, .int x2, .int x3]) (rest := []) (f_House_begin_ok hst e8) (Nat.le_trans (by decide) hd) rfl kb_X3_94 ki_X2_begin rfl g5 rfl rfl (Nat.le_of_ble_eq_true rfl) dX3_addHouse_21 rfl rfl ?_
    refine Rn.aload_n (pc' := 25) dX3_addHouse_24 rfl 0 rfl rfl ?_
    refine Rn.dup (pc' := 26) (hc := rfl) dX3_addHouse_25 rfl ?_
    obtain ⟨g9, E⟩ := gd_of E
    refine Rn.getI (pc' := 29) fl_X3_46_3 g9 rfl dX3_addHouse_26 rfl ?_
    refine Rn.iconst (pc' := 30) (v := (1 : Int32)) (hv := by decide) dX3_addHouse_29 rfl ?_
    refine Rn.iadd (pc' := 31) dX3_addHouse_30 rfl ?_
    refine Rn.putI (pc' := 34) fl_X3_46_3 (fun q hq => by cases hq; decide) g9 rfl rfl rfl dX3_addHouse_31 rfl ?_
    replace E := wr_of E
    generalize eh11 : sI h7 x0 1 ((hI h7 x0 1) + (1 : Int32)) = h10 at E ⊢
    cases E
    exact Rn.vret rfl dX3_addHouse_34
def f_Land_addHouse (h : Hp) (x0 : Nat) (x1 : Int32) (x2 : Int32) (x3 : Int32) : Option (Hp) := f_Land_addHouse_b0  h x0 x1 x2 x3
theorem f_Land_addHouse_ok {l : Launch} {X : Nat × (Nat → Int32)} (hst : l.stackTraces = false) {h : Hp} {x0 : Nat} {x1 : Int32} {x2 : Int32} {x3 : Int32} {r : Hp} (E : f_Land_addHouse h x0 x1 x2 x3 = some r) : MC l X yX3_addHouse mX3_addHouse 2 [.ref x0, .int x1, .int x2, .int x3] h (eV r) r :=
  MC.body (by decide +kernel) rfl (by decide) hst (Nat.le_of_ble_eq_true rfl) (f_Land_addHouse_b0_ok hst (Nat.le_refl _) E)
abbrev mX3_pour : MI := (RX3, cX3_pour, 5, none, [], false)
theorem ws_X3_pour : ∀ w ∈ wsM yX3_pour mX3_pour, w ∈ gw := List.forall_mem_cons.mpr ⟨gw_at 1027 (by decide +kernel) (by decide +kernel), fun _ h => h⟩
def f_Land_pour_b54   (h : Hp) (x0 : Nat) (x1 : Int32) (x4 : Int32)  : Option (Hp) :=
if hS h x0 = 4 then (
wr (sI h x0 13 ((hI h x0 13) + (x1 - x4))) fun h2 =>
some h2
) else none
set_option maxRecDepth 20000 in
set_option maxHeartbeats 4000000 in
theorem f_Land_pour_b54_ok {l : Launch} {X : Nat × (Nat → Int32)} (hst : l.stackTraces = false) {d : Nat} (hd : 2 ≤ d)     {h : Hp} {x0 : Nat} {x1 : Int32} {x4 : Int32}  {r : Hp} (E : f_Land_pour_b54   h x0 x1 x4 = some r) : Rn l X mX3_pour d 54 [(0, .ref x0), (1, .int x1), (4, .int x4)] [] h (eV r) r := by
  unfold f_Land_pour_b54 at E
  refine Rn.aload_n (pc' := 55) dX3_pour_54 rfl 0 rfl rfl ?_
  refine Rn.dup (pc' := 56) (hc := rfl) dX3_pour_55 rfl ?_
  obtain ⟨g1, E⟩ := gd_of E
  refine Rn.getI (pc' := 59) fl_X3_81_3 g1 rfl dX3_pour_56 rfl ?_
  refine Rn.iload_n (pc' := 60) dX3_pour_59 rfl 1 rfl rfl ?_
  refine Rn.iload (pc' := 62) dX3_pour_60 2 rfl rfl ?_
  refine Rn.isub (pc' := 63) dX3_pour_62 rfl ?_
  refine Rn.iadd (pc' := 64) dX3_pour_63 rfl ?_
  refine Rn.putI (pc' := 67) fl_X3_81_3 (fun q hq => by cases hq; decide) g1 rfl rfl rfl dX3_pour_64 rfl ?_
  replace E := wr_of E
  generalize eh3 : sI h x0 13 ((hI h x0 13) + (x1 - x4)) = h2 at E ⊢
  cases E
  exact Rn.vret rfl dX3_pour_67
def f_Land_pour_b35   (h : Hp) (x0 : Nat) (x1 : Int32) (x2 : Int32) (x3 : Int32) (s0 : Int32) : Option (Hp) :=
if s0 ≤ 0 then (
f_Land_pour_b54   h x0 x1 s0

) else (
if hS h x0 = 4 then (
if hS h (hR h x0 3) = 23 then (
if ib x3 (hL h (hR h x0 3)) = true then (
if hS h (hR h (hR h x0 3) (ix x3)) = 1 then (
bV (f_Cistern_put h (hR h (hR h x0 3) (ix x3)) x2 s0) fun h7 =>
f_Land_pour_b54   h7 x0 x1 s0
) else none) else none) else none) else none
)

set_option maxRecDepth 20000 in
set_option maxHeartbeats 4000000 in
theorem f_Land_pour_b35_ok {l : Launch} {X : Nat × (Nat → Int32)} (hst : l.stackTraces = false) {d : Nat} (hd : 2 ≤ d)     {h : Hp} {x0 : Nat} {x1 : Int32} {x2 : Int32} {x3 : Int32} {s0 : Int32} {r : Hp} (E : f_Land_pour_b35   h x0 x1 x2 x3 s0 = some r) : Rn l X mX3_pour d 35 [(0, .ref x0), (1, .int x1), (2, .int x2), (3, .int x3)] [.int s0] h (eV r) r := by
  unfold f_Land_pour_b35 at E
  refine Rn.istore (pc' := 37) (L' := [(4, .int s0), (0, .ref x0), (1, .int x1), (2, .int x2), (3, .int x3)]) dX3_pour_35 (by decide) rfl rfl ?_
  refine Rn.iload (pc' := 39) dX3_pour_37 0 rfl rfl ?_
  refine Rn.if_le (pc' := 42) (tgt := 54) dX3_pour_39 (by decide) rfl (fun c1 => ?_) (fun c1 => ?_)
  · replace E := (if_of E).1 c1
    refine Rn.sub [1, 2, 0] rfl ?_
    exact f_Land_pour_b54_ok hst hd   E
  · replace E := (if_of E).2 c1
    refine Rn.aload_n (pc' := 43) dX3_pour_42 rfl 1 rfl rfl ?_
    obtain ⟨g2, E⟩ := gd_of E
    refine Rn.getR (pc' := 46) fl_X3_11_3 g2 rfl dX3_pour_43 rfl ?_
    refine Rn.iload_n (pc' := 47) dX3_pour_46 rfl 4 rfl rfl ?_
    obtain ⟨g3, E⟩ := gd_of E
    obtain ⟨g4, E⟩ := gd_of E
    refine Rn.aald (pc' := 48) g3 (by decide) (by decide) g4 dX3_pour_47 rfl ?_
    refine Rn.iload_n (pc' := 49) dX3_pour_48 rfl 3 rfl rfl ?_
    refine Rn.iload (pc' := 51) dX3_pour_49 0 rfl rfl ?_
    obtain ⟨g5, E⟩ := gd_of E
    obtain ⟨h7, e8, E⟩ := bV_of E
    refine Rn.callV1 (pc' := 54) (As := [.int x2, .int s0]) (rest := []) (f_Cistern_put_ok hst e8) (Nat.le_trans (by decide) hd) rfl kb_X3_120 ki_X0_put rfl g5 rfl rfl (Nat.le_of_ble_eq_true rfl) dX3_pour_51 rfl rfl ?_
    refine Rn.sub [1, 2, 0] rfl ?_
    exact f_Land_pour_b54_ok hst hd   E
def f_Land_pour_b0   (h : Hp) (x0 : Nat) (x1 : Int32) (x2 : Int32) (x3 : Int32)  : Option (Hp) :=
if hS h x0 = 4 then (
wr (sI h x0 14 ((hI h x0 14) + x1)) fun h2 =>
bI (f_Land_hasCistern h2 x0 x3) fun v4 h5 =>
if v4 = 0 then (
f_Land_pour_b35   h5 x0 x1 x2 x3 (0 : Int32)

) else (
if hS h5 x0 = 4 then (
if hS h5 (hR h5 x0 3) = 23 then (
if ib x3 (hL h5 (hR h5 x0 3)) = true then (
if hS h5 (hR h5 (hR h5 x0 3) (ix x3)) = 1 then (
bI (f_Cistern_free h5 (hR h5 (hR h5 x0 3) (ix x3))) fun v12 h13 =>
bI (f_Math_min h13 x1 v12) fun v15 h16 =>
f_Land_pour_b35   h16 x0 x1 x2 x3 v15
) else none) else none) else none) else none
)
) else none
set_option maxRecDepth 20000 in
set_option maxHeartbeats 4000000 in
theorem f_Land_pour_b0_ok {l : Launch} {X : Nat × (Nat → Int32)} (hst : l.stackTraces = false) {d : Nat} (hd : 2 ≤ d)     {h : Hp} {x0 : Nat} {x1 : Int32} {x2 : Int32} {x3 : Int32}  {r : Hp} (E : f_Land_pour_b0   h x0 x1 x2 x3 = some r) : Rn l X mX3_pour d 0 [(0, .ref x0), (1, .int x1), (2, .int x2), (3, .int x3)] [] h (eV r) r := by
  unfold f_Land_pour_b0 at E
  refine Rn.aload_n (pc' := 1) dX3_pour_0 rfl 0 rfl rfl ?_
  refine Rn.dup (pc' := 2) (hc := rfl) dX3_pour_1 rfl ?_
  obtain ⟨g1, E⟩ := gd_of E
  refine Rn.getI (pc' := 5) fl_X3_84_3 g1 rfl dX3_pour_2 rfl ?_
  refine Rn.iload_n (pc' := 6) dX3_pour_5 rfl 1 rfl rfl ?_
  refine Rn.iadd (pc' := 7) dX3_pour_6 rfl ?_
  refine Rn.putI (pc' := 10) fl_X3_84_3 (fun q hq => by cases hq; decide) g1 rfl rfl rfl dX3_pour_7 rfl ?_
  replace E := wr_of E
  generalize eh3 : sI h x0 14 ((hI h x0 14) + x1) = h2 at E ⊢
  refine Rn.aload_n (pc' := 11) dX3_pour_10 rfl 0 rfl rfl ?_
  refine Rn.iload_n (pc' := 12) dX3_pour_11 rfl 3 rfl rfl ?_
  obtain ⟨v4, h5, e6, E⟩ := bI_of E
  refine Rn.callV1 (pc' := 15) (As := [.int x3]) (rest := []) (f_Land_hasCistern_ok hst e6) (Nat.le_trans (by decide) hd) rfl kb_X3_106 ki_X3_hasCistern rfl (kp_sI eh3 g1) rfl rfl (Nat.le_of_ble_eq_true rfl) dX3_pour_12 rfl rfl ?_
  refine Rn.if_eq (pc' := 18) (tgt := 34) dX3_pour_15 (by decide) rfl (fun c7 => ?_) (fun c7 => ?_)
  · replace E := (if_of E).1 c7
    refine Rn.iconst (pc' := 35) (v := (0 : Int32)) (hv := by decide) dX3_pour_34 rfl ?_
    exact f_Land_pour_b35_ok hst hd   E
  · replace E := (if_of E).2 c7
    refine Rn.iload_n (pc' := 19) dX3_pour_18 rfl 1 rfl rfl ?_
    refine Rn.aload_n (pc' := 20) dX3_pour_19 rfl 0 rfl rfl ?_
    obtain ⟨g8, E⟩ := gd_of E
    refine Rn.getR (pc' := 23) fl_X3_11_3 g8 rfl dX3_pour_20 rfl ?_
    refine Rn.iload_n (pc' := 24) dX3_pour_23 rfl 3 rfl rfl ?_
    obtain ⟨g9, E⟩ := gd_of E
    obtain ⟨g10, E⟩ := gd_of E
    refine Rn.aald (pc' := 25) g9 (by decide) (by decide) g10 dX3_pour_24 rfl ?_
    obtain ⟨g11, E⟩ := gd_of E
    obtain ⟨v12, h13, e14, E⟩ := bI_of E
    refine Rn.callV1 (pc' := 28) (As := []) (rest := [.int x1]) (f_Cistern_free_ok hst e14) (Nat.le_trans (by decide) hd) rfl kb_X3_110 ki_X0_free rfl g11 rfl rfl (Nat.le_of_ble_eq_true rfl) dX3_pour_25 rfl rfl ?_
    obtain ⟨v15, h16, e17, E⟩ := bI_of E
    refine Rn.callS1 (pc' := 31) (As := [.int x1, .int v12]) (rest := []) (f_Math_min_ok hst e17) (Nat.le_trans (by decide) hd) rfl kb_X3_114 ks_J9_min_7cf53 rfl rfl (Nat.le_of_ble_eq_true rfl) dX3_pour_28 rfl rfl ?_
    refine Rn.goto (pc' := 35) dX3_pour_31 (by decide) ?_
    exact f_Land_pour_b35_ok hst hd   E
def f_Land_pour (h : Hp) (x0 : Nat) (x1 : Int32) (x2 : Int32) (x3 : Int32) : Option (Hp) := f_Land_pour_b0  h x0 x1 x2 x3
theorem f_Land_pour_ok {l : Launch} {X : Nat × (Nat → Int32)} (hst : l.stackTraces = false) {h : Hp} {x0 : Nat} {x1 : Int32} {x2 : Int32} {x3 : Int32} {r : Hp} (E : f_Land_pour h x0 x1 x2 x3 = some r) : MC l X yX3_pour mX3_pour 2 [.ref x0, .int x1, .int x2, .int x3] h (eV r) r :=
  MC.body (by decide +kernel) rfl (by decide) hst (Nat.le_of_ble_eq_true rfl) (f_Land_pour_b0_ok hst (Nat.le_refl _) E)
abbrev mX3_setSalt : MI := (RX3, cX3_setSalt, 3, none, [], false)
theorem ws_X3_setSalt : ∀ w ∈ wsM yX3_setSalt mX3_setSalt, w ∈ gw := List.forall_mem_cons.mpr ⟨gw_at 1032 (by decide +kernel) (by decide +kernel), fun _ h => h⟩
def f_Land_setSalt_b0   (h : Hp) (x0 : Nat) (x1 : Int32) (x2 : Int32)  : Option (Hp) :=
if x1 < 0 then (
some h

) else (
if (30 : Int32) ≤ x1 then (
some h

) else (
if hS h x0 = 4 then (
if hS h (hR h x0 6) = 20 then (
if ib x1 (hL h (hR h x0 6)) = true then (
wr (sI h (hR h x0 6) (ix x1) x2) fun h6 =>
some h6
) else none) else none) else none
)

)

set_option maxRecDepth 20000 in
set_option maxHeartbeats 4000000 in
theorem f_Land_setSalt_b0_ok {l : Launch} {X : Nat × (Nat → Int32)} (hst : l.stackTraces = false) {d : Nat} (hd : 0 ≤ d)     {h : Hp} {x0 : Nat} {x1 : Int32} {x2 : Int32}  {r : Hp} (E : f_Land_setSalt_b0   h x0 x1 x2 = some r) : Rn l X mX3_setSalt d 0 [(0, .ref x0), (1, .int x1), (2, .int x2)] [] h (eV r) r := by
  unfold f_Land_setSalt_b0 at E
  refine Rn.iload_n (pc' := 1) dX3_setSalt_0 rfl 1 rfl rfl ?_
  refine Rn.if_lt (pc' := 4) (tgt := 17) dX3_setSalt_1 (by decide) rfl (fun c1 => ?_) (fun c1 => ?_)
  · replace E := (if_of E).1 c1
    cases E
    exact Rn.vret rfl dX3_setSalt_17
  · replace E := (if_of E).2 c1
    refine Rn.iload_n (pc' := 5) dX3_setSalt_4 rfl 1 rfl rfl ?_
    refine Rn.bipush (pc' := 7) (v := (30 : Int32)) (hv := by decide) dX3_setSalt_5 rfl ?_
    refine Rn.icmp_ge (pc' := 10) (tgt := 17) dX3_setSalt_7 (by decide) rfl (fun c2 => ?_) (fun c2 => ?_)
    · replace E := (if_of E).1 c2
      cases E
      exact Rn.vret rfl dX3_setSalt_17
    · replace E := (if_of E).2 c2
      refine Rn.aload_n (pc' := 11) dX3_setSalt_10 rfl 0 rfl rfl ?_
      obtain ⟨g3, E⟩ := gd_of E
      refine Rn.getR (pc' := 14) fl_X3_29_3 g3 rfl dX3_setSalt_11 rfl ?_
      refine Rn.iload_n (pc' := 15) dX3_setSalt_14 rfl 1 rfl rfl ?_
      refine Rn.iload_n (pc' := 16) dX3_setSalt_15 rfl 2 rfl rfl ?_
      obtain ⟨g4, E⟩ := gd_of E
      obtain ⟨g5, E⟩ := gd_of E
      refine Rn.iast (pc' := 17) g4 g5 dX3_setSalt_16 rfl ?_
      replace E := wr_of E
      generalize eh7 : sI h (hR h x0 6) (ix x1) x2 = h6 at E ⊢
      cases E
      exact Rn.vret rfl dX3_setSalt_17
def f_Land_setSalt (h : Hp) (x0 : Nat) (x1 : Int32) (x2 : Int32) : Option (Hp) := f_Land_setSalt_b0  h x0 x1 x2
theorem f_Land_setSalt_ok {l : Launch} {X : Nat × (Nat → Int32)} (hst : l.stackTraces = false) {h : Hp} {x0 : Nat} {x1 : Int32} {x2 : Int32} {r : Hp} (E : f_Land_setSalt h x0 x1 x2 = some r) : MC l X yX3_setSalt mX3_setSalt 0 [.ref x0, .int x1, .int x2] h (eV r) r :=
  MC.body (by decide +kernel) rfl (by decide) hst (Nat.le_of_ble_eq_true rfl) (f_Land_setSalt_b0_ok hst (Nat.le_refl _) E)
abbrev mX4_tellTo : MI := (RX4, cX4_tellTo, 3, none, [], false)
theorem ws_X4_tellTo : ∀ w ∈ wsM yX4_tellTo mX4_tellTo, w ∈ gw := List.forall_mem_cons.mpr ⟨gw_at 1003 (by decide +kernel) (by decide +kernel), fun _ h => h⟩
def f_LandText_tellTo_b212  (k2 : Hp → Nat → Nat → Int32 → Option (Hp)) (h : Hp) (x0 : Nat) (x1 : Nat) (x2 : Int32)  : Option (Hp) :=
k2 h x0 x1 (x2 + (1 : Int32))

set_option maxRecDepth 20000 in
set_option maxHeartbeats 4000000 in
theorem f_LandText_tellTo_b212_ok {l : Launch} {X : Nat × (Nat → Int32)} (hst : l.stackTraces = false) {d : Nat} (hd : 3 ≤ d)   {k2 : Hp → Nat → Nat → Int32 → Option (Hp)} (hk2 : ∀ (h : Hp) (x0 : Nat) (x1 : Nat) (x2 : Int32)  (r : Hp), k2 h x0 x1 x2 = some r → Rn l X mX4_tellTo d 2 [(0, .ref x0), (1, .ref x1), (2, .int x2)] [] h (eV r) r) {h : Hp} {x0 : Nat} {x1 : Nat} {x2 : Int32}  {r : Hp} (E : f_LandText_tellTo_b212  k2 h x0 x1 x2 = some r) : Rn l X mX4_tellTo d 212 [(0, .ref x0), (1, .ref x1), (2, .int x2)] [] h (eV r) r := by
  unfold f_LandText_tellTo_b212 at E
  refine Rn.iinc (pc' := 215) (v := (x2 + (1 : Int32))) (L' := [(2, .int (x2 + (1 : Int32))), (0, .ref x0), (1, .ref x1)]) dX4_tellTo_212 2 rfl rfl (by decide) rfl rfl ?_
  refine Rn.goto (pc' := 2) dX4_tellTo_215 (by decide) ?_
  refine Rn.sub [1, 2, 0] rfl ?_
  exact hk2 _ _ _ _ _ E
theorem kb_X4_116 : KB RX4 116 yX3_setSealed mX3_setSealed 2 := ⟨gw_at 1037 (by decide +kernel) (by decide +kernel), gw_at 113 (by decide +kernel) (by decide +kernel), trivial, ws_X3_setSealed, by decide +kernel, by decide +kernel, by decide +kernel, by decide⟩
theorem ki_X3_setSealed : Cond.instanceMethod yX3_setSealed ∈ gw ∧ Cond.selects yX3_setSealed.cls yX3_setSealed yX3_setSealed ∈ gw := ⟨gw_at 1038 (by decide +kernel) (by decide +kernel), gw_at 1039 (by decide +kernel) (by decide +kernel)⟩
def f_LandText_tellTo_b209  (k2 : Hp → Nat → Nat → Int32 → Option (Hp)) (h : Hp) (x0 : Nat) (x1 : Nat) (x2 : Int32) (s0 : Nat) (s1 : Int32) (s2 : Int32) : Option (Hp) :=
if hS h s0 = 4 then (
bV (f_Land_setSealed h s0 s1 s2) fun h3 =>
f_LandText_tellTo_b212  k2 h3 x0 x1 x2
) else none
set_option maxRecDepth 20000 in
set_option maxHeartbeats 4000000 in
theorem f_LandText_tellTo_b209_ok {l : Launch} {X : Nat × (Nat → Int32)} (hst : l.stackTraces = false) {d : Nat} (hd : 3 ≤ d)   {k2 : Hp → Nat → Nat → Int32 → Option (Hp)} (hk2 : ∀ (h : Hp) (x0 : Nat) (x1 : Nat) (x2 : Int32)  (r : Hp), k2 h x0 x1 x2 = some r → Rn l X mX4_tellTo d 2 [(0, .ref x0), (1, .ref x1), (2, .int x2)] [] h (eV r) r) {h : Hp} {x0 : Nat} {x1 : Nat} {x2 : Int32} {s0 : Nat} {s1 : Int32} {s2 : Int32} {r : Hp} (E : f_LandText_tellTo_b209  k2 h x0 x1 x2 s0 s1 s2 = some r) : Rn l X mX4_tellTo d 209 [(0, .ref x0), (1, .ref x1), (2, .int x2)] [.int s2, .int s1, .ref s0] h (eV r) r := by
  unfold f_LandText_tellTo_b209 at E
  obtain ⟨g1, E⟩ := gd_of E
  obtain ⟨h3, e4, E⟩ := bV_of E
  refine Rn.callV1 (pc' := 212) (As := [.int s1, .int s2]) (rest := []) (f_Land_setSealed_ok hst e4) (Nat.le_trans (by decide) hd) rfl kb_X4_116 ki_X3_setSealed rfl g1 rfl rfl (Nat.le_of_ble_eq_true rfl) dX4_tellTo_209 rfl rfl ?_
  exact f_LandText_tellTo_b212_ok hst hd  hk2 E
theorem kb_X4_110 : KB RX4 110 yX3_setSalt mX3_setSalt 2 := ⟨gw_at 1029 (by decide +kernel) (by decide +kernel), gw_at 113 (by decide +kernel) (by decide +kernel), trivial, ws_X3_setSalt, by decide +kernel, by decide +kernel, by decide +kernel, by decide⟩
theorem ki_X3_setSalt : Cond.instanceMethod yX3_setSalt ∈ gw ∧ Cond.selects yX3_setSalt.cls yX3_setSalt yX3_setSalt ∈ gw := ⟨gw_at 1030 (by decide +kernel) (by decide +kernel), gw_at 1031 (by decide +kernel) (by decide +kernel)⟩
theorem kb_X4_97 : KB RX4 97 yX3_addCistern mX3_addCistern 2 := ⟨gw_at 1004 (by decide +kernel) (by decide +kernel), gw_at 113 (by decide +kernel) (by decide +kernel), trivial, ws_X3_addCistern, by decide +kernel, by decide +kernel, by decide +kernel, by decide⟩
theorem kb_X4_107 : KB RX4 107 yX3_pour mX3_pour 3 := ⟨gw_at 1024 (by decide +kernel) (by decide +kernel), gw_at 113 (by decide +kernel) (by decide +kernel), trivial, ws_X3_pour, by decide +kernel, by decide +kernel, by decide +kernel, by decide⟩
theorem ki_X3_pour : Cond.instanceMethod yX3_pour ∈ gw ∧ Cond.selects yX3_pour.cls yX3_pour yX3_pour ∈ gw := ⟨gw_at 1025 (by decide +kernel) (by decide +kernel), gw_at 1026 (by decide +kernel) (by decide +kernel)⟩
theorem kb_X4_103 : KB RX4 103 yX3_addHouse mX3_addHouse 3 := ⟨gw_at 1015 (by decide +kernel) (by decide +kernel), gw_at 113 (by decide +kernel) (by decide +kernel), trivial, ws_X3_addHouse, by decide +kernel, by decide +kernel, by decide +kernel, by decide⟩
theorem ki_X3_addHouse : Cond.instanceMethod yX3_addHouse ∈ gw ∧ Cond.selects yX3_addHouse.cls yX3_addHouse yX3_addHouse ∈ gw := ⟨gw_at 1016 (by decide +kernel) (by decide +kernel), gw_at 1017 (by decide +kernel) (by decide +kernel)⟩
theorem kb_X4_113 : KB RX4 113 yX3_setLeak mX3_setLeak 3 := ⟨gw_at 1033 (by decide +kernel) (by decide +kernel), gw_at 113 (by decide +kernel) (by decide +kernel), trivial, ws_X3_setLeak, by decide +kernel, by decide +kernel, by decide +kernel, by decide⟩
theorem ki_X3_setLeak : Cond.instanceMethod yX3_setLeak ∈ gw ∧ Cond.selects yX3_setLeak.cls yX3_setLeak yX3_setLeak ∈ gw := ⟨gw_at 1034 (by decide +kernel) (by decide +kernel), gw_at 1035 (by decide +kernel) (by decide +kernel)⟩
def f_LandText_tellTo_b2  (k2 : Hp → Nat → Nat → Int32 → Option (Hp)) (h : Hp) (x0 : Nat) (x1 : Nat) (x2 : Int32)  : Option (Hp) :=
if hS h x0 = 5 then (
if (hI h x0 2) ≤ x2 then (
some h

) else (
if (14 : Int32) ≤ x2 then (
some h

) else (
if hS h (hR h x0 3) = 20 then (
if ib x2 (hL h (hR h x0 3)) = true then (
if (hI h (hR h x0 3) (ix x2)) = (1002 : Int32) then (
if hS h (hR h x0 4) = 20 then (
if ib x2 (hL h (hR h x0 4)) = true then (
if hS h (hR h x0 5) = 20 then (
if ib x2 (hL h (hR h x0 5)) = true then (
if hS h x1 = 4 then (
bV (f_Land_setSalt h x1 (hI h (hR h x0 4) (ix x2)) (hI h (hR h x0 5) (ix x2))) fun h15 =>
f_LandText_tellTo_b212  k2 h15 x0 x1 x2
) else none) else none) else none) else none) else none
) else (
if (hI h (hR h x0 3) (ix x2)) = (1015 : Int32) then (
if hS h (hR h x0 4) = 20 then (
if ib x2 (hL h (hR h x0 4)) = true then (
if hS h (hR h x0 5) = 20 then (
if ib x2 (hL h (hR h x0 5)) = true then (
if hS h x1 = 4 then (
bV (f_Land_addCistern h x1 (hI h (hR h x0 4) (ix x2)) (hI h (hR h x0 5) (ix x2))) fun h24 =>
f_LandText_tellTo_b212  k2 h24 x0 x1 x2
) else none) else none) else none) else none) else none
) else (
if (hI h (hR h x0 3) (ix x2)) = (1016 : Int32) then (
if hS h (hR h x0 4) = 20 then (
if ib x2 (hL h (hR h x0 4)) = true then (
if hS h (hR h x0 5) = 20 then (
if ib x2 (hL h (hR h x0 5)) = true then (
if hS h (hR h x0 6) = 20 then (
if ib x2 (hL h (hR h x0 6)) = true then (
if hS h x1 = 4 then (
bV (f_Land_pour h x1 (hI h (hR h x0 4) (ix x2)) (hI h (hR h x0 5) (ix x2)) (hI h (hR h x0 6) (ix x2))) fun h35 =>
f_LandText_tellTo_b212  k2 h35 x0 x1 x2
) else none) else none) else none) else none) else none) else none) else none
) else (
if (hI h (hR h x0 3) (ix x2)) = (1019 : Int32) then (
if hS h (hR h x0 4) = 20 then (
if ib x2 (hL h (hR h x0 4)) = true then (
if hS h (hR h x0 5) = 20 then (
if ib x2 (hL h (hR h x0 5)) = true then (
if hS h (hR h x0 6) = 20 then (
if ib x2 (hL h (hR h x0 6)) = true then (
if hS h x1 = 4 then (
bV (f_Land_addHouse h x1 (hI h (hR h x0 4) (ix x2)) (hI h (hR h x0 5) (ix x2)) (hI h (hR h x0 6) (ix x2))) fun h46 =>
f_LandText_tellTo_b212  k2 h46 x0 x1 x2
) else none) else none) else none) else none) else none) else none) else none
) else (
if (hI h (hR h x0 3) (ix x2)) = (1022 : Int32) then (
if hS h (hR h x0 4) = 20 then (
if ib x2 (hL h (hR h x0 4)) = true then (
if hS h (hR h x0 5) = 20 then (
if ib x2 (hL h (hR h x0 5)) = true then (
if hS h (hR h x0 6) = 20 then (
if ib x2 (hL h (hR h x0 6)) = true then (
if hS h x1 = 4 then (
bV (f_Land_setLeak h x1 (hI h (hR h x0 4) (ix x2)) (hI h (hR h x0 5) (ix x2)) (hI h (hR h x0 6) (ix x2))) fun h57 =>
f_LandText_tellTo_b212  k2 h57 x0 x1 x2
) else none) else none) else none) else none) else none) else none) else none
) else (
if hS h (hR h x0 4) = 20 then (
if ib x2 (hL h (hR h x0 4)) = true then (
if ib x2 (hL h (hR h x0 3)) = true then (
if (hI h (hR h x0 3) (ix x2)) = (1025 : Int32) then (
f_LandText_tellTo_b209  k2 h x0 x1 x2 x1 (hI h (hR h x0 4) (ix x2)) (1 : Int32)

) else (
f_LandText_tellTo_b209  k2 h x0 x1 x2 x1 (hI h (hR h x0 4) (ix x2)) (0 : Int32)

)
) else none) else none) else none
)))))
) else none) else none
)

)
) else none
set_option maxRecDepth 20000 in
set_option maxHeartbeats 4000000 in
theorem f_LandText_tellTo_b2_ok {l : Launch} {X : Nat × (Nat → Int32)} (hst : l.stackTraces = false) {d : Nat} (hd : 3 ≤ d)   {k2 : Hp → Nat → Nat → Int32 → Option (Hp)} (hk2 : ∀ (h : Hp) (x0 : Nat) (x1 : Nat) (x2 : Int32)  (r : Hp), k2 h x0 x1 x2 = some r → Rn l X mX4_tellTo d 2 [(0, .ref x0), (1, .ref x1), (2, .int x2)] [] h (eV r) r) {h : Hp} {x0 : Nat} {x1 : Nat} {x2 : Int32}  {r : Hp} (E : f_LandText_tellTo_b2  k2 h x0 x1 x2 = some r) : Rn l X mX4_tellTo d 2 [(0, .ref x0), (1, .ref x1), (2, .int x2)] [] h (eV r) r := by
  unfold f_LandText_tellTo_b2 at E
  refine Rn.iload_n (pc' := 3) dX4_tellTo_2 rfl 2 rfl rfl ?_
  refine Rn.aload_n (pc' := 4) dX4_tellTo_3 rfl 0 rfl rfl ?_
  obtain ⟨g1, E⟩ := gd_of E
  refine Rn.getI (pc' := 7) fl_X4_31_4 g1 rfl dX4_tellTo_4 rfl ?_
  refine Rn.icmp_ge (pc' := 10) (tgt := 218) dX4_tellTo_7 (by decide) rfl (fun c2 => ?_) (fun c2 => ?_)
  · replace E := (if_of E).1 c2
    cases E
    exact Rn.vret rfl dX4_tellTo_218
  · replace E := (if_of E).2 c2
    refine Rn.iload_n (pc' := 11) dX4_tellTo_10 rfl 2 rfl rfl ?_
    refine Rn.bipush (pc' := 13) (v := (14 : Int32)) (hv := by decide) dX4_tellTo_11 rfl ?_
    refine Rn.icmp_ge (pc' := 16) (tgt := 218) dX4_tellTo_13 (by decide) rfl (fun c3 => ?_) (fun c3 => ?_)
    · replace E := (if_of E).1 c3
      cases E
      exact Rn.vret rfl dX4_tellTo_218
    · replace E := (if_of E).2 c3
      refine Rn.aload_n (pc' := 17) dX4_tellTo_16 rfl 0 rfl rfl ?_
      refine Rn.getR (pc' := 20) fl_X4_9_4 g1 rfl dX4_tellTo_17 rfl ?_
      refine Rn.iload_n (pc' := 21) dX4_tellTo_20 rfl 2 rfl rfl ?_
      obtain ⟨g4, E⟩ := gd_of E
      obtain ⟨g5, E⟩ := gd_of E
      refine Rn.iald (pc' := 22) g4 g5 dX4_tellTo_21 rfl ?_
      by_cases c8 : (hI h (hR h x0 3) (ix x2)) = (1002 : Int32)
      · replace E := (if_of E).1 c8
        skip
        refine Rn.look (x := (hI h (hR h x0 3) (ix x2))) (tgt := 141) dX4_tellTo_22 (by decide) (by rw [c8]; first | done | rfl) (by decide) ?_
        refine Rn.aload_n (pc' := 142) dX4_tellTo_141 rfl 1 rfl rfl ?_
        refine Rn.aload_n (pc' := 143) dX4_tellTo_142 rfl 0 rfl rfl ?_
        refine Rn.getR (pc' := 146) fl_X4_15_4 g1 rfl dX4_tellTo_143 rfl ?_
        refine Rn.iload_n (pc' := 147) dX4_tellTo_146 rfl 2 rfl rfl ?_
        obtain ⟨g9, E⟩ := gd_of E
        obtain ⟨g10, E⟩ := gd_of E
        refine Rn.iald (pc' := 148) g9 g10 dX4_tellTo_147 rfl ?_
        refine Rn.aload_n (pc' := 149) dX4_tellTo_148 rfl 0 rfl rfl ?_
        refine Rn.getR (pc' := 152) fl_X4_18_4 g1 rfl dX4_tellTo_149 rfl ?_
        refine Rn.iload_n (pc' := 153) dX4_tellTo_152 rfl 2 rfl rfl ?_
        obtain ⟨g11, E⟩ := gd_of E
        obtain ⟨g12, E⟩ := gd_of E
        refine Rn.iald (pc' := 154) g11 g12 dX4_tellTo_153 rfl ?_
        obtain ⟨g13, E⟩ := gd_of E
        obtain ⟨h15, e16, E⟩ := bV_of E
        refine Rn.callV1 (pc' := 157) (As := [.int (hI h (hR h x0 4) (ix x2)), .int (hI h (hR h x0 5) (ix x2))]) (rest := []) (f_Land_setSalt_ok hst e16) (Nat.le_trans (by decide) hd) rfl kb_X4_110 ki_X3_setSalt rfl g13 rfl rfl (Nat.le_of_ble_eq_true rfl) dX4_tellTo_154 rfl rfl ?_
        refine Rn.goto (pc' := 212) dX4_tellTo_157 (by decide) ?_
        exact f_LandText_tellTo_b212_ok hst hd  hk2 E
      replace E := (if_of E).2 c8
      by_cases c17 : (hI h (hR h x0 3) (ix x2)) = (1015 : Int32)
      · replace E := (if_of E).1 c17
        skip
        refine Rn.look (x := (hI h (hR h x0 3) (ix x2))) (tgt := 72) dX4_tellTo_22 (by decide) (by rw [c17]; first | done | rfl) (by decide) ?_
        refine Rn.aload_n (pc' := 73) dX4_tellTo_72 rfl 1 rfl rfl ?_
        refine Rn.aload_n (pc' := 74) dX4_tellTo_73 rfl 0 rfl rfl ?_
        refine Rn.getR (pc' := 77) fl_X4_15_4 g1 rfl dX4_tellTo_74 rfl ?_
        refine Rn.iload_n (pc' := 78) dX4_tellTo_77 rfl 2 rfl rfl ?_
        obtain ⟨g18, E⟩ := gd_of E
        obtain ⟨g19, E⟩ := gd_of E
        refine Rn.iald (pc' := 79) g18 g19 dX4_tellTo_78 rfl ?_
        refine Rn.aload_n (pc' := 80) dX4_tellTo_79 rfl 0 rfl rfl ?_
        refine Rn.getR (pc' := 83) fl_X4_18_4 g1 rfl dX4_tellTo_80 rfl ?_
        refine Rn.iload_n (pc' := 84) dX4_tellTo_83 rfl 2 rfl rfl ?_
        obtain ⟨g20, E⟩ := gd_of E
        obtain ⟨g21, E⟩ := gd_of E
        refine Rn.iald (pc' := 85) g20 g21 dX4_tellTo_84 rfl ?_
        obtain ⟨g22, E⟩ := gd_of E
        obtain ⟨h24, e25, E⟩ := bV_of E
        refine Rn.callV1 (pc' := 88) (As := [.int (hI h (hR h x0 4) (ix x2)), .int (hI h (hR h x0 5) (ix x2))]) (rest := []) (f_Land_addCistern_ok hst e25) (Nat.le_trans (by decide) hd) rfl kb_X4_97 ki_X3_addCistern rfl g22 rfl rfl (Nat.le_of_ble_eq_true rfl) dX4_tellTo_85 rfl rfl ?_
        refine Rn.goto (pc' := 212) dX4_tellTo_88 (by decide) ?_
        exact f_LandText_tellTo_b212_ok hst hd  hk2 E
      replace E := (if_of E).2 c17
      by_cases c26 : (hI h (hR h x0 3) (ix x2)) = (1016 : Int32)
      · replace E := (if_of E).1 c26
        skip
        refine Rn.look (x := (hI h (hR h x0 3) (ix x2))) (tgt := 116) dX4_tellTo_22 (by decide) (by rw [c26]; first | done | rfl) (by decide) ?_
        refine Rn.aload_n (pc' := 117) dX4_tellTo_116 rfl 1 rfl rfl ?_
        refine Rn.aload_n (pc' := 118) dX4_tellTo_117 rfl 0 rfl rfl ?_
        refine Rn.getR (pc' := 121) fl_X4_15_4 g1 rfl dX4_tellTo_118 rfl ?_
        refine Rn.iload_n (pc' := 122) dX4_tellTo_121 rfl 2 rfl rfl ?_
        obtain ⟨g27, E⟩ := gd_of E
        obtain ⟨g28, E⟩ := gd_of E
        refine Rn.iald (pc' := 123) g27 g28 dX4_tellTo_122 rfl ?_
        refine Rn.aload_n (pc' := 124) dX4_tellTo_123 rfl 0 rfl rfl ?_
        refine Rn.getR (pc' := 127) fl_X4_18_4 g1 rfl dX4_tellTo_124 rfl ?_
        refine Rn.iload_n (pc' := 128) dX4_tellTo_127 rfl 2 rfl rfl ?_
        obtain ⟨g29, E⟩ := gd_of E
        obtain ⟨g30, E⟩ := gd_of E
        refine Rn.iald (pc' := 129) g29 g30 dX4_tellTo_128 rfl ?_
        refine Rn.aload_n (pc' := 130) dX4_tellTo_129 rfl 0 rfl rfl ?_
        refine Rn.getR (pc' := 133) fl_X4_21_4 g1 rfl dX4_tellTo_130 rfl ?_
        refine Rn.iload_n (pc' := 134) dX4_tellTo_133 rfl 2 rfl rfl ?_
        obtain ⟨g31, E⟩ := gd_of E
        obtain ⟨g32, E⟩ := gd_of E
        refine Rn.iald (pc' := 135) g31 g32 dX4_tellTo_134 rfl ?_
        obtain ⟨g33, E⟩ := gd_of E
        obtain ⟨h35, e36, E⟩ := bV_of E
        refine Rn.callV1 (pc' := 138) (As := [.int (hI h (hR h x0 4) (ix x2)), .int (hI h (hR h x0 5) (ix x2)), .int (hI h (hR h x0 6) (ix x2))]) (rest := []) (f_Land_pour_ok hst e36) (Nat.le_trans (by decide) hd) rfl kb_X4_107 ki_X3_pour rfl g33 rfl rfl (Nat.le_of_ble_eq_true rfl) dX4_tellTo_135 rfl rfl ?_
        refine Rn.goto (pc' := 212) dX4_tellTo_138 (by decide) ?_
        exact f_LandText_tellTo_b212_ok hst hd  hk2 E
      replace E := (if_of E).2 c26
      by_cases c37 : (hI h (hR h x0 3) (ix x2)) = (1019 : Int32)
      · replace E := (if_of E).1 c37
        skip
        refine Rn.look (x := (hI h (hR h x0 3) (ix x2))) (tgt := 91) dX4_tellTo_22 (by decide) (by rw [c37]; first | done | rfl) (by decide) ?_
        refine Rn.aload_n (pc' := 92) dX4_tellTo_91 rfl 1 rfl rfl ?_
        refine Rn.aload_n (pc' := 93) dX4_tellTo_92 rfl 0 rfl rfl ?_
        refine Rn.getR (pc' := 96) fl_X4_15_4 g1 rfl dX4_tellTo_93 rfl ?_
        refine Rn.iload_n (pc' := 97) dX4_tellTo_96 rfl 2 rfl rfl ?_
        obtain ⟨g38, E⟩ := gd_of E
        obtain ⟨g39, E⟩ := gd_of E
        refine Rn.iald (pc' := 98) g38 g39 dX4_tellTo_97 rfl ?_
        refine Rn.aload_n (pc' := 99) dX4_tellTo_98 rfl 0 rfl rfl ?_
        refine Rn.getR (pc' := 102) fl_X4_18_4 g1 rfl dX4_tellTo_99 rfl ?_
        refine Rn.iload_n (pc' := 103) dX4_tellTo_102 rfl 2 rfl rfl ?_
        obtain ⟨g40, E⟩ := gd_of E
        obtain ⟨g41, E⟩ := gd_of E
        refine Rn.iald (pc' := 104) g40 g41 dX4_tellTo_103 rfl ?_
        refine Rn.aload_n (pc' := 105) dX4_tellTo_104 rfl 0 rfl rfl ?_
        refine Rn.getR (pc' := 108) fl_X4_21_4 g1 rfl dX4_tellTo_105 rfl ?_
        refine Rn.iload_n (pc' := 109) dX4_tellTo_108 rfl 2 rfl rfl ?_
        obtain ⟨g42, E⟩ := gd_of E
        obtain ⟨g43, E⟩ := gd_of E
        refine Rn.iald (pc' := 110) g42 g43 dX4_tellTo_109 rfl ?_
        obtain ⟨g44, E⟩ := gd_of E
        obtain ⟨h46, e47, E⟩ := bV_of E
        refine Rn.callV1 (pc' := 113) (As := [.int (hI h (hR h x0 4) (ix x2)), .int (hI h (hR h x0 5) (ix x2)), .int (hI h (hR h x0 6) (ix x2))]) (rest := []) (f_Land_addHouse_ok hst e47) (Nat.le_trans (by decide) hd) rfl kb_X4_103 ki_X3_addHouse rfl g44 rfl rfl (Nat.le_of_ble_eq_true rfl) dX4_tellTo_110 rfl rfl ?_
        refine Rn.goto (pc' := 212) dX4_tellTo_113 (by decide) ?_
        exact f_LandText_tellTo_b212_ok hst hd  hk2 E
      replace E := (if_of E).2 c37
      by_cases c48 : (hI h (hR h x0 3) (ix x2)) = (1022 : Int32)
      · replace E := (if_of E).1 c48
        skip
        refine Rn.look (x := (hI h (hR h x0 3) (ix x2))) (tgt := 160) dX4_tellTo_22 (by decide) (by rw [c48]; first | done | rfl) (by decide) ?_
        refine Rn.aload_n (pc' := 161) dX4_tellTo_160 rfl 1 rfl rfl ?_
        refine Rn.aload_n (pc' := 162) dX4_tellTo_161 rfl 0 rfl rfl ?_
        refine Rn.getR (pc' := 165) fl_X4_15_4 g1 rfl dX4_tellTo_162 rfl ?_
        refine Rn.iload_n (pc' := 166) dX4_tellTo_165 rfl 2 rfl rfl ?_
        obtain ⟨g49, E⟩ := gd_of E
        obtain ⟨g50, E⟩ := gd_of E
        refine Rn.iald (pc' := 167) g49 g50 dX4_tellTo_166 rfl ?_
        refine Rn.aload_n (pc' := 168) dX4_tellTo_167 rfl 0 rfl rfl ?_
        refine Rn.getR (pc' := 171) fl_X4_18_4 g1 rfl dX4_tellTo_168 rfl ?_
        refine Rn.iload_n (pc' := 172) dX4_tellTo_171 rfl 2 rfl rfl ?_
        obtain ⟨g51, E⟩ := gd_of E
        obtain ⟨g52, E⟩ := gd_of E
        refine Rn.iald (pc' := 173) g51 g52 dX4_tellTo_172 rfl ?_
        refine Rn.aload_n (pc' := 174) dX4_tellTo_173 rfl 0 rfl rfl ?_
        refine Rn.getR (pc' := 177) fl_X4_21_4 g1 rfl dX4_tellTo_174 rfl ?_
        refine Rn.iload_n (pc' := 178) dX4_tellTo_177 rfl 2 rfl rfl ?_
        obtain ⟨g53, E⟩ := gd_of E
        obtain ⟨g54, E⟩ := gd_of E
        refine Rn.iald (pc' := 179) g53 g54 dX4_tellTo_178 rfl ?_
        obtain ⟨g55, E⟩ := gd_of E
        obtain ⟨h57, e58, E⟩ := bV_of E
        refine Rn.callV1 (pc' := 182) (As := [.int (hI h (hR h x0 4) (ix x2)), .int (hI h (hR h x0 5) (ix x2)), .int (hI h (hR h x0 6) (ix x2))]) (rest := []) (f_Land_setLeak_ok hst e58) (Nat.le_trans (by decide) hd) rfl kb_X4_113 ki_X3_setLeak rfl g55 rfl rfl (Nat.le_of_ble_eq_true rfl) dX4_tellTo_179 rfl rfl ?_
        refine Rn.goto (pc' := 212) dX4_tellTo_182 (by decide) ?_
        exact f_LandText_tellTo_b212_ok hst hd  hk2 E
      replace E := (if_of E).2 c48
      refine Rn.look (x := (hI h (hR h x0 3) (ix x2))) (tgt := 185) dX4_tellTo_22 (by decide) (look_no _ _ (List.forall_mem_cons.mpr ⟨look_nt (by decide) c8, List.forall_mem_cons.mpr ⟨look_nt (by decide) c17, List.forall_mem_cons.mpr ⟨look_nt (by decide) c26, List.forall_mem_cons.mpr ⟨look_nt (by decide) c37, List.forall_mem_cons.mpr ⟨look_nt (by decide) c48, fun _ h => absurd h List.not_mem_nil⟩⟩⟩⟩⟩)) (by decide) ?_
      refine Rn.aload_n (pc' := 186) dX4_tellTo_185 rfl 1 rfl rfl ?_
      refine Rn.aload_n (pc' := 187) dX4_tellTo_186 rfl 0 rfl rfl ?_
      refine Rn.getR (pc' := 190) fl_X4_15_4 g1 rfl dX4_tellTo_187 rfl ?_
      refine Rn.iload_n (pc' := 191) dX4_tellTo_190 rfl 2 rfl rfl ?_
      obtain ⟨g59, E⟩ := gd_of E
      obtain ⟨g60, E⟩ := gd_of E
      refine Rn.iald (pc' := 192) g59 g60 dX4_tellTo_191 rfl ?_
      refine Rn.aload_n (pc' := 193) dX4_tellTo_192 rfl 0 rfl rfl ?_
      refine Rn.getR (pc' := 196) fl_X4_9_4 g1 rfl dX4_tellTo_193 rfl ?_
      refine Rn.iload_n (pc' := 197) dX4_tellTo_196 rfl 2 rfl rfl ?_
      obtain ⟨g61, E⟩ := gd_of E
      refine Rn.iald (pc' := 198) g4 g61 dX4_tellTo_197 rfl ?_
      refine Rn.sipush (pc' := 201) (v := (1025 : Int32)) (hv := by decide) dX4_tellTo_198 rfl ?_
      refine Rn.icmp_ne (pc' := 204) (tgt := 208) dX4_tellTo_201 (by decide) rfl (fun c62 => ?_) (fun c62 => ?_)
      · replace E := (if_of E).2 c62
        refine Rn.iconst (pc' := 209) (v := (0 : Int32)) (hv := by decide) dX4_tellTo_208 rfl ?_
        exact f_LandText_tellTo_b209_ok hst hd  hk2 E
      · replace E := (if_of E).1 c62
        refine Rn.iconst (pc' := 205) (v := (1 : Int32)) (hv := by decide) dX4_tellTo_204 rfl ?_
        refine Rn.goto (pc' := 209) dX4_tellTo_205 (by decide) ?_
        exact f_LandText_tellTo_b209_ok hst hd  hk2 E
def f_LandText_tellTo_L2   (n : Nat) : Hp → Nat → Nat → Int32 → Option (Hp) := Nat.rec (motive := fun _ => Hp → Nat → Nat → Int32 → Option (Hp)) (fun _ _ _ _ => none) (fun _ rec => f_LandText_tellTo_b2   rec) n
theorem f_LandText_tellTo_L2_ok {l : Launch} {X : Nat × (Nat → Int32)} (hst : l.stackTraces = false) {d : Nat} (hd : 3 ≤ d)     : ∀ (n : Nat) (h : Hp) (x0 : Nat) (x1 : Nat) (x2 : Int32)  (r : Hp), f_LandText_tellTo_L2   n h x0 x1 x2 = some r → Rn l X mX4_tellTo d 2 [(0, .ref x0), (1, .ref x1), (2, .int x2)] [] h (eV r) r := by
  intro n
  induction n with
  | zero => intro h x0 x1 x2 r E; cases E
  | succ n ih => intro h x0 x1 x2 r E; exact f_LandText_tellTo_b2_ok hst hd   ih E
def f_LandText_tellTo_b0   (h : Hp) (x0 : Nat) (x1 : Nat)  : Option (Hp) :=
f_LandText_tellTo_L2   FU h x0 x1 (0 : Int32)

set_option maxRecDepth 20000 in
set_option maxHeartbeats 4000000 in
theorem f_LandText_tellTo_b0_ok {l : Launch} {X : Nat × (Nat → Int32)} (hst : l.stackTraces = false) {d : Nat} (hd : 3 ≤ d)     {h : Hp} {x0 : Nat} {x1 : Nat}  {r : Hp} (E : f_LandText_tellTo_b0   h x0 x1 = some r) : Rn l X mX4_tellTo d 0 [(0, .ref x0), (1, .ref x1)] [] h (eV r) r := by
  unfold f_LandText_tellTo_b0 at E
  refine Rn.iconst (pc' := 1) (v := (0 : Int32)) (hv := by decide) dX4_tellTo_0 rfl ?_
  refine Rn.istore_n (pc' := 2) (L' := [(2, .int (0 : Int32)), (0, .ref x0), (1, .ref x1)]) dX4_tellTo_1 rfl (by decide) rfl rfl ?_
  refine Rn.sub [1, 2, 0] rfl ?_
  exact f_LandText_tellTo_L2_ok hst hd   FU _ _ _ _ _ E
def f_LandText_tellTo (h : Hp) (x0 : Nat) (x1 : Nat) : Option (Hp) := f_LandText_tellTo_b0  h x0 x1
theorem f_LandText_tellTo_ok {l : Launch} {X : Nat × (Nat → Int32)} (hst : l.stackTraces = false) {h : Hp} {x0 : Nat} {x1 : Nat} {r : Hp} (E : f_LandText_tellTo h x0 x1 = some r) : MC l X yX4_tellTo mX4_tellTo 3 [.ref x0, .ref x1] h (eV r) r :=
  MC.body (by decide +kernel) rfl (by decide) hst (Nat.le_of_ble_eq_true rfl) (f_LandText_tellTo_b0_ok hst (Nat.le_refl _) E)
