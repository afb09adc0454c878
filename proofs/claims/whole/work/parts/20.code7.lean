/-! ===== by program out of the bytecode (wip/whole/gen/emit.py) ===== -/
abbrev mX10_next : MI := (RX10, cX10_next, 2, (some Jvm.ClassFile.FieldType.int), [], false)
theorem ws_X10_next : ∀ w ∈ wsM yX10_next mX10_next, w ∈ gw := List.forall_mem_cons.mpr ⟨gw_at 1208 (by decide +kernel) (by decide +kernel), fun _ h => h⟩
theorem kb_X10_203 : KB RX10 203 yX3_firstYearIn mX3_firstYearIn 1 := ⟨gw_at 1209 (by decide +kernel) (by decide +kernel), gw_at 113 (by decide +kernel) (by decide +kernel), trivial, ws_X3_firstYearIn, by decide +kernel, by decide +kernel, by decide +kernel, by decide⟩
def f_Water_next_b0   (h : Hp) (x0 : Nat) (x1 : Int32)  : Option ((Int32 ⊕ Nat) × Hp) :=
if hS h x0 = 10 then (
bX (f_Water_needCistern h x0 x1) fun _ h3 =>
if hS h3 x0 = 10 then (
if hS h3 (hR h3 x0 4) = 4 then (
if hS h3 (hR h3 (hR h3 x0 4) 3) = 23 then (
if ib x1 (hL h3 (hR h3 (hR h3 x0 4) 3)) = true then (
bI (f_Land_firstYearIn h3 (hR h3 x0 4) (hR h3 (hR h3 (hR h3 x0 4) 3) (ix x1))) fun v9 h10 =>
some (.inl v9, h10)
) else none) else none) else none) else none) else none
set_option maxRecDepth 20000 in
set_option maxHeartbeats 4000000 in
theorem f_Water_next_b0_ok {l : Launch} {X : Nat × (Nat → Int32)} (hst : l.stackTraces = false) {d : Nat} (hd : 5 ≤ d)     {h : Hp} {x0 : Nat} {x1 : Int32}  {r : (Int32 ⊕ Nat) × Hp} (E : f_Water_next_b0   h x0 x1 = some r) : Rn l X mX10_next d 0 [(0, .ref x0), (1, .int x1)] [] h (xI r) r.2 := by
  unfold f_Water_next_b0 at E
  refine Rn.aload_n (pc' := 1) dX10_next_0 rfl 0 rfl rfl ?_
  refine Rn.iload_n (pc' := 2) dX10_next_1 rfl 1 rfl rfl ?_
  obtain ⟨g1, E⟩ := gd_of E
  rcases bX_of E with ⟨u_, h3, e4, E⟩ | ⟨x_, h3, e4, rfl⟩
  rotate_left
  · exact Rn.callVX (As := [.int x1]) (rest := []) (f_Water_needCistern_ok hst e4) (Nat.le_trans (by decide) hd) rfl kb_X10_123 ki_X10_needCistern rfl g1 rfl rfl (Nat.le_of_ble_eq_true rfl) dX10_next_2 (RnX.out (by decide))
  refine Rn.callV1 (pc' := 5) (As := [.int x1]) (rest := []) (f_Water_needCistern_ok hst e4) (Nat.le_trans (by decide) hd) rfl kb_X10_123 ki_X10_needCistern rfl g1 rfl rfl (Nat.le_of_ble_eq_true rfl) dX10_next_2 rfl rfl ?_
  refine Rn.aload_n (pc' := 6) dX10_next_5 rfl 0 rfl rfl ?_
  obtain ⟨g5, E⟩ := gd_of E
  refine Rn.getR (pc' := 9) fl_X10_42_9 g5 rfl dX10_next_6 rfl ?_
  refine Rn.aload_n (pc' := 10) dX10_next_9 rfl 0 rfl rfl ?_
  refine Rn.getR (pc' := 13) fl_X10_42_9 g5 rfl dX10_next_10 rfl ?_
  obtain ⟨g6, E⟩ := gd_of E
  refine Rn.getR (pc' := 16) fl_X10_126_3 g6 rfl dX10_next_13 rfl ?_
  refine Rn.iload_n (pc' := 17) dX10_next_16 rfl 1 rfl rfl ?_
  obtain ⟨g7, E⟩ := gd_of E
  obtain ⟨g8, E⟩ := gd_of E
  refine Rn.aald (pc' := 18) g7 (by decide) (by decide) g8 dX10_next_17 rfl ?_
  obtain ⟨v9, h10, e11, E⟩ := bI_of E
  refine Rn.callV1 (pc' := 21) (As := [.ref (hR h3 (hR h3 (hR h3 x0 4) 3) (ix x1))]) (rest := []) (f_Land_firstYearIn_ok hst e11) (Nat.le_trans (by decide) hd) rfl kb_X10_203 ki_X3_firstYearIn rfl g6 rfl rfl (Nat.le_of_ble_eq_true rfl) dX10_next_18 rfl rfl ?_
  cases E
  exact Rn.zret rfl rfl dX10_next_21
def f_Water_next (h : Hp) (x0 : Nat) (x1 : Int32) : Option ((Int32 ⊕ Nat) × Hp) := f_Water_next_b0  h x0 x1
theorem f_Water_next_ok {l : Launch} {X : Nat × (Nat → Int32)} (hst : l.stackTraces = false) {h : Hp} {x0 : Nat} {x1 : Int32} {r : (Int32 ⊕ Nat) × Hp} (E : f_Water_next h x0 x1 = some r) : MC l X yX10_next mX10_next 5 [.ref x0, .int x1] h (xI r) r.2 :=
  MC.body (by decide +kernel) rfl (by decide) hst (Nat.le_of_ble_eq_true rfl) (f_Water_next_b0_ok hst (Nat.le_refl _) E)
abbrev mL_next : MI := (RL, cL_next, 4, (some Jvm.ClassFile.FieldType.int), [(0, 9, 12, 24)], false)
theorem ws_L_next : ∀ w ∈ wsM yL_next mL_next, w ∈ gw := List.forall_mem_cons.mpr ⟨gw_at 1204 (by decide +kernel) (by decide +kernel), fun _ h => h⟩
theorem kb_L_44 : KB RL 44 yX10_next mX10_next 1 := ⟨gw_at 1205 (by decide +kernel) (by decide +kernel), gw_at 107 (by decide +kernel) (by decide +kernel), trivial, ws_X10_next, by decide +kernel, by decide +kernel, by decide +kernel, by decide⟩
theorem ki_X10_next : Cond.instanceMethod yX10_next ∈ gw ∧ Cond.selects yX10_next.cls yX10_next yX10_next ∈ gw := ⟨gw_at 1206 (by decide +kernel) (by decide +kernel), gw_at 1207 (by decide +kernel) (by decide +kernel)⟩
def f_Lw_next_b0   (h : Hp) (x0 : Nat) (x1 : Int32) (x2 : Nat)  : Option (Int32 × Hp) :=
if hS h x0 = 10 then (
bC (f_Water_next h x0 x1) (fun v2 h3 =>
if hS h3 x2 = 22 then (
if ib (0 : Int32) (hL h3 x2) = true then (
wr (sJ h3 x2 (ix (0 : Int32)) (Int32.toInt64 v2)) fun h7 =>
some ((0 : Int32), h7)
) else none) else none
) (fun x_ h3 =>
if x_ = 1 then (
some ((1 : Int32), h3)

) else (
none))
) else none
set_option maxRecDepth 20000 in
set_option maxHeartbeats 4000000 in
theorem f_Lw_next_b0_ok {l : Launch} {X : Nat × (Nat → Int32)} (hst : l.stackTraces = false) {d : Nat} (hd : 6 ≤ d)     {h : Hp} {x0 : Nat} {x1 : Int32} {x2 : Nat}  {r : Int32 × Hp} (E : f_Lw_next_b0   h x0 x1 x2 = some r) : Rn l X mL_next d 0 [(0, .ref x0), (1, .int x1), (2, .ref x2)] [] h (eI r) r.2 := by
  unfold f_Lw_next_b0 at E
  refine Rn.aload_n (pc' := 1) dL_next_0 rfl 2 rfl rfl ?_
  refine Rn.iconst (pc' := 2) (v := (0 : Int32)) (hv := by decide) dL_next_1 rfl ?_
  refine Rn.aload_n (pc' := 3) dL_next_2 rfl 0 rfl rfl ?_
  refine Rn.iload_n (pc' := 4) dL_next_3 rfl 1 rfl rfl ?_
  obtain ⟨g1, E⟩ := gd_of E
  rcases bC_of E with ⟨v2, h3, e4, E⟩ | ⟨x_, h3, e4, E⟩
  · refine Rn.callV1 (pc' := 7) (As := [.int x1]) (rest := [.int (0 : Int32), .ref x2]) (f_Water_next_ok hst e4) (Nat.le_trans (by decide) hd) rfl kb_L_44 ki_X10_next rfl g1 rfl rfl (Nat.le_of_ble_eq_true rfl) dL_next_4 rfl rfl ?_
    refine Rn.i2l (pc' := 8) dL_next_7 rfl ?_
    obtain ⟨g5, E⟩ := gd_of E
    obtain ⟨g6, E⟩ := gd_of E
    refine Rn.last (pc' := 9) g5 g6 dL_next_8 rfl ?_
    replace E := wr_of E
    generalize eh8 : sJ h3 x2 (ix (0 : Int32)) (Int32.toInt64 v2) = h7 at E ⊢
    refine Rn.goto (pc' := 15) dL_next_9 (by decide) ?_
    refine Rn.iconst (pc' := 16) (v := (0 : Int32)) (hv := by decide) dL_next_15 rfl ?_
    cases E
    exact Rn.zret rfl rfl dL_next_16
  · refine Rn.callVX (As := [.int x1]) (rest := [.int (0 : Int32), .ref x2]) (f_Water_next_ok hst e4) (Nat.le_trans (by decide) hd) rfl kb_L_44 ki_X10_next rfl g1 rfl rfl (Nat.le_of_ble_eq_true rfl) dL_next_4 ?_
    by_cases c9 : x_ = 1
    · replace E := (if_of E).1 c9
      subst c9
      refine RnX.catch (x := 1) (i := 3) (pch := 13) 0 rfl (pre0) (by decide) (by decide) kk_L_24 (by decide) (Or.inl ⟨3, rfl, dL_next_12, rfl⟩) (by decide) ?_
      change Rn _ _ _ _ _ [(0, .ref x0), (1, .int x1), (2, .ref x2)] _ _ _ _
      refine Rn.iconst (pc' := 14) (v := (1 : Int32)) (hv := by decide) dL_next_13 rfl ?_
      cases E
      exact Rn.zret rfl rfl dL_next_14
    replace E := (if_of E).2 c9
    cases E
def f_Lw_next (h : Hp) (x0 : Nat) (x1 : Int32) (x2 : Nat) : Option (Int32 × Hp) := f_Lw_next_b0  h x0 x1 x2
theorem f_Lw_next_ok {l : Launch} {X : Nat × (Nat → Int32)} (hst : l.stackTraces = false) {h : Hp} {x0 : Nat} {x1 : Int32} {x2 : Nat} {r : Int32 × Hp} (E : f_Lw_next h x0 x1 x2 = some r) : MC l X yL_next mL_next 6 [.ref x0, .int x1, .ref x2] h (eI r) r.2 :=
  MC.body (by decide +kernel) rfl (by decide) hst (Nat.le_of_ble_eq_true rfl) (f_Lw_next_b0_ok hst (Nat.le_refl _) E)
abbrev mX11_next : MI := (RX11, cX11_next, 2, (some Jvm.ClassFile.FieldType.int), [], false)
theorem ws_X11_next : ∀ w ∈ wsM yX11_next mX11_next, w ∈ gw := List.forall_mem_cons.mpr ⟨gw_at 1767 (by decide +kernel) (by decide +kernel), fun _ h => h⟩
def f_Model_next_b0   (h : Hp) (x0 : Nat) (x1 : Int32)  : Option (Int32 × Hp) :=
if hS h x0 = 11 then (
wr (sI h x0 0 (0 : Int32)) fun h2 =>
bI (f_Model_noCistern h2 x0 x1) fun v4 h5 =>
if hS h5 x0 = 11 then (
bI (f_Model_throwsIf h5 x0 v4 (1 : Int32)) fun v8 h9 =>
if v8 = 0 then (
if hS h9 x0 = 11 then (
bI (f_Model_nextOf h9 x0 x1) fun v13 h14 =>
some (v13, h14)
) else none
) else (
some ((0 : Int32), h9)

)
) else none) else none
set_option maxRecDepth 20000 in
set_option maxHeartbeats 4000000 in
theorem f_Model_next_b0_ok {l : Launch} {X : Nat × (Nat → Int32)} (hst : l.stackTraces = false) {d : Nat} (hd : 6 ≤ d)     {h : Hp} {x0 : Nat} {x1 : Int32}  {r : Int32 × Hp} (E : f_Model_next_b0   h x0 x1 = some r) : Rn l X mX11_next d 0 [(0, .ref x0), (1, .int x1)] [] h (eI r) r.2 := by
  unfold f_Model_next_b0 at E
  refine Rn.aload_n (pc' := 1) dX11_next_0 rfl 0 rfl rfl ?_
  refine Rn.iconst (pc' := 2) (v := (0 : Int32)) (hv := by decide) dX11_next_1 rfl ?_
  obtain ⟨g1, E⟩ := gd_of E
  refine Rn.putI (pc' := 5) fl_X11_3_10 (fun q hq => by cases hq; decide) g1 rfl rfl rfl dX11_next_2 rfl ?_
  replace E := wr_of E
  generalize eh3 : sI h x0 0 (0 : Int32) = h2 at E ⊢
  refine Rn.aload_n (pc' := 6) dX11_next_5 rfl 0 rfl rfl ?_
  refine Rn.aload_n (pc' := 7) dX11_next_6 rfl 0 rfl rfl ?_
  refine Rn.iload_n (pc' := 8) dX11_next_7 rfl 1 rfl rfl ?_
  obtain ⟨v4, h5, e6, E⟩ := bI_of E
  refine Rn.callV1 (pc' := 11) (As := [.int x1]) (rest := [.ref x0]) (f_Model_noCistern_ok hst e6) (Nat.le_trans (by decide) hd) rfl kb_X11_284 ki_X11_noCistern rfl (kp_sI eh3 g1) rfl rfl (Nat.le_of_ble_eq_true rfl) dX11_next_8 rfl rfl ?_
  refine Rn.iconst (pc' := 12) (v := (1 : Int32)) (hv := by decide) dX11_next_11 rfl ?_
  obtain ⟨g7, E⟩ := gd_of E
  obtain ⟨v8, h9, e10, E⟩ := bI_of E
  refine Rn.callV1 (pc' := 15) (As := [.int v4, .int (1 : Int32)]) (rest := []) (f_Model_throwsIf_ok hst e10) (Nat.le_trans (by decide) hd) rfl kb_X11_265 ki_X11_throwsIf rfl g7 rfl rfl (Nat.le_of_ble_eq_true rfl) dX11_next_12 rfl rfl ?_
  refine Rn.if_eq (pc' := 18) (tgt := 22) dX11_next_15 (by decide) rfl (fun c11 => ?_) (fun c11 => ?_)
  · replace E := (if_of E).1 c11
    refine Rn.aload_n (pc' := 23) dX11_next_22 rfl 0 rfl rfl ?_
    refine Rn.iload_n (pc' := 24) dX11_next_23 rfl 1 rfl rfl ?_
    obtain ⟨g12, E⟩ := gd_of E
    obtain ⟨v13, h14, e15, E⟩ := bI_of E
    refine Rn.callV1 (pc' := 27) (As := [.int x1]) (rest := []) (f_Model_nextOf_ok hst e15) (Nat.le_trans (by decide) hd) rfl kb_X11_299 ki_X11_nextOf rfl g12 rfl rfl (Nat.le_of_ble_eq_true rfl) dX11_next_24 rfl rfl ?_
    cases E
    exact Rn.zret rfl rfl dX11_next_27
  · replace E := (if_of E).2 c11
    refine Rn.iconst (pc' := 19) (v := (0 : Int32)) (hv := by decide) dX11_next_18 rfl ?_
    refine Rn.goto (pc' := 27) dX11_next_19 (by decide) ?_
    cases E
    exact Rn.zret rfl rfl dX11_next_27
def f_Model_next (h : Hp) (x0 : Nat) (x1 : Int32) : Option (Int32 × Hp) := f_Model_next_b0  h x0 x1
theorem f_Model_next_ok {l : Launch} {X : Nat × (Nat → Int32)} (hst : l.stackTraces = false) {h : Hp} {x0 : Nat} {x1 : Int32} {r : Int32 × Hp} (E : f_Model_next h x0 x1 = some r) : MC l X yX11_next mX11_next 6 [.ref x0, .int x1] h (eI r) r.2 :=
  MC.body (by decide +kernel) rfl (by decide) hst (Nat.le_of_ble_eq_true rfl) (f_Model_next_b0_ok hst (Nat.le_refl _) E)
abbrev mX10_place : MI := (RX10, cX10_place, 3, (some Jvm.ClassFile.FieldType.int), [], false)
theorem ws_X10_place : ∀ w ∈ wsM yX10_place mX10_place, w ∈ gw := List.forall_mem_cons.mpr ⟨gw_at 1200 (by decide +kernel) (by decide +kernel), fun _ h => h⟩
theorem kb_X10_199 : KB RX10 199 yX3_placeIn mX3_placeIn 2 := ⟨gw_at 1201 (by decide +kernel) (by decide +kernel), gw_at 113 (by decide +kernel) (by decide +kernel), trivial, ws_X3_placeIn, by decide +kernel, by decide +kernel, by decide +kernel, by decide⟩
def f_Water_place_b0   (h : Hp) (x0 : Nat) (x1 : Int32) (x2 : Int32)  : Option ((Int32 ⊕ Nat) × Hp) :=
if hS h x0 = 10 then (
bX (f_Water_needCistern h x0 x1) fun _ h3 =>
if hS h3 x0 = 10 then (
bX (f_Water_needYear h3 x0 x2) fun _ h7 =>
if hS h7 x0 = 10 then (
if hS h7 (hR h7 x0 4) = 4 then (
if hS h7 (hR h7 (hR h7 x0 4) 3) = 23 then (
if ib x1 (hL h7 (hR h7 (hR h7 x0 4) 3)) = true then (
bI (f_Land_placeIn h7 (hR h7 x0 4) (hR h7 (hR h7 (hR h7 x0 4) 3) (ix x1)) x2) fun v13 h14 =>
some (.inl v13, h14)
) else none) else none) else none) else none) else none) else none
set_option maxRecDepth 20000 in
set_option maxHeartbeats 4000000 in
theorem f_Water_place_b0_ok {l : Launch} {X : Nat × (Nat → Int32)} (hst : l.stackTraces = false) {d : Nat} (hd : 3 ≤ d)     {h : Hp} {x0 : Nat} {x1 : Int32} {x2 : Int32}  {r : (Int32 ⊕ Nat) × Hp} (E : f_Water_place_b0   h x0 x1 x2 = some r) : Rn l X mX10_place d 0 [(0, .ref x0), (1, .int x1), (2, .int x2)] [] h (xI r) r.2 := by
  unfold f_Water_place_b0 at E
  refine Rn.aload_n (pc' := 1) dX10_place_0 rfl 0 rfl rfl ?_
  refine Rn.iload_n (pc' := 2) dX10_place_1 rfl 1 rfl rfl ?_
  obtain ⟨g1, E⟩ := gd_of E
  rcases bX_of E with ⟨u_, h3, e4, E⟩ | ⟨x_, h3, e4, rfl⟩
  rotate_left
  · exact Rn.callVX (As := [.int x1]) (rest := []) (f_Water_needCistern_ok hst e4) (Nat.le_trans (by decide) hd) rfl kb_X10_123 ki_X10_needCistern rfl g1 rfl rfl (Nat.le_of_ble_eq_true rfl) dX10_place_2 (RnX.out (by decide))
  refine Rn.callV1 (pc' := 5) (As := [.int x1]) (rest := []) (f_Water_needCistern_ok hst e4) (Nat.le_trans (by decide) hd) rfl kb_X10_123 ki_X10_needCistern rfl g1 rfl rfl (Nat.le_of_ble_eq_true rfl) dX10_place_2 rfl rfl ?_
  refine Rn.aload_n (pc' := 6) dX10_place_5 rfl 0 rfl rfl ?_
  refine Rn.iload_n (pc' := 7) dX10_place_6 rfl 2 rfl rfl ?_
  obtain ⟨g5, E⟩ := gd_of E
  rcases bX_of E with ⟨u_, h7, e8, E⟩ | ⟨x_, h7, e8, rfl⟩
  rotate_left
  · exact Rn.callVX (As := [.int x2]) (rest := []) (f_Water_needYear_ok hst e8) (Nat.le_trans (by decide) hd) rfl kb_X10_160 ki_X10_needYear rfl g5 rfl rfl (Nat.le_of_ble_eq_true rfl) dX10_place_7 (RnX.out (by decide))
  refine Rn.callV1 (pc' := 10) (As := [.int x2]) (rest := []) (f_Water_needYear_ok hst e8) (Nat.le_trans (by decide) hd) rfl kb_X10_160 ki_X10_needYear rfl g5 rfl rfl (Nat.le_of_ble_eq_true rfl) dX10_place_7 rfl rfl ?_
  refine Rn.aload_n (pc' := 11) dX10_place_10 rfl 0 rfl rfl ?_
  obtain ⟨g9, E⟩ := gd_of E
  refine Rn.getR (pc' := 14) fl_X10_42_9 g9 rfl dX10_place_11 rfl ?_
  refine Rn.aload_n (pc' := 15) dX10_place_14 rfl 0 rfl rfl ?_
  refine Rn.getR (pc' := 18) fl_X10_42_9 g9 rfl dX10_place_15 rfl ?_
  obtain ⟨g10, E⟩ := gd_of E
  refine Rn.getR (pc' := 21) fl_X10_126_3 g10 rfl dX10_place_18 rfl ?_
  refine Rn.iload_n (pc' := 22) dX10_place_21 rfl 1 rfl rfl ?_
  obtain ⟨g11, E⟩ := gd_of E
  obtain ⟨g12, E⟩ := gd_of E
  refine Rn.aald (pc' := 23) g11 (by decide) (by decide) g12 dX10_place_22 rfl ?_
  refine Rn.iload_n (pc' := 24) dX10_place_23 rfl 2 rfl rfl ?_
  obtain ⟨v13, h14, e15, E⟩ := bI_of E
  refine Rn.callV1 (pc' := 27) (As := [.ref (hR h7 (hR h7 (hR h7 x0 4) 3) (ix x1)), .int x2]) (rest := []) (f_Land_placeIn_ok hst e15) (Nat.le_trans (by decide) hd) rfl kb_X10_199 ki_X3_placeIn rfl g10 rfl rfl (Nat.le_of_ble_eq_true rfl) dX10_place_24 rfl rfl ?_
  cases E
  exact Rn.zret rfl rfl dX10_place_27
def f_Water_place (h : Hp) (x0 : Nat) (x1 : Int32) (x2 : Int32) : Option ((Int32 ⊕ Nat) × Hp) := f_Water_place_b0  h x0 x1 x2
theorem f_Water_place_ok {l : Launch} {X : Nat × (Nat → Int32)} (hst : l.stackTraces = false) {h : Hp} {x0 : Nat} {x1 : Int32} {x2 : Int32} {r : (Int32 ⊕ Nat) × Hp} (E : f_Water_place h x0 x1 x2 = some r) : MC l X yX10_place mX10_place 3 [.ref x0, .int x1, .int x2] h (xI r) r.2 :=
  MC.body (by decide +kernel) rfl (by decide) hst (Nat.le_of_ble_eq_true rfl) (f_Water_place_b0_ok hst (Nat.le_refl _) E)
abbrev mL_place : MI := (RL, cL_place, 5, (some Jvm.ClassFile.FieldType.int), [(0, 10, 13, 24)], false)
theorem ws_L_place : ∀ w ∈ wsM yL_place mL_place, w ∈ gw := List.forall_mem_cons.mpr ⟨gw_at 1196 (by decide +kernel) (by decide +kernel), fun _ h => h⟩
theorem kb_L_41 : KB RL 41 yX10_place mX10_place 2 := ⟨gw_at 1197 (by decide +kernel) (by decide +kernel), gw_at 107 (by decide +kernel) (by decide +kernel), trivial, ws_X10_place, by decide +kernel, by decide +kernel, by decide +kernel, by decide⟩
theorem ki_X10_place : Cond.instanceMethod yX10_place ∈ gw ∧ Cond.selects yX10_place.cls yX10_place yX10_place ∈ gw := ⟨gw_at 1198 (by decide +kernel) (by decide +kernel), gw_at 1199 (by decide +kernel) (by decide +kernel)⟩
def f_Lw_place_b0   (h : Hp) (x0 : Nat) (x1 : Int32) (x2 : Int32) (x3 : Nat)  : Option (Int32 × Hp) :=
if hS h x0 = 10 then (
bC (f_Water_place h x0 x1 x2) (fun v2 h3 =>
if hS h3 x3 = 22 then (
if ib (0 : Int32) (hL h3 x3) = true then (
wr (sJ h3 x3 (ix (0 : Int32)) (Int32.toInt64 v2)) fun h7 =>
some ((0 : Int32), h7)
) else none) else none
) (fun x_ h3 =>
if x_ = 1 then (
some ((1 : Int32), h3)

) else (
none))
) else none
set_option maxRecDepth 20000 in
set_option maxHeartbeats 4000000 in
theorem f_Lw_place_b0_ok {l : Launch} {X : Nat × (Nat → Int32)} (hst : l.stackTraces = false) {d : Nat} (hd : 4 ≤ d)     {h : Hp} {x0 : Nat} {x1 : Int32} {x2 : Int32} {x3 : Nat}  {r : Int32 × Hp} (E : f_Lw_place_b0   h x0 x1 x2 x3 = some r) : Rn l X mL_place d 0 [(0, .ref x0), (1, .int x1), (2, .int x2), (3, .ref x3)] [] h (eI r) r.2 := by
  unfold f_Lw_place_b0 at E
  refine Rn.aload_n (pc' := 1) dL_place_0 rfl 3 rfl rfl ?_
  refine Rn.iconst (pc' := 2) (v := (0 : Int32)) (hv := by decide) dL_place_1 rfl ?_
  refine Rn.aload_n (pc' := 3) dL_place_2 rfl 0 rfl rfl ?_
  refine Rn.iload_n (pc' := 4) dL_place_3 rfl 1 rfl rfl ?_
  refine Rn.iload_n (pc' := 5) dL_place_4 rfl 2 rfl rfl ?_
  obtain ⟨g1, E⟩ := gd_of E
  rcases bC_of E with ⟨v2, h3, e4, E⟩ | ⟨x_, h3, e4, E⟩
  · refine Rn.callV1 (pc' := 8) (As := [.int x1, .int x2]) (rest := [.int (0 : Int32), .ref x3]) (f_Water_place_ok hst e4) (Nat.le_trans (by decide) hd) rfl kb_L_41 ki_X10_place rfl g1 rfl rfl (Nat.le_of_ble_eq_true rfl) dL_place_5 rfl rfl ?_
    refine Rn.i2l (pc' := 9) dL_place_8 rfl ?_
    obtain ⟨g5, E⟩ := gd_of E
    obtain ⟨g6, E⟩ := gd_of E
    refine Rn.last (pc' := 10) g5 g6 dL_place_9 rfl ?_
    replace E := wr_of E
    generalize eh8 : sJ h3 x3 (ix (0 : Int32)) (Int32.toInt64 v2) = h7 at E ⊢
    refine Rn.goto (pc' := 17) dL_place_10 (by decide) ?_
    refine Rn.iconst (pc' := 18) (v := (0 : Int32)) (hv := by decide) dL_place_17 rfl ?_
    cases E
    exact Rn.zret rfl rfl dL_place_18
  · refine Rn.callVX (As := [.int x1, .int x2]) (rest := [.int (0 : Int32), .ref x3]) (f_Water_place_ok hst e4) (Nat.le_trans (by decide) hd) rfl kb_L_41 ki_X10_place rfl g1 rfl rfl (Nat.le_of_ble_eq_true rfl) dL_place_5 ?_
    by_cases c9 : x_ = 1
    · replace E := (if_of E).1 c9
      subst c9
      refine RnX.catch (x := 1) (i := 4) (pch := 15) 0 rfl (pre0) (by decide) (by decide) kk_L_24 (by decide) (Or.inr ⟨dL_place_13, rfl⟩) (by decide) ?_
      change Rn _ _ _ _ _ [(0, .ref x0), (1, .int x1), (2, .int x2), (3, .ref x3)] _ _ _ _
      refine Rn.iconst (pc' := 16) (v := (1 : Int32)) (hv := by decide) dL_place_15 rfl ?_
      cases E
      exact Rn.zret rfl rfl dL_place_16
    replace E := (if_of E).2 c9
    cases E
def f_Lw_place (h : Hp) (x0 : Nat) (x1 : Int32) (x2 : Int32) (x3 : Nat) : Option (Int32 × Hp) := f_Lw_place_b0  h x0 x1 x2 x3
theorem f_Lw_place_ok {l : Launch} {X : Nat × (Nat → Int32)} (hst : l.stackTraces = false) {h : Hp} {x0 : Nat} {x1 : Int32} {x2 : Int32} {x3 : Nat} {r : Int32 × Hp} (E : f_Lw_place h x0 x1 x2 x3 = some r) : MC l X yL_place mL_place 4 [.ref x0, .int x1, .int x2, .ref x3] h (eI r) r.2 :=
  MC.body (by decide +kernel) rfl (by decide) hst (Nat.le_of_ble_eq_true rfl) (f_Lw_place_b0_ok hst (Nat.le_refl _) E)
abbrev mX11_place : MI := (RX11, cX11_place, 3, (some Jvm.ClassFile.FieldType.int), [], false)
theorem ws_X11_place : ∀ w ∈ wsM yX11_place mX11_place, w ∈ gw := List.forall_mem_cons.mpr ⟨gw_at 1746 (by decide +kernel) (by decide +kernel), fun _ h => h⟩
def f_Model_place_b26   (h : Hp) (x0 : Nat) (x1 : Int32) (x2 : Int32) (s0 : Nat) (s1 : Int32) : Option (Int32 × Hp) :=
if hS h s0 = 11 then (
bI (f_Model_throwsIf h s0 s1 (1 : Int32)) fun v2 h3 =>
if v2 = 0 then (
if hS h3 x0 = 11 then (
bI (f_Model_placeOf h3 x0 x1 x2) fun v7 h8 =>
some (v7, h8)
) else none
) else (
some ((0 : Int32), h3)

)
) else none
set_option maxRecDepth 20000 in
set_option maxHeartbeats 4000000 in
theorem f_Model_place_b26_ok {l : Launch} {X : Nat × (Nat → Int32)} (hst : l.stackTraces = false) {d : Nat} (hd : 5 ≤ d)     {h : Hp} {x0 : Nat} {x1 : Int32} {x2 : Int32} {s0 : Nat} {s1 : Int32} {r : Int32 × Hp} (E : f_Model_place_b26   h x0 x1 x2 s0 s1 = some r) : Rn l X mX11_place d 26 [(0, .ref x0), (1, .int x1), (2, .int x2)] [.int s1, .ref s0] h (eI r) r.2 := by
  unfold f_Model_place_b26 at E
  refine Rn.iconst (pc' := 27) (v := (1 : Int32)) (hv := by decide) dX11_place_26 rfl ?_
  obtain ⟨g1, E⟩ := gd_of E
  obtain ⟨v2, h3, e4, E⟩ := bI_of E
  refine Rn.callV1 (pc' := 30) (As := [.int s1, .int (1 : Int32)]) (rest := []) (f_Model_throwsIf_ok hst e4) (Nat.le_trans (by decide) hd) rfl kb_X11_265 ki_X11_throwsIf rfl g1 rfl rfl (Nat.le_of_ble_eq_true rfl) dX11_place_27 rfl rfl ?_
  refine Rn.if_eq (pc' := 33) (tgt := 37) dX11_place_30 (by decide) rfl (fun c5 => ?_) (fun c5 => ?_)
  · replace E := (if_of E).1 c5
    refine Rn.aload_n (pc' := 38) dX11_place_37 rfl 0 rfl rfl ?_
    refine Rn.iload_n (pc' := 39) dX11_place_38 rfl 1 rfl rfl ?_
    refine Rn.iload_n (pc' := 40) dX11_place_39 rfl 2 rfl rfl ?_
    obtain ⟨g6, E⟩ := gd_of E
    obtain ⟨v7, h8, e9, E⟩ := bI_of E
    refine Rn.callV1 (pc' := 43) (As := [.int x1, .int x2]) (rest := []) (f_Model_placeOf_ok hst e9) (Nat.le_trans (by decide) hd) rfl kb_X11_281 ki_X11_placeOf rfl g6 rfl rfl (Nat.le_of_ble_eq_true rfl) dX11_place_40 rfl rfl ?_
    cases E
    exact Rn.zret rfl rfl dX11_place_43
  · replace E := (if_of E).2 c5
    refine Rn.iconst (pc' := 34) (v := (0 : Int32)) (hv := by decide) dX11_place_33 rfl ?_
    refine Rn.goto (pc' := 43) dX11_place_34 (by decide) ?_
    cases E
    exact Rn.zret rfl rfl dX11_place_43
def f_Model_place_b21   (h : Hp) (x0 : Nat) (x1 : Int32) (x2 : Int32) (s0 : Nat) : Option (Int32 × Hp) :=
f_Model_place_b26   h x0 x1 x2 s0 (1 : Int32)

set_option maxRecDepth 20000 in
set_option maxHeartbeats 4000000 in
theorem f_Model_place_b21_ok {l : Launch} {X : Nat × (Nat → Int32)} (hst : l.stackTraces = false) {d : Nat} (hd : 5 ≤ d)     {h : Hp} {x0 : Nat} {x1 : Int32} {x2 : Int32} {s0 : Nat} {r : Int32 × Hp} (E : f_Model_place_b21   h x0 x1 x2 s0 = some r) : Rn l X mX11_place d 21 [(0, .ref x0), (1, .int x1), (2, .int x2)] [.ref s0] h (eI r) r.2 := by
  unfold f_Model_place_b21 at E
  refine Rn.iconst (pc' := 22) (v := (1 : Int32)) (hv := by decide) dX11_place_21 rfl ?_
  refine Rn.goto (pc' := 26) dX11_place_22 (by decide) ?_
  exact f_Model_place_b26_ok hst hd   E
def f_Model_place_b0   (h : Hp) (x0 : Nat) (x1 : Int32) (x2 : Int32)  : Option (Int32 × Hp) :=
if hS h x0 = 11 then (
wr (sI h x0 0 (0 : Int32)) fun h2 =>
bI (f_Model_noCistern h2 x0 x1) fun v4 h5 =>
if v4 = 0 then (
bI (f_Model_noYear h5 x2) fun v8 h9 =>
if v8 = 0 then (
f_Model_place_b26   h9 x0 x1 x2 x0 (0 : Int32)

) else (
f_Model_place_b21   h9 x0 x1 x2 x0

)

) else (
f_Model_place_b21   h5 x0 x1 x2 x0

)
) else none
set_option maxRecDepth 20000 in
set_option maxHeartbeats 4000000 in
theorem f_Model_place_b0_ok {l : Launch} {X : Nat × (Nat → Int32)} (hst : l.stackTraces = false) {d : Nat} (hd : 5 ≤ d)     {h : Hp} {x0 : Nat} {x1 : Int32} {x2 : Int32}  {r : Int32 × Hp} (E : f_Model_place_b0   h x0 x1 x2 = some r) : Rn l X mX11_place d 0 [(0, .ref x0), (1, .int x1), (2, .int x2)] [] h (eI r) r.2 := by
  unfold f_Model_place_b0 at E
  refine Rn.aload_n (pc' := 1) dX11_place_0 rfl 0 rfl rfl ?_
  refine Rn.iconst (pc' := 2) (v := (0 : Int32)) (hv := by decide) dX11_place_1 rfl ?_
  obtain ⟨g1, E⟩ := gd_of E
  refine Rn.putI (pc' := 5) fl_X11_3_10 (fun q hq => by cases hq; decide) g1 rfl rfl rfl dX11_place_2 rfl ?_
  replace E := wr_of E
  generalize eh3 : sI h x0 0 (0 : Int32) = h2 at E ⊢
  refine Rn.aload_n (pc' := 6) dX11_place_5 rfl 0 rfl rfl ?_
  refine Rn.aload_n (pc' := 7) dX11_place_6 rfl 0 rfl rfl ?_
  refine Rn.iload_n (pc' := 8) dX11_place_7 rfl 1 rfl rfl ?_
  obtain ⟨v4, h5, e6, E⟩ := bI_of E
  refine Rn.callV1 (pc' := 11) (As := [.int x1]) (rest := [.ref x0]) (f_Model_noCistern_ok hst e6) (Nat.le_trans (by decide) hd) rfl kb_X11_284 ki_X11_noCistern rfl (kp_sI eh3 g1) rfl rfl (Nat.le_of_ble_eq_true rfl) dX11_place_8 rfl rfl ?_
  refine Rn.if_ne (pc' := 14) (tgt := 21) dX11_place_11 (by decide) rfl (fun c7 => ?_) (fun c7 => ?_)
  · replace E := (if_of E).2 c7
    exact f_Model_place_b21_ok hst hd   E
  · replace E := (if_of E).1 c7
    refine Rn.iload_n (pc' := 15) dX11_place_14 rfl 2 rfl rfl ?_
    obtain ⟨v8, h9, e10, E⟩ := bI_of E
    refine Rn.callS1 (pc' := 18) (As := [.int x2]) (rest := [.ref x0]) (f_Model_noYear_ok hst e10) (Nat.le_trans (by decide) hd) rfl kb_X11_290 ks_X11_noYear rfl rfl (Nat.le_of_ble_eq_true rfl) dX11_place_15 rfl rfl ?_
    refine Rn.if_eq (pc' := 21) (tgt := 25) dX11_place_18 (by decide) rfl (fun c11 => ?_) (fun c11 => ?_)
    · replace E := (if_of E).1 c11
      refine Rn.iconst (pc' := 26) (v := (0 : Int32)) (hv := by decide) dX11_place_25 rfl ?_
      exact f_Model_place_b26_ok hst hd   E
    · replace E := (if_of E).2 c11
      exact f_Model_place_b21_ok hst hd   E
def f_Model_place (h : Hp) (x0 : Nat) (x1 : Int32) (x2 : Int32) : Option (Int32 × Hp) := f_Model_place_b0  h x0 x1 x2
theorem f_Model_place_ok {l : Launch} {X : Nat × (Nat → Int32)} (hst : l.stackTraces = false) {h : Hp} {x0 : Nat} {x1 : Int32} {x2 : Int32} {r : Int32 × Hp} (E : f_Model_place h x0 x1 x2 = some r) : MC l X yX11_place mX11_place 5 [.ref x0, .int x1, .int x2] h (eI r) r.2 :=
  MC.body (by decide +kernel) rfl (by decide) hst (Nat.le_of_ble_eq_true rfl) (f_Model_place_b0_ok hst (Nat.le_refl _) E)
abbrev mX10_drank : MI := (RX10, cX10_drank, 3, (some Jvm.ClassFile.FieldType.int), [], false)
theorem ws_X10_drank : ∀ w ∈ wsM yX10_drank mX10_drank, w ∈ gw := List.forall_mem_cons.mpr ⟨gw_at 1193 (by decide +kernel) (by decide +kernel), fun _ h => h⟩
def f_Water_drank_b0   (h : Hp) (x0 : Nat) (x1 : Int32) (x2 : Int32)  : Option ((Int32 ⊕ Nat) × Hp) :=
if hS h x0 = 10 then (
bX (f_Water_needHouse h x0 x1) fun _ h3 =>
if hS h3 x0 = 10 then (
bX (f_Water_needYear h3 x0 x2) fun _ h7 =>
if hS h7 x0 = 10 then (
if hS h7 (hR h7 x0 4) = 4 then (
if hS h7 (hR h7 (hR h7 x0 4) 4) = 24 then (
if ib x1 (hL h7 (hR h7 (hR h7 x0 4) 4)) = true then (
if hS h7 (hR h7 (hR h7 (hR h7 x0 4) 4) (ix x1)) = 3 then (
if hS h7 (hR h7 (hR h7 (hR h7 (hR h7 x0 4) 4) (ix x1)) 5) = 20 then (
if ib x2 (hL h7 (hR h7 (hR h7 (hR h7 (hR h7 x0 4) 4) (ix x1)) 5)) = true then (
some (.inl (hI h7 (hR h7 (hR h7 (hR h7 (hR h7 x0 4) 4) (ix x1)) 5) (ix x2)), h7)
) else none) else none) else none) else none) else none) else none) else none) else none) else none
set_option maxRecDepth 20000 in
set_option maxHeartbeats 4000000 in
theorem f_Water_drank_b0_ok {l : Launch} {X : Nat × (Nat → Int32)} (hst : l.stackTraces = false) {d : Nat} (hd : 1 ≤ d)     {h : Hp} {x0 : Nat} {x1 : Int32} {x2 : Int32}  {r : (Int32 ⊕ Nat) × Hp} (E : f_Water_drank_b0   h x0 x1 x2 = some r) : Rn l X mX10_drank d 0 [(0, .ref x0), (1, .int x1), (2, .int x2)] [] h (xI r) r.2 := by
  unfold f_Water_drank_b0 at E
  refine Rn.aload_n (pc' := 1) dX10_drank_0 rfl 0 rfl rfl ?_
  refine Rn.iload_n (pc' := 2) dX10_drank_1 rfl 1 rfl rfl ?_
  obtain ⟨g1, E⟩ := gd_of E
  rcases bX_of E with ⟨u_, h3, e4, E⟩ | ⟨x_, h3, e4, rfl⟩
  rotate_left
  · exact Rn.callVX (As := [.int x1]) (rest := []) (f_Water_needHouse_ok hst e4) (Nat.le_trans (by decide) hd) rfl kb_X10_169 ki_X10_needHouse rfl g1 rfl rfl (Nat.le_of_ble_eq_true rfl) dX10_drank_2 (RnX.out (by decide))
  refine Rn.callV1 (pc' := 5) (As := [.int x1]) (rest := []) (f_Water_needHouse_ok hst e4) (Nat.le_trans (by decide) hd) rfl kb_X10_169 ki_X10_needHouse rfl g1 rfl rfl (Nat.le_of_ble_eq_true rfl) dX10_drank_2 rfl rfl ?_
  refine Rn.aload_n (pc' := 6) dX10_drank_5 rfl 0 rfl rfl ?_
  refine Rn.iload_n (pc' := 7) dX10_drank_6 rfl 2 rfl rfl ?_
  obtain ⟨g5, E⟩ := gd_of E
  rcases bX_of E with ⟨u_, h7, e8, E⟩ | ⟨x_, h7, e8, rfl⟩
  rotate_left
  · exact Rn.callVX (As := [.int x2]) (rest := []) (f_Water_needYear_ok hst e8) (Nat.le_trans (by decide) hd) rfl kb_X10_160 ki_X10_needYear rfl g5 rfl rfl (Nat.le_of_ble_eq_true rfl) dX10_drank_7 (RnX.out (by decide))
  refine Rn.callV1 (pc' := 10) (As := [.int x2]) (rest := []) (f_Water_needYear_ok hst e8) (Nat.le_trans (by decide) hd) rfl kb_X10_160 ki_X10_needYear rfl g5 rfl rfl (Nat.le_of_ble_eq_true rfl) dX10_drank_7 rfl rfl ?_
  refine Rn.aload_n (pc' := 11) dX10_drank_10 rfl 0 rfl rfl ?_
  obtain ⟨g9, E⟩ := gd_of E
  refine Rn.getR (pc' := 14) fl_X10_42_9 g9 rfl dX10_drank_11 rfl ?_
  obtain ⟨g10, E⟩ := gd_of E
  refine Rn.getR (pc' := 17) fl_X10_172_3 g10 rfl dX10_drank_14 rfl ?_
  refine Rn.iload_n (pc' := 18) dX10_drank_17 rfl 1 rfl rfl ?_
  obtain ⟨g11, E⟩ := gd_of E
  obtain ⟨g12, E⟩ := gd_of E
  refine Rn.aald (pc' := 19) g11 (by decide) (by decide) g12 dX10_drank_18 rfl ?_
  obtain ⟨g13, E⟩ := gd_of E
  refine Rn.getR (pc' := 22) fl_X10_196_2 g13 rfl dX10_drank_19 rfl ?_
  refine Rn.iload_n (pc' := 23) dX10_drank_22 rfl 2 rfl rfl ?_
  obtain ⟨g14, E⟩ := gd_of E
  obtain ⟨g15, E⟩ := gd_of E
  refine Rn.iald (pc' := 24) g14 g15 dX10_drank_23 rfl ?_
  cases E
  exact Rn.zret rfl rfl dX10_drank_24
def f_Water_drank (h : Hp) (x0 : Nat) (x1 : Int32) (x2 : Int32) : Option ((Int32 ⊕ Nat) × Hp) := f_Water_drank_b0  h x0 x1 x2
theorem f_Water_drank_ok {l : Launch} {X : Nat × (Nat → Int32)} (hst : l.stackTraces = false) {h : Hp} {x0 : Nat} {x1 : Int32} {x2 : Int32} {r : (Int32 ⊕ Nat) × Hp} (E : f_Water_drank h x0 x1 x2 = some r) : MC l X yX10_drank mX10_drank 1 [.ref x0, .int x1, .int x2] h (xI r) r.2 :=
  MC.body (by decide +kernel) rfl (by decide) hst (Nat.le_of_ble_eq_true rfl) (f_Water_drank_b0_ok hst (Nat.le_refl _) E)
abbrev mL_drank : MI := (RL, cL_drank, 5, (some Jvm.ClassFile.FieldType.int), [(0, 10, 13, 24)], false)
theorem ws_L_drank : ∀ w ∈ wsM yL_drank mL_drank, w ∈ gw := List.forall_mem_cons.mpr ⟨gw_at 1189 (by decide +kernel) (by decide +kernel), fun _ h => h⟩
theorem kb_L_38 : KB RL 38 yX10_drank mX10_drank 2 := ⟨gw_at 1190 (by decide +kernel) (by decide +kernel), gw_at 107 (by decide +kernel) (by decide +kernel), trivial, ws_X10_drank, by decide +kernel, by decide +kernel, by decide +kernel, by decide⟩
theorem ki_X10_drank : Cond.instanceMethod yX10_drank ∈ gw ∧ Cond.selects yX10_drank.cls yX10_drank yX10_drank ∈ gw := ⟨gw_at 1191 (by decide +kernel) (by decide +kernel), gw_at 1192 (by decide +kernel) (by decide +kernel)⟩
def f_Lw_drank_b0   (h : Hp) (x0 : Nat) (x1 : Int32) (x2 : Int32) (x3 : Nat)  : Option (Int32 × Hp) :=
if hS h x0 = 10 then (
bC (f_Water_drank h x0 x1 x2) (fun v2 h3 =>
if hS h3 x3 = 22 then (
if ib (0 : Int32) (hL h3 x3) = true then (
wr (sJ h3 x3 (ix (0 : Int32)) (Int32.toInt64 v2)) fun h7 =>
some ((0 : Int32), h7)
) else none) else none
) (fun x_ h3 =>
if x_ = 1 then (
some ((1 : Int32), h3)

) else (
none))
) else none
set_option maxRecDepth 20000 in
set_option maxHeartbeats 4000000 in
theorem f_Lw_drank_b0_ok {l : Launch} {X : Nat × (Nat → Int32)} (hst : l.stackTraces = false) {d : Nat} (hd : 2 ≤ d)     {h : Hp} {x0 : Nat} {x1 : Int32} {x2 : Int32} {x3 : Nat}  {r : Int32 × Hp} (E : f_Lw_drank_b0   h x0 x1 x2 x3 = some r) : Rn l X mL_drank d 0 [(0, .ref x0), (1, .int x1), (2, .int x2), (3, .ref x3)] [] h (eI r) r.2 := by
  unfold f_Lw_drank_b0 at E
  refine Rn.aload_n (pc' := 1) dL_drank_0 rfl 3 rfl rfl ?_
  refine Rn.iconst (pc' := 2) (v := (0 : Int32)) (hv := by decide) dL_drank_1 rfl ?_
  refine Rn.aload_n (pc' := 3) dL_drank_2 rfl 0 rfl rfl ?_
  refine Rn.iload_n (pc' := 4) dL_drank_3 rfl 1 rfl rfl ?_
  refine Rn.iload_n (pc' := 5) dL_drank_4 rfl 2 rfl rfl ?_
  obtain ⟨g1, E⟩ := gd_of E
  rcases bC_of E with ⟨v2, h3, e4, E⟩ | ⟨x_, h3, e4, E⟩
  · refine Rn.callV1 (pc' := 8) (As := [.int x1, .int x2]) (rest := [.int (0 : Int32), .ref x3]) (f_Water_drank_ok hst e4) (Nat.le_trans (by decide) hd) rfl kb_L_38 ki_X10_drank rfl g1 rfl rfl (Nat.le_of_ble_eq_true rfl) dL_drank_5 rfl rfl ?_
    refine Rn.i2l (pc' := 9) dL_drank_8 rfl ?_
    obtain ⟨g5, E⟩ := gd_of E
    obtain ⟨g6, E⟩ := gd_of E
    refine Rn.last (pc' := 10) g5 g6 dL_drank_9 rfl ?_
    replace E := wr_of E
    generalize eh8 : sJ h3 x3 (ix (0 : Int32)) (Int32.toInt64 v2) = h7 at E ⊢
    refine Rn.goto (pc' := 17) dL_drank_10 (by decide) ?_
    refine Rn.iconst (pc' := 18) (v := (0 : Int32)) (hv := by decide) dL_drank_17 rfl ?_
    cases E
    exact Rn.zret rfl rfl dL_drank_18
  · refine Rn.callVX (As := [.int x1, .int x2]) (rest := [.int (0 : Int32), .ref x3]) (f_Water_drank_ok hst e4) (Nat.le_trans (by decide) hd) rfl kb_L_38 ki_X10_drank rfl g1 rfl rfl (Nat.le_of_ble_eq_true rfl) dL_drank_5 ?_
    by_cases c9 : x_ = 1
    · replace E := (if_of E).1 c9
      subst c9
      refine RnX.catch (x := 1) (i := 4) (pch := 15) 0 rfl (pre0) (by decide) (by decide) kk_L_24 (by decide) (Or.inr ⟨dL_drank_13, rfl⟩) (by decide) ?_
      change Rn _ _ _ _ _ [(0, .ref x0), (1, .int x1), (2, .int x2), (3, .ref x3)] _ _ _ _
      refine Rn.iconst (pc' := 16) (v := (1 : Int32)) (hv := by decide) dL_drank_15 rfl ?_
      cases E
      exact Rn.zret rfl rfl dL_drank_16
    replace E := (if_of E).2 c9
    cases E
def f_Lw_drank (h : Hp) (x0 : Nat) (x1 : Int32) (x2 : Int32) (x3 : Nat) : Option (Int32 × Hp) := f_Lw_drank_b0  h x0 x1 x2 x3
theorem f_Lw_drank_ok {l : Launch} {X : Nat × (Nat → Int32)} (hst : l.stackTraces = false) {h : Hp} {x0 : Nat} {x1 : Int32} {x2 : Int32} {x3 : Nat} {r : Int32 × Hp} (E : f_Lw_drank h x0 x1 x2 x3 = some r) : MC l X yL_drank mL_drank 2 [.ref x0, .int x1, .int x2, .ref x3] h (eI r) r.2 :=
  MC.body (by decide +kernel) rfl (by decide) hst (Nat.le_of_ble_eq_true rfl) (f_Lw_drank_b0_ok hst (Nat.le_refl _) E)
abbrev mX11_drank : MI := (RX11, cX11_drank, 3, (some Jvm.ClassFile.FieldType.int), [], false)
theorem ws_X11_drank : ∀ w ∈ wsM yX11_drank mX11_drank, w ∈ gw := List.forall_mem_cons.mpr ⟨gw_at 1742 (by decide +kernel) (by decide +kernel), fun _ h => h⟩
def f_Model_drank_b26   (h : Hp) (x0 : Nat) (x1 : Int32) (x2 : Int32) (s0 : Nat) (s1 : Int32) : Option (Int32 × Hp) :=
if hS h s0 = 11 then (
bI (f_Model_throwsIf h s0 s1 (1 : Int32)) fun v2 h3 =>
if v2 = 0 then (
if hS h3 x0 = 11 then (
bI (f_Model_ofHouse h3 x0 x1 ((4 : Int32) + x2)) fun v7 h8 =>
some (v7, h8)
) else none
) else (
some ((0 : Int32), h3)

)
) else none
set_option maxRecDepth 20000 in
set_option maxHeartbeats 4000000 in
theorem f_Model_drank_b26_ok {l : Launch} {X : Nat × (Nat → Int32)} (hst : l.stackTraces = false) {d : Nat} (hd : 2 ≤ d)     {h : Hp} {x0 : Nat} {x1 : Int32} {x2 : Int32} {s0 : Nat} {s1 : Int32} {r : Int32 × Hp} (E : f_Model_drank_b26   h x0 x1 x2 s0 s1 = some r) : Rn l X mX11_drank d 26 [(0, .ref x0), (1, .int x1), (2, .int x2)] [.int s1, .ref s0] h (eI r) r.2 := by
  unfold f_Model_drank_b26 at E
  refine Rn.iconst (pc' := 27) (v := (1 : Int32)) (hv := by decide) dX11_drank_26 rfl ?_
  obtain ⟨g1, E⟩ := gd_of E
  obtain ⟨v2, h3, e4, E⟩ := bI_of E
  refine Rn.callV1 (pc' := 30) (As := [.int s1, .int (1 : Int32)]) (rest := []) (f_Model_throwsIf_ok hst e4) (Nat.le_trans (by decide) hd) rfl kb_X11_265 ki_X11_throwsIf rfl g1 rfl rfl (Nat.le_of_ble_eq_true rfl) dX11_drank_27 rfl rfl ?_
  refine Rn.if_eq (pc' := 33) (tgt := 37) dX11_drank_30 (by decide) rfl (fun c5 => ?_) (fun c5 => ?_)
  · replace E := (if_of E).1 c5
    refine Rn.aload_n (pc' := 38) dX11_drank_37 rfl 0 rfl rfl ?_
    refine Rn.iload_n (pc' := 39) dX11_drank_38 rfl 1 rfl rfl ?_
    refine Rn.iconst (pc' := 40) (v := (4 : Int32)) (hv := by decide) dX11_drank_39 rfl ?_
    refine Rn.iload_n (pc' := 41) dX11_drank_40 rfl 2 rfl rfl ?_
    refine Rn.iadd (pc' := 42) dX11_drank_41 rfl ?_
    obtain ⟨g6, E⟩ := gd_of E
    obtain ⟨v7, h8, e9, E⟩ := bI_of E
    refine Rn.callV1 (pc' := 45) (As := [.int x1, .int ((4 : Int32) + x2)]) (rest := []) (f_Model_ofHouse_ok hst e9) (Nat.le_trans (by decide) hd) rfl kb_X11_151 ki_X11_ofHouse rfl g6 rfl rfl (Nat.le_of_ble_eq_true rfl) dX11_drank_42 rfl rfl ?_
    cases E
    exact Rn.zret rfl rfl dX11_drank_45
  · replace E := (if_of E).2 c5
    refine Rn.iconst (pc' := 34) (v := (0 : Int32)) (hv := by decide) dX11_drank_33 rfl ?_
    refine Rn.goto (pc' := 45) dX11_drank_34 (by decide) ?_
    cases E
    exact Rn.zret rfl rfl dX11_drank_45
def f_Model_drank_b21   (h : Hp) (x0 : Nat) (x1 : Int32) (x2 : Int32) (s0 : Nat) : Option (Int32 × Hp) :=
f_Model_drank_b26   h x0 x1 x2 s0 (1 : Int32)

set_option maxRecDepth 20000 in
set_option maxHeartbeats 4000000 in
theorem f_Model_drank_b21_ok {l : Launch} {X : Nat × (Nat → Int32)} (hst : l.stackTraces = false) {d : Nat} (hd : 2 ≤ d)     {h : Hp} {x0 : Nat} {x1 : Int32} {x2 : Int32} {s0 : Nat} {r : Int32 × Hp} (E : f_Model_drank_b21   h x0 x1 x2 s0 = some r) : Rn l X mX11_drank d 21 [(0, .ref x0), (1, .int x1), (2, .int x2)] [.ref s0] h (eI r) r.2 := by
  unfold f_Model_drank_b21 at E
  refine Rn.iconst (pc' := 22) (v := (1 : Int32)) (hv := by decide) dX11_drank_21 rfl ?_
  refine Rn.goto (pc' := 26) dX11_drank_22 (by decide) ?_
  exact f_Model_drank_b26_ok hst hd   E
def f_Model_drank_b0   (h : Hp) (x0 : Nat) (x1 : Int32) (x2 : Int32)  : Option (Int32 × Hp) :=
if hS h x0 = 11 then (
wr (sI h x0 0 (0 : Int32)) fun h2 =>
bI (f_Model_noHouse h2 x0 x1) fun v4 h5 =>
if v4 = 0 then (
bI (f_Model_noYear h5 x2) fun v8 h9 =>
if v8 = 0 then (
f_Model_drank_b26   h9 x0 x1 x2 x0 (0 : Int32)

) else (
f_Model_drank_b21   h9 x0 x1 x2 x0

)

) else (
f_Model_drank_b21   h5 x0 x1 x2 x0

)
) else none
set_option maxRecDepth 20000 in
set_option maxHeartbeats 4000000 in
theorem f_Model_drank_b0_ok {l : Launch} {X : Nat × (Nat → Int32)} (hst : l.stackTraces = false) {d : Nat} (hd : 2 ≤ d)     {h : Hp} {x0 : Nat} {x1 : Int32} {x2 : Int32}  {r : Int32 × Hp} (E : f_Model_drank_b0   h x0 x1 x2 = some r) : Rn l X mX11_drank d 0 [(0, .ref x0), (1, .int x1), (2, .int x2)] [] h (eI r) r.2 := by
  unfold f_Model_drank_b0 at E
  refine Rn.aload_n (pc' := 1) dX11_drank_0 rfl 0 rfl rfl ?_
  refine Rn.iconst (pc' := 2) (v := (0 : Int32)) (hv := by decide) dX11_drank_1 rfl ?_
  obtain ⟨g1, E⟩ := gd_of E
  refine Rn.putI (pc' := 5) fl_X11_3_10 (fun q hq => by cases hq; decide) g1 rfl rfl rfl dX11_drank_2 rfl ?_
  replace E := wr_of E
  generalize eh3 : sI h x0 0 (0 : Int32) = h2 at E ⊢
  refine Rn.aload_n (pc' := 6) dX11_drank_5 rfl 0 rfl rfl ?_
  refine Rn.aload_n (pc' := 7) dX11_drank_6 rfl 0 rfl rfl ?_
  refine Rn.iload_n (pc' := 8) dX11_drank_7 rfl 1 rfl rfl ?_
  obtain ⟨v4, h5, e6, E⟩ := bI_of E
  refine Rn.callV1 (pc' := 11) (As := [.int x1]) (rest := [.ref x0]) (f_Model_noHouse_ok hst e6) (Nat.le_trans (by decide) hd) rfl kb_X11_293 ki_X11_noHouse rfl (kp_sI eh3 g1) rfl rfl (Nat.le_of_ble_eq_true rfl) dX11_drank_8 rfl rfl ?_
  refine Rn.if_ne (pc' := 14) (tgt := 21) dX11_drank_11 (by decide) rfl (fun c7 => ?_) (fun c7 => ?_)
  · replace E := (if_of E).2 c7
    exact f_Model_drank_b21_ok hst hd   E
  · replace E := (if_of E).1 c7
    refine Rn.iload_n (pc' := 15) dX11_drank_14 rfl 2 rfl rfl ?_
    obtain ⟨v8, h9, e10, E⟩ := bI_of E
    refine Rn.callS1 (pc' := 18) (As := [.int x2]) (rest := [.ref x0]) (f_Model_noYear_ok hst e10) (Nat.le_trans (by decide) hd) rfl kb_X11_290 ks_X11_noYear rfl rfl (Nat.le_of_ble_eq_true rfl) dX11_drank_15 rfl rfl ?_
    refine Rn.if_eq (pc' := 21) (tgt := 25) dX11_drank_18 (by decide) rfl (fun c11 => ?_) (fun c11 => ?_)
    · replace E := (if_of E).1 c11
      refine Rn.iconst (pc' := 26) (v := (0 : Int32)) (hv := by decide) dX11_drank_25 rfl ?_
      exact f_Model_drank_b26_ok hst hd   E
    · replace E := (if_of E).2 c11
      exact f_Model_drank_b21_ok hst hd   E
def f_Model_drank (h : Hp) (x0 : Nat) (x1 : Int32) (x2 : Int32) : Option (Int32 × Hp) := f_Model_drank_b0  h x0 x1 x2
theorem f_Model_drank_ok {l : Launch} {X : Nat × (Nat → Int32)} (hst : l.stackTraces = false) {h : Hp} {x0 : Nat} {x1 : Int32} {x2 : Int32} {r : Int32 × Hp} (E : f_Model_drank h x0 x1 x2 = some r) : MC l X yX11_drank mX11_drank 2 [.ref x0, .int x1, .int x2] h (eI r) r.2 :=
  MC.body (by decide +kernel) rfl (by decide) hst (Nat.le_of_ble_eq_true rfl) (f_Model_drank_b0_ok hst (Nat.le_refl _) E)
abbrev mX10_house : MI := (RX10, cX10_house, 4, (some Jvm.ClassFile.FieldType.int), [], false)
theorem ws_X10_house : ∀ w ∈ wsM yX10_house mX10_house, w ∈ gw := List.forall_mem_cons.mpr ⟨gw_at 1179 (by decide +kernel) (by decide +kernel), fun _ h => h⟩
theorem fl_X10_176_2 : FL RX10 176 2 0 := ⟨_, rfl, by decide, "VintageWater$House", gw_at 311 (by decide +kernel) (by decide +kernel), Or.inl rfl⟩
theorem fl_X10_181_2 : FL RX10 181 2 1 := ⟨_, rfl, by decide, "VintageWater$House", gw_at 314 (by decide +kernel) (by decide +kernel), Or.inl rfl⟩
theorem fl_X10_184_2 : FL RX10 184 2 2 := ⟨_, rfl, by decide, "VintageWater$House", gw_at 317 (by decide +kernel) (by decide +kernel), Or.inl rfl⟩
theorem fl_X10_187_2 : FL RX10 187 2 3 := ⟨_, rfl, by decide, "VintageWater$House", gw_at 320 (by decide +kernel) (by decide +kernel), Or.inl rfl⟩
theorem kb_X10_190 : KB RX10 190 yX2_allDrunk mX2_allDrunk 0 := ⟨gw_at 1185 (by decide +kernel) (by decide +kernel), gw_at 115 (by decide +kernel) (by decide +kernel), trivial, ws_X2_allDrunk, by decide +kernel, by decide +kernel, by decide +kernel, by decide⟩
set_option maxRecDepth 20000 in
theorem kt_X10_155_159 : THX RX10 155 159 := ⟨⟨gw_at 1138 (by decide +kernel) (by decide +kernel), gw_at 132 (by decide +kernel) (by decide +kernel)⟩, by decide +kernel, by decide +kernel, by decide +kernel⟩
def f_Water_house_b0   (h : Hp) (x0 : Nat) (x1 : Int32) (x2 : Int32)  : Option ((Int32 ⊕ Nat) × Hp) :=
if hS h x0 = 10 then (
bX (f_Water_needHouse h x0 x1) fun _ h3 =>
if hS h3 x0 = 10 then (
if hS h3 (hR h3 x0 4) = 4 then (
if hS h3 (hR h3 (hR h3 x0 4) 4) = 24 then (
if ib x1 (hL h3 (hR h3 (hR h3 x0 4) 4)) = true then (
if x2 = (0 : Int32) then (
if hS h3 (hR h3 (hR h3 (hR h3 x0 4) 4) (ix x1)) = 3 then (
some (.inl (hI h3 (hR h3 (hR h3 (hR h3 x0 4) 4) (ix x1)) 0), h3)
) else none
) else (
if x2 = (1 : Int32) then (
if hS h3 (hR h3 (hR h3 (hR h3 x0 4) 4) (ix x1)) = 3 then (
some (.inl (hI h3 (hR h3 (hR h3 (hR h3 x0 4) 4) (ix x1)) 1), h3)
) else none
) else (
if x2 = (2 : Int32) then (
if hS h3 (hR h3 (hR h3 (hR h3 x0 4) 4) (ix x1)) = 3 then (
some (.inl (hI h3 (hR h3 (hR h3 (hR h3 x0 4) 4) (ix x1)) 2), h3)
) else none
) else (
if x2 = (3 : Int32) then (
if hS h3 (hR h3 (hR h3 (hR h3 x0 4) 4) (ix x1)) = 3 then (
some (.inl (hI h3 (hR h3 (hR h3 (hR h3 x0 4) 4) (ix x1)) 3), h3)
) else none
) else (
if x2 = (4 : Int32) then (
if hS h3 (hR h3 (hR h3 (hR h3 x0 4) 4) (ix x1)) = 3 then (
bI (f_House_allDrunk h3 (hR h3 (hR h3 (hR h3 x0 4) 4) (ix x1))) fun v21 h22 =>
some (.inl v21, h22)
) else none
) else (
some (.inr 4, hA h3 0 0 6)

)))))
) else none) else none) else none) else none) else none
set_option maxRecDepth 20000 in
set_option maxHeartbeats 4000000 in
theorem f_Water_house_b0_ok {l : Launch} {X : Nat × (Nat → Int32)} (hst : l.stackTraces = false) {d : Nat} (hd : 1 ≤ d)     {h : Hp} {x0 : Nat} {x1 : Int32} {x2 : Int32}  {r : (Int32 ⊕ Nat) × Hp} (E : f_Water_house_b0   h x0 x1 x2 = some r) : Rn l X mX10_house d 0 [(0, .ref x0), (1, .int x1), (2, .int x2)] [] h (xI r) r.2 := by
  unfold f_Water_house_b0 at E
  refine Rn.aload_n (pc' := 1) dX10_house_0 rfl 0 rfl rfl ?_
  refine Rn.iload_n (pc' := 2) dX10_house_1 rfl 1 rfl rfl ?_
  obtain ⟨g1, E⟩ := gd_of E
  rcases bX_of E with ⟨u_, h3, e4, E⟩ | ⟨x_, h3, e4, rfl⟩
  rotate_left
  · exact Rn.callVX (As := [.int x1]) (rest := []) (f_Water_needHouse_ok hst e4) (Nat.le_trans (by decide) hd) rfl kb_X10_169 ki_X10_needHouse rfl g1 rfl rfl (Nat.le_of_ble_eq_true rfl) dX10_house_2 (RnX.out (by decide))
  refine Rn.callV1 (pc' := 5) (As := [.int x1]) (rest := []) (f_Water_needHouse_ok hst e4) (Nat.le_trans (by decide) hd) rfl kb_X10_169 ki_X10_needHouse rfl g1 rfl rfl (Nat.le_of_ble_eq_true rfl) dX10_house_2 rfl rfl ?_
  refine Rn.aload_n (pc' := 6) dX10_house_5 rfl 0 rfl rfl ?_
  obtain ⟨g5, E⟩ := gd_of E
  refine Rn.getR (pc' := 9) fl_X10_42_9 g5 rfl dX10_house_6 rfl ?_
  obtain ⟨g6, E⟩ := gd_of E
  refine Rn.getR (pc' := 12) fl_X10_172_3 g6 rfl dX10_house_9 rfl ?_
  refine Rn.iload_n (pc' := 13) dX10_house_12 rfl 1 rfl rfl ?_
  obtain ⟨g7, E⟩ := gd_of E
  obtain ⟨g8, E⟩ := gd_of E
  refine Rn.aald (pc' := 14) g7 (by decide) (by decide) g8 dX10_house_13 rfl ?_
  refine Rn.astore_n (pc' := 15) (L' := [(3, .ref (hR h3 (hR h3 (hR h3 x0 4) 4) (ix x1))), (0, .ref x0), (1, .int x1), (2, .int x2)]) dX10_house_14 rfl (by decide) rfl rfl ?_
  refine Rn.iload_n (pc' := 16) dX10_house_15 rfl 3 rfl rfl ?_
  by_cases c11 : x2 = (0 : Int32)
  · replace E := (if_of E).1 c11
    skip
    refine Rn.tabIn (x := x2) (tgt := 52) dX10_house_16 (by rw [c11]; decide) (by rw [c11]; decide) (by rw [c11]; rfl) (by decide) ?_
    refine Rn.aload_n (pc' := 53) dX10_house_52 rfl 0 rfl rfl ?_
    obtain ⟨g12, E⟩ := gd_of E
    refine Rn.getI (pc' := 56) fl_X10_176_2 g12 rfl dX10_house_53 rfl ?_
    cases E
    exact Rn.zret rfl rfl dX10_house_56
  replace E := (if_of E).2 c11
  by_cases c13 : x2 = (1 : Int32)
  · replace E := (if_of E).1 c13
    skip
    refine Rn.tabIn (x := x2) (tgt := 57) dX10_house_16 (by rw [c13]; decide) (by rw [c13]; decide) (by rw [c13]; rfl) (by decide) ?_
    refine Rn.aload_n (pc' := 58) dX10_house_57 rfl 0 rfl rfl ?_
    obtain ⟨g14, E⟩ := gd_of E
    refine Rn.getI (pc' := 61) fl_X10_181_2 g14 rfl dX10_house_58 rfl ?_
    cases E
    exact Rn.zret rfl rfl dX10_house_61
  replace E := (if_of E).2 c13
  by_cases c15 : x2 = (2 : Int32)
  · replace E := (if_of E).1 c15
    skip
    refine Rn.tabIn (x := x2) (tgt := 62) dX10_house_16 (by rw [c15]; decide) (by rw [c15]; decide) (by rw [c15]; rfl) (by decide) ?_
    refine Rn.aload_n (pc' := 63) dX10_house_62 rfl 0 rfl rfl ?_
    obtain ⟨g16, E⟩ := gd_of E
    refine Rn.getI (pc' := 66) fl_X10_184_2 g16 rfl dX10_house_63 rfl ?_
    cases E
    exact Rn.zret rfl rfl dX10_house_66
  replace E := (if_of E).2 c15
  by_cases c17 : x2 = (3 : Int32)
  · replace E := (if_of E).1 c17
    skip
    refine Rn.tabIn (x := x2) (tgt := 67) dX10_house_16 (by rw [c17]; decide) (by rw [c17]; decide) (by rw [c17]; rfl) (by decide) ?_
    refine Rn.aload_n (pc' := 68) dX10_house_67 rfl 0 rfl rfl ?_
    obtain ⟨g18, E⟩ := gd_of E
    refine Rn.getI (pc' := 71) fl_X10_187_2 g18 rfl dX10_house_68 rfl ?_
    cases E
    exact Rn.zret rfl rfl dX10_house_71
  replace E := (if_of E).2 c17
  by_cases c19 : x2 = (4 : Int32)
  · replace E := (if_of E).1 c19
    skip
    refine Rn.tabIn (x := x2) (tgt := 72) dX10_house_16 (by rw [c19]; decide) (by rw [c19]; decide) (by rw [c19]; rfl) (by decide) ?_
    refine Rn.aload_n (pc' := 73) dX10_house_72 rfl 0 rfl rfl ?_
    obtain ⟨g20, E⟩ := gd_of E
    obtain ⟨v21, h22, e23, E⟩ := bI_of E
    refine Rn.callV1 (pc' := 76) (As := []) (rest := []) (f_House_allDrunk_ok hst e23) (Nat.le_trans (by decide) hd) rfl kb_X10_190 ki_X2_allDrunk rfl g20 rfl rfl (Nat.le_of_ble_eq_true rfl) dX10_house_73 rfl rfl ?_
    cases E
    exact Rn.zret rfl rfl dX10_house_76
  replace E := (if_of E).2 c19
  refine Rn.tabOut (x := x2) (tgt := 77) dX10_house_16 (tab_out fun z hz hq => ?_) (by decide) ?_
  · have hz2 : z = 0 ∨ z = 1 ∨ z = 2 ∨ z = 3 ∨ z = 4 := by omega
    rcases hz2 with rfl | rfl | rfl | rfl | rfl
    · exact c11 hz
    · exact c13 hz
    · exact c15 hz
    · exact c17 hz
    · exact c19 hz
  · cases E
    exact Rn.throwSX (i := 7) kt_X10_155_159 rfl rfl dX10_house_77 dX10_house_80 dX10_house_81 dX10_house_83 dX10_house_86 (Nat.le_of_ble_eq_true rfl)
def f_Water_house (h : Hp) (x0 : Nat) (x1 : Int32) (x2 : Int32) : Option ((Int32 ⊕ Nat) × Hp) := f_Water_house_b0  h x0 x1 x2
theorem f_Water_house_ok {l : Launch} {X : Nat × (Nat → Int32)} (hst : l.stackTraces = false) {h : Hp} {x0 : Nat} {x1 : Int32} {x2 : Int32} {r : (Int32 ⊕ Nat) × Hp} (E : f_Water_house h x0 x1 x2 = some r) : MC l X yX10_house mX10_house 1 [.ref x0, .int x1, .int x2] h (xI r) r.2 :=
  MC.body (by decide +kernel) rfl (by decide) hst (Nat.le_of_ble_eq_true rfl) (f_Water_house_b0_ok hst (Nat.le_refl _) E)
abbrev mL_house : MI := (RL, cL_house, 5, (some Jvm.ClassFile.FieldType.int), [(0, 10, 13, 24), (0, 10, 17, 26)], false)
theorem ws_L_house : ∀ w ∈ wsM yL_house mL_house, w ∈ gw := List.forall_mem_cons.mpr ⟨gw_at 1175 (by decide +kernel) (by decide +kernel), fun _ h => h⟩
theorem kb_L_35 : KB RL 35 yX10_house mX10_house 2 := ⟨gw_at 1176 (by decide +kernel) (by decide +kernel), gw_at 107 (by decide +kernel) (by decide +kernel), trivial, ws_X10_house, by decide +kernel, by decide +kernel, by decide +kernel, by decide⟩
theorem ki_X10_house : Cond.instanceMethod yX10_house ∈ gw ∧ Cond.selects yX10_house.cls yX10_house yX10_house ∈ gw := ⟨gw_at 1177 (by decide +kernel) (by decide +kernel), gw_at 1178 (by decide +kernel) (by decide +kernel)⟩
theorem kk_L_26 : Cond.classLink RL 26 "java/util/NoSuchElementException" ∈ gw := gw_at 1105 (by decide +kernel) (by decide +kernel)
def f_Lw_house_b0   (h : Hp) (x0 : Nat) (x1 : Int32) (x2 : Int32) (x3 : Nat)  : Option (Int32 × Hp) :=
if hS h x0 = 10 then (
bC (f_Water_house h x0 x1 x2) (fun v2 h3 =>
if hS h3 x3 = 22 then (
if ib (0 : Int32) (hL h3 x3) = true then (
wr (sJ h3 x3 (ix (0 : Int32)) (Int32.toInt64 v2)) fun h7 =>
some ((0 : Int32), h7)
) else none) else none
) (fun x_ h3 =>
if x_ = 1 then (
some ((1 : Int32), h3)

) else (
if x_ = 4 then (
some ((2 : Int32), h3)

) else (
none)))
) else none
set_option maxRecDepth 20000 in
set_option maxHeartbeats 4000000 in
theorem f_Lw_house_b0_ok {l : Launch} {X : Nat × (Nat → Int32)} (hst : l.stackTraces = false) {d : Nat} (hd : 2 ≤ d)     {h : Hp} {x0 : Nat} {x1 : Int32} {x2 : Int32} {x3 : Nat}  {r : Int32 × Hp} (E : f_Lw_house_b0   h x0 x1 x2 x3 = some r) : Rn l X mL_house d 0 [(0, .ref x0), (1, .int x1), (2, .int x2), (3, .ref x3)] [] h (eI r) r.2 := by
  unfold f_Lw_house_b0 at E
  refine Rn.aload_n (pc' := 1) dL_house_0 rfl 3 rfl rfl ?_
  refine Rn.iconst (pc' := 2) (v := (0 : Int32)) (hv := by decide) dL_house_1 rfl ?_
  refine Rn.aload_n (pc' := 3) dL_house_2 rfl 0 rfl rfl ?_
  refine Rn.iload_n (pc' := 4) dL_house_3 rfl 1 rfl rfl ?_
  refine Rn.iload_n (pc' := 5) dL_house_4 rfl 2 rfl rfl ?_
  obtain ⟨g1, E⟩ := gd_of E
  rcases bC_of E with ⟨v2, h3, e4, E⟩ | ⟨x_, h3, e4, E⟩
  · refine Rn.callV1 (pc' := 8) (As := [.int x1, .int x2]) (rest := [.int (0 : Int32), .ref x3]) (f_Water_house_ok hst e4) (Nat.le_trans (by decide) hd) rfl kb_L_35 ki_X10_house rfl g1 rfl rfl (Nat.le_of_ble_eq_true rfl) dL_house_5 rfl rfl ?_
    refine Rn.i2l (pc' := 9) dL_house_8 rfl ?_
    obtain ⟨g5, E⟩ := gd_of E
    obtain ⟨g6, E⟩ := gd_of E
    refine Rn.last (pc' := 10) g5 g6 dL_house_9 rfl ?_
    replace E := wr_of E
    generalize eh8 : sJ h3 x3 (ix (0 : Int32)) (Int32.toInt64 v2) = h7 at E ⊢
    refine Rn.goto (pc' := 21) dL_house_10 (by decide) ?_
    refine Rn.iconst (pc' := 22) (v := (0 : Int32)) (hv := by decide) dL_house_21 rfl ?_
    cases E
    exact Rn.zret rfl rfl dL_house_22
  · refine Rn.callVX (As := [.int x1, .int x2]) (rest := [.int (0 : Int32), .ref x3]) (f_Water_house_ok hst e4) (Nat.le_trans (by decide) hd) rfl kb_L_35 ki_X10_house rfl g1 rfl rfl (Nat.le_of_ble_eq_true rfl) dL_house_5 ?_
    by_cases c9 : x_ = 1
    · replace E := (if_of E).1 c9
      subst c9
      refine RnX.catch (x := 1) (i := 4) (pch := 15) 0 rfl (pre0) (by decide) (by decide) kk_L_24 (by decide) (Or.inr ⟨dL_house_13, rfl⟩) (by decide) ?_
      change Rn _ _ _ _ _ [(0, .ref x0), (1, .int x1), (2, .int x2), (3, .ref x3)] _ _ _ _
      refine Rn.iconst (pc' := 16) (v := (1 : Int32)) (hv := by decide) dL_house_15 rfl ?_
      cases E
      exact Rn.zret rfl rfl dL_house_16
    replace E := (if_of E).2 c9
    by_cases c10 : x_ = 4
    · replace E := (if_of E).1 c10
      subst c10
      refine RnX.catch (x := 4) (i := 4) (pch := 19) 1 rfl (pre1 (Or.inr ⟨by decide, _, kk_L_24, by decide⟩)) (by decide) (by decide) kk_L_26 (by decide) (Or.inr ⟨dL_house_17, rfl⟩) (by decide) ?_
      change Rn _ _ _ _ _ [(0, .ref x0), (1, .int x1), (2, .int x2), (3, .ref x3)] _ _ _ _
      refine Rn.iconst (pc' := 20) (v := (2 : Int32)) (hv := by decide) dL_house_19 rfl ?_
      cases E
      exact Rn.zret rfl rfl dL_house_20
    replace E := (if_of E).2 c10
    cases E
def f_Lw_house (h : Hp) (x0 : Nat) (x1 : Int32) (x2 : Int32) (x3 : Nat) : Option (Int32 × Hp) := f_Lw_house_b0  h x0 x1 x2 x3
theorem f_Lw_house_ok {l : Launch} {X : Nat × (Nat → Int32)} (hst : l.stackTraces = false) {h : Hp} {x0 : Nat} {x1 : Int32} {x2 : Int32} {x3 : Nat} {r : Int32 × Hp} (E : f_Lw_house h x0 x1 x2 x3 = some r) : MC l X yL_house mL_house 2 [.ref x0, .int x1, .int x2, .ref x3] h (eI r) r.2 :=
  MC.body (by decide +kernel) rfl (by decide) hst (Nat.le_of_ble_eq_true rfl) (f_Lw_house_b0_ok hst (Nat.le_refl _) E)
abbrev mX11_house : MI := (RX11, cX11_house, 3, (some Jvm.ClassFile.FieldType.int), [], false)
theorem ws_X11_house : ∀ w ∈ wsM yX11_house mX11_house, w ∈ gw := List.forall_mem_cons.mpr ⟨gw_at 1730 (by decide +kernel) (by decide +kernel), fun _ h => h⟩
def f_Model_house_b33   (h : Hp) (x0 : Nat) (x1 : Int32) (x2 : Int32) (s0 : Nat) (s1 : Int32) : Option (Int32 × Hp) :=
if hS h s0 = 11 then (
bI (f_Model_throwsIf h s0 s1 (2 : Int32)) fun v2 h3 =>
if v2 = 0 then (
if (4 : Int32) ≤ x2 then (
if hS h3 x0 = 11 then (
bI (f_Model_drunkBy h3 x0 x1) fun v8 h9 =>
some (v8, h9)
) else none
) else (
if hS h3 x0 = 11 then (
bI (f_Model_ofHouse h3 x0 x1 x2) fun v12 h13 =>
some (v12, h13)
) else none
)

) else (
some ((0 : Int32), h3)

)
) else none
set_option maxRecDepth 20000 in
set_option maxHeartbeats 4000000 in
theorem f_Model_house_b33_ok {l : Launch} {X : Nat × (Nat → Int32)} (hst : l.stackTraces = false) {d : Nat} (hd : 2 ≤ d)     {h : Hp} {x0 : Nat} {x1 : Int32} {x2 : Int32} {s0 : Nat} {s1 : Int32} {r : Int32 × Hp} (E : f_Model_house_b33   h x0 x1 x2 s0 s1 = some r) : Rn l X mX11_house d 33 [(0, .ref x0), (1, .int x1), (2, .int x2)] [.int s1, .ref s0] h (eI r) r.2 := by
  unfold f_Model_house_b33 at E
  refine Rn.iconst (pc' := 34) (v := (2 : Int32)) (hv := by decide) dX11_house_33 rfl ?_
  obtain ⟨g1, E⟩ := gd_of E
  obtain ⟨v2, h3, e4, E⟩ := bI_of E
  refine Rn.callV1 (pc' := 37) (As := [.int s1, .int (2 : Int32)]) (rest := []) (f_Model_throwsIf_ok hst e4) (Nat.le_trans (by decide) hd) rfl kb_X11_265 ki_X11_throwsIf rfl g1 rfl rfl (Nat.le_of_ble_eq_true rfl) dX11_house_34 rfl rfl ?_
  refine Rn.if_eq (pc' := 40) (tgt := 42) dX11_house_37 (by decide) rfl (fun c5 => ?_) (fun c5 => ?_)
  · replace E := (if_of E).1 c5
    refine Rn.iload_n (pc' := 43) dX11_house_42 rfl 2 rfl rfl ?_
    refine Rn.iconst (pc' := 44) (v := (4 : Int32)) (hv := by decide) dX11_house_43 rfl ?_
    refine Rn.icmp_ge (pc' := 47) (tgt := 56) dX11_house_44 (by decide) rfl (fun c6 => ?_) (fun c6 => ?_)
    · replace E := (if_of E).1 c6
      refine Rn.aload_n (pc' := 57) dX11_house_56 rfl 0 rfl rfl ?_
      refine Rn.iload_n (pc' := 58) dX11_house_57 rfl 1 rfl rfl ?_
      obtain ⟨g7, E⟩ := gd_of E
      obtain ⟨v8, h9, e10, E⟩ := bI_of E
      refine Rn.callV1 (pc' := 61) (As := [.int x1]) (rest := []) (f_Model_drunkBy_ok hst e10) (Nat.le_trans (by decide) hd) rfl kb_X11_296 ki_X11_drunkBy rfl g7 rfl rfl (Nat.le_of_ble_eq_true rfl) dX11_house_58 rfl rfl ?_
      cases E
      exact Rn.zret rfl rfl dX11_house_61
    · replace E := (if_of E).2 c6
      refine Rn.aload_n (pc' := 48) dX11_house_47 rfl 0 rfl rfl ?_
      refine Rn.iload_n (pc' := 49) dX11_house_48 rfl 1 rfl rfl ?_
      refine Rn.iload_n (pc' := 50) dX11_house_49 rfl 2 rfl rfl ?_
      obtain ⟨g11, E⟩ := gd_of E
      obtain ⟨v12, h13, e14, E⟩ := bI_of E
      refine Rn.callV1 (pc' := 53) (As := [.int x1, .int x2]) (rest := []) (f_Model_ofHouse_ok hst e14) (Nat.le_trans (by decide) hd) rfl kb_X11_151 ki_X11_ofHouse rfl g11 rfl rfl (Nat.le_of_ble_eq_true rfl) dX11_house_50 rfl rfl ?_
      refine Rn.goto (pc' := 61) dX11_house_53 (by decide) ?_
      cases E
      exact Rn.zret rfl rfl dX11_house_61
  · replace E := (if_of E).2 c5
    refine Rn.iconst (pc' := 41) (v := (0 : Int32)) (hv := by decide) dX11_house_40 rfl ?_
    cases E
    exact Rn.zret rfl rfl dX11_house_41
def f_Model_house_b0   (h : Hp) (x0 : Nat) (x1 : Int32) (x2 : Int32)  : Option (Int32 × Hp) :=
if hS h x0 = 11 then (
wr (sI h x0 0 (0 : Int32)) fun h2 =>
bI (f_Model_noHouse h2 x0 x1) fun v4 h5 =>
if hS h5 x0 = 11 then (
bI (f_Model_throwsIf h5 x0 v4 (1 : Int32)) fun v8 h9 =>
if v8 = 0 then (
bI (f_Model_in h9 x2 (0 : Int32) (4 : Int32)) fun v12 h13 =>
if v12 = 0 then (
f_Model_house_b33   h13 x0 x1 x2 x0 (1 : Int32)

) else (
f_Model_house_b33   h13 x0 x1 x2 x0 (0 : Int32)

)

) else (
some ((0 : Int32), h9)

)
) else none) else none
set_option maxRecDepth 20000 in
set_option maxHeartbeats 4000000 in
theorem f_Model_house_b0_ok {l : Launch} {X : Nat × (Nat → Int32)} (hst : l.stackTraces = false) {d : Nat} (hd : 2 ≤ d)     {h : Hp} {x0 : Nat} {x1 : Int32} {x2 : Int32}  {r : Int32 × Hp} (E : f_Model_house_b0   h x0 x1 x2 = some r) : Rn l X mX11_house d 0 [(0, .ref x0), (1, .int x1), (2, .int x2)] [] h (eI r) r.2 := by
  unfold f_Model_house_b0 at E
  refine Rn.aload_n (pc' := 1) dX11_house_0 rfl 0 rfl rfl ?_
  refine Rn.iconst (pc' := 2) (v := (0 : Int32)) (hv := by decide) dX11_house_1 rfl ?_
  obtain ⟨g1, E⟩ := gd_of E
  refine Rn.putI (pc' := 5) fl_X11_3_10 (fun q hq => by cases hq; decide) g1 rfl rfl rfl dX11_house_2 rfl ?_
  replace E := wr_of E
  generalize eh3 : sI h x0 0 (0 : Int32) = h2 at E ⊢
  refine Rn.aload_n (pc' := 6) dX11_house_5 rfl 0 rfl rfl ?_
  refine Rn.aload_n (pc' := 7) dX11_house_6 rfl 0 rfl rfl ?_
  refine Rn.iload_n (pc' := 8) dX11_house_7 rfl 1 rfl rfl ?_
  obtain ⟨v4, h5, e6, E⟩ := bI_of E
  refine Rn.callV1 (pc' := 11) (As := [.int x1]) (rest := [.ref x0]) (f_Model_noHouse_ok hst e6) (Nat.le_trans (by decide) hd) rfl kb_X11_293 ki_X11_noHouse rfl (kp_sI eh3 g1) rfl rfl (Nat.le_of_ble_eq_true rfl) dX11_house_8 rfl rfl ?_
  refine Rn.iconst (pc' := 12) (v := (1 : Int32)) (hv := by decide) dX11_house_11 rfl ?_
  obtain ⟨g7, E⟩ := gd_of E
  obtain ⟨v8, h9, e10, E⟩ := bI_of E
  refine Rn.callV1 (pc' := 15) (As := [.int v4, .int (1 : Int32)]) (rest := []) (f_Model_throwsIf_ok hst e10) (Nat.le_trans (by decide) hd) rfl kb_X11_265 ki_X11_throwsIf rfl g7 rfl rfl (Nat.le_of_ble_eq_true rfl) dX11_house_12 rfl rfl ?_
  refine Rn.if_ne (pc' := 18) (tgt := 40) dX11_house_15 (by decide) rfl (fun c11 => ?_) (fun c11 => ?_)
  · replace E := (if_of E).2 c11
    refine Rn.iconst (pc' := 41) (v := (0 : Int32)) (hv := by decide) dX11_house_40 rfl ?_
    cases E
    exact Rn.zret rfl rfl dX11_house_41
  · replace E := (if_of E).1 c11
    refine Rn.aload_n (pc' := 19) dX11_house_18 rfl 0 rfl rfl ?_
    refine Rn.iload_n (pc' := 20) dX11_house_19 rfl 2 rfl rfl ?_
    refine Rn.iconst (pc' := 21) (v := (0 : Int32)) (hv := by decide) dX11_house_20 rfl ?_
    refine Rn.iconst (pc' := 22) (v := (4 : Int32)) (hv := by decide) dX11_house_21 rfl ?_
    obtain ⟨v12, h13, e14, E⟩ := bI_of E
    refine Rn.callS1 (pc' := 25) (As := [.int x2, .int (0 : Int32), .int (4 : Int32)]) (rest := [.ref x0]) (f_Model_in_ok hst e14) (Nat.le_trans (by decide) hd) rfl kb_X11_56 ks_X11_in rfl rfl (Nat.le_of_ble_eq_true rfl) dX11_house_22 rfl rfl ?_
    refine Rn.if_ne (pc' := 28) (tgt := 32) dX11_house_25 (by decide) rfl (fun c15 => ?_) (fun c15 => ?_)
    · replace E := (if_of E).2 c15
      refine Rn.iconst (pc' := 33) (v := (0 : Int32)) (hv := by decide) dX11_house_32 rfl ?_
      exact f_Model_house_b33_ok hst hd   E
    · replace E := (if_of E).1 c15
      refine Rn.iconst (pc' := 29) (v := (1 : Int32)) (hv := by decide) dX11_house_28 rfl ?_
      refine Rn.goto (pc' := 33) dX11_house_29 (by decide) ?_
      exact f_Model_house_b33_ok hst hd   E
def f_Model_house (h : Hp) (x0 : Nat) (x1 : Int32) (x2 : Int32) : Option (Int32 × Hp) := f_Model_house_b0  h x0 x1 x2
theorem f_Model_house_ok {l : Launch} {X : Nat × (Nat → Int32)} (hst : l.stackTraces = false) {h : Hp} {x0 : Nat} {x1 : Int32} {x2 : Int32} {r : Int32 × Hp} (E : f_Model_house h x0 x1 x2 = some r) : MC l X yX11_house mX11_house 2 [.ref x0, .int x1, .int x2] h (eI r) r.2 :=
  MC.body (by decide +kernel) rfl (by decide) hst (Nat.le_of_ble_eq_true rfl) (f_Model_house_b0_ok hst (Nat.le_refl _) E)
abbrev mX10_salt : MI := (RX10, cX10_salt, 2, (some Jvm.ClassFile.FieldType.int), [], false)
theorem ws_X10_salt : ∀ w ∈ wsM yX10_salt mX10_salt, w ∈ gw := List.forall_mem_cons.mpr ⟨gw_at 1172 (by decide +kernel) (by decide +kernel), fun _ h => h⟩
theorem fl_X10_166_3 : FL RX10 166 3 6 := ⟨_, rfl, by decide, "VintageWater$Land", gw_at 372 (by decide +kernel) (by decide +kernel), Or.inl rfl⟩
def f_Water_salt_b0   (h : Hp) (x0 : Nat) (x1 : Int32)  : Option ((Int32 ⊕ Nat) × Hp) :=
if hS h x0 = 10 then (
bX (f_Water_needYear h x0 x1) fun _ h3 =>
if hS h3 x0 = 10 then (
if hS h3 (hR h3 x0 4) = 4 then (
if hS h3 (hR h3 (hR h3 x0 4) 6) = 20 then (
if ib x1 (hL h3 (hR h3 (hR h3 x0 4) 6)) = true then (
some (.inl (hI h3 (hR h3 (hR h3 x0 4) 6) (ix x1)), h3)
) else none) else none) else none) else none) else none
set_option maxRecDepth 20000 in
set_option maxHeartbeats 4000000 in
theorem f_Water_salt_b0_ok {l : Launch} {X : Nat × (Nat → Int32)} (hst : l.stackTraces = false) {d : Nat} (hd : 1 ≤ d)     {h : Hp} {x0 : Nat} {x1 : Int32}  {r : (Int32 ⊕ Nat) × Hp} (E : f_Water_salt_b0   h x0 x1 = some r) : Rn l X mX10_salt d 0 [(0, .ref x0), (1, .int x1)] [] h (xI r) r.2 := by
  unfold f_Water_salt_b0 at E
  refine Rn.aload_n (pc' := 1) dX10_salt_0 rfl 0 rfl rfl ?_
  refine Rn.iload_n (pc' := 2) dX10_salt_1 rfl 1 rfl rfl ?_
  obtain ⟨g1, E⟩ := gd_of E
  rcases bX_of E with ⟨u_, h3, e4, E⟩ | ⟨x_, h3, e4, rfl⟩
  rotate_left
  · exact Rn.callVX (As := [.int x1]) (rest := []) (f_Water_needYear_ok hst e4) (Nat.le_trans (by decide) hd) rfl kb_X10_160 ki_X10_needYear rfl g1 rfl rfl (Nat.le_of_ble_eq_true rfl) dX10_salt_2 (RnX.out (by decide))
  refine Rn.callV1 (pc' := 5) (As := [.int x1]) (rest := []) (f_Water_needYear_ok hst e4) (Nat.le_trans (by decide) hd) rfl kb_X10_160 ki_X10_needYear rfl g1 rfl rfl (Nat.le_of_ble_eq_true rfl) dX10_salt_2 rfl rfl ?_
  refine Rn.aload_n (pc' := 6) dX10_salt_5 rfl 0 rfl rfl ?_
  obtain ⟨g5, E⟩ := gd_of E
  refine Rn.getR (pc' := 9) fl_X10_42_9 g5 rfl dX10_salt_6 rfl ?_
  obtain ⟨g6, E⟩ := gd_of E
  refine Rn.getR (pc' := 12) fl_X10_166_3 g6 rfl dX10_salt_9 rfl ?_
  refine Rn.iload_n (pc' := 13) dX10_salt_12 rfl 1 rfl rfl ?_
  obtain ⟨g7, E⟩ := gd_of E
  obtain ⟨g8, E⟩ := gd_of E
  refine Rn.iald (pc' := 14) g7 g8 dX10_salt_13 rfl ?_
  cases E
  exact Rn.zret rfl rfl dX10_salt_14
def f_Water_salt (h : Hp) (x0 : Nat) (x1 : Int32) : Option ((Int32 ⊕ Nat) × Hp) := f_Water_salt_b0  h x0 x1
theorem f_Water_salt_ok {l : Launch} {X : Nat × (Nat → Int32)} (hst : l.stackTraces = false) {h : Hp} {x0 : Nat} {x1 : Int32} {r : (Int32 ⊕ Nat) × Hp} (E : f_Water_salt h x0 x1 = some r) : MC l X yX10_salt mX10_salt 1 [.ref x0, .int x1] h (xI r) r.2 :=
  MC.body (by decide +kernel) rfl (by decide) hst (Nat.le_of_ble_eq_true rfl) (f_Water_salt_b0_ok hst (Nat.le_refl _) E)
abbrev mL_salt : MI := (RL, cL_salt, 4, (some Jvm.ClassFile.FieldType.int), [(0, 9, 12, 24)], false)
theorem ws_L_salt : ∀ w ∈ wsM yL_salt mL_salt, w ∈ gw := List.forall_mem_cons.mpr ⟨gw_at 1168 (by decide +kernel) (by decide +kernel), fun _ h => h⟩
theorem kb_L_31 : KB RL 31 yX10_salt mX10_salt 1 := ⟨gw_at 1169 (by decide +kernel) (by decide +kernel), gw_at 107 (by decide +kernel) (by decide +kernel), trivial, ws_X10_salt, by decide +kernel, by decide +kernel, by decide +kernel, by decide⟩
theorem ki_X10_salt : Cond.instanceMethod yX10_salt ∈ gw ∧ Cond.selects yX10_salt.cls yX10_salt yX10_salt ∈ gw := ⟨gw_at 1170 (by decide +kernel) (by decide +kernel), gw_at 1171 (by decide +kernel) (by decide +kernel)⟩
def f_Lw_salt_b0   (h : Hp) (x0 : Nat) (x1 : Int32) (x2 : Nat)  : Option (Int32 × Hp) :=
if hS h x0 = 10 then (
bC (f_Water_salt h x0 x1) (fun v2 h3 =>
if hS h3 x2 = 22 then (
if ib (0 : Int32) (hL h3 x2) = true then (
wr (sJ h3 x2 (ix (0 : Int32)) (Int32.toInt64 v2)) fun h7 =>
some ((0 : Int32), h7)
) else none) else none
) (fun x_ h3 =>
if x_ = 1 then (
some ((1 : Int32), h3)

) else (
none))
) else none
set_option maxRecDepth 20000 in
set_option maxHeartbeats 4000000 in
theorem f_Lw_salt_b0_ok {l : Launch} {X : Nat × (Nat → Int32)} (hst : l.stackTraces = false) {d : Nat} (hd : 2 ≤ d)     {h : Hp} {x0 : Nat} {x1 : Int32} {x2 : Nat}  {r : Int32 × Hp} (E : f_Lw_salt_b0   h x0 x1 x2 = some r) : Rn l X mL_salt d 0 [(0, .ref x0), (1, .int x1), (2, .ref x2)] [] h (eI r) r.2 := by
  unfold f_Lw_salt_b0 at E
  refine Rn.aload_n (pc' := 1) dL_salt_0 rfl 2 rfl rfl ?_
  refine Rn.iconst (pc' := 2) (v := (0 : Int32)) (hv := by decide) dL_salt_1 rfl ?_
  refine Rn.aload_n (pc' := 3) dL_salt_2 rfl 0 rfl rfl ?_
  refine Rn.iload_n (pc' := 4) dL_salt_3 rfl 1 rfl rfl ?_
  obtain ⟨g1, E⟩ := gd_of E
  rcases bC_of E with ⟨v2, h3, e4, E⟩ | ⟨x_, h3, e4, E⟩
  · refine Rn.callV1 (pc' := 7) (As := [.int x1]) (rest := [.int (0 : Int32), .ref x2]) (f_Water_salt_ok hst e4) (Nat.le_trans (by decide) hd) rfl kb_L_31 ki_X10_salt rfl g1 rfl rfl (Nat.le_of_ble_eq_true rfl) dL_salt_4 rfl rfl ?_
    refine Rn.i2l (pc' := 8) dL_salt_7 rfl ?_
    obtain ⟨g5, E⟩ := gd_of E
    obtain ⟨g6, E⟩ := gd_of E
    refine Rn.last (pc' := 9) g5 g6 dL_salt_8 rfl ?_
    replace E := wr_of E
    generalize eh8 : sJ h3 x2 (ix (0 : Int32)) (Int32.toInt64 v2) = h7 at E ⊢
    refine Rn.goto (pc' := 15) dL_salt_9 (by decide) ?_
    refine Rn.iconst (pc' := 16) (v := (0 : Int32)) (hv := by decide) dL_salt_15 rfl ?_
    cases E
    exact Rn.zret rfl rfl dL_salt_16
  · refine Rn.callVX (As := [.int x1]) (rest := [.int (0 : Int32), .ref x2]) (f_Water_salt_ok hst e4) (Nat.le_trans (by decide) hd) rfl kb_L_31 ki_X10_salt rfl g1 rfl rfl (Nat.le_of_ble_eq_true rfl) dL_salt_4 ?_
    by_cases c9 : x_ = 1
    · replace E := (if_of E).1 c9
      subst c9
      refine RnX.catch (x := 1) (i := 3) (pch := 13) 0 rfl (pre0) (by decide) (by decide) kk_L_24 (by decide) (Or.inl ⟨3, rfl, dL_salt_12, rfl⟩) (by decide) ?_
      change Rn _ _ _ _ _ [(0, .ref x0), (1, .int x1), (2, .ref x2)] _ _ _ _
      refine Rn.iconst (pc' := 14) (v := (1 : Int32)) (hv := by decide) dL_salt_13 rfl ?_
      cases E
      exact Rn.zret rfl rfl dL_salt_14
    replace E := (if_of E).2 c9
    cases E
def f_Lw_salt (h : Hp) (x0 : Nat) (x1 : Int32) (x2 : Nat) : Option (Int32 × Hp) := f_Lw_salt_b0  h x0 x1 x2
theorem f_Lw_salt_ok {l : Launch} {X : Nat × (Nat → Int32)} (hst : l.stackTraces = false) {h : Hp} {x0 : Nat} {x1 : Int32} {x2 : Nat} {r : Int32 × Hp} (E : f_Lw_salt h x0 x1 x2 = some r) : MC l X yL_salt mL_salt 2 [.ref x0, .int x1, .ref x2] h (eI r) r.2 :=
  MC.body (by decide +kernel) rfl (by decide) hst (Nat.le_of_ble_eq_true rfl) (f_Lw_salt_b0_ok hst (Nat.le_refl _) E)
abbrev mX11_salt : MI := (RX11, cX11_salt, 2, (some Jvm.ClassFile.FieldType.int), [], false)
theorem ws_X11_salt : ∀ w ∈ wsM yX11_salt mX11_salt, w ∈ gw := List.forall_mem_cons.mpr ⟨gw_at 1726 (by decide +kernel) (by decide +kernel), fun _ h => h⟩
def f_Model_salt_b0   (h : Hp) (x0 : Nat) (x1 : Int32)  : Option (Int32 × Hp) :=
if hS h x0 = 11 then (
wr (sI h x0 0 (0 : Int32)) fun h2 =>
bI (f_Model_noYear h2 x1) fun v4 h5 =>
if hS h5 x0 = 11 then (
bI (f_Model_throwsIf h5 x0 v4 (1 : Int32)) fun v8 h9 =>
if v8 = 0 then (
if hS h9 x0 = 11 then (
if hS h9 (hR h9 x0 1) = 20 then (
if ib ((35 : Int32) + x1) (hL h9 (hR h9 x0 1)) = true then (
some ((hI h9 (hR h9 x0 1) (ix ((35 : Int32) + x1))), h9)
) else none) else none) else none
) else (
some ((0 : Int32), h9)

)
) else none) else none
set_option maxRecDepth 20000 in
set_option maxHeartbeats 4000000 in
theorem f_Model_salt_b0_ok {l : Launch} {X : Nat × (Nat → Int32)} (hst : l.stackTraces = false) {d : Nat} (hd : 2 ≤ d)     {h : Hp} {x0 : Nat} {x1 : Int32}  {r : Int32 × Hp} (E : f_Model_salt_b0   h x0 x1 = some r) : Rn l X mX11_salt d 0 [(0, .ref x0), (1, .int x1)] [] h (eI r) r.2 := by
  unfold f_Model_salt_b0 at E
  refine Rn.aload_n (pc' := 1) dX11_salt_0 rfl 0 rfl rfl ?_
  refine Rn.iconst (pc' := 2) (v := (0 : Int32)) (hv := by decide) dX11_salt_1 rfl ?_
  obtain ⟨g1, E⟩ := gd_of E
  refine Rn.putI (pc' := 5) fl_X11_3_10 (fun q hq => by cases hq; decide) g1 rfl rfl rfl dX11_salt_2 rfl ?_
  replace E := wr_of E
  generalize eh3 : sI h x0 0 (0 : Int32) = h2 at E ⊢
  refine Rn.aload_n (pc' := 6) dX11_salt_5 rfl 0 rfl rfl ?_
  refine Rn.iload_n (pc' := 7) dX11_salt_6 rfl 1 rfl rfl ?_
  obtain ⟨v4, h5, e6, E⟩ := bI_of E
  refine Rn.callS1 (pc' := 10) (As := [.int x1]) (rest := [.ref x0]) (f_Model_noYear_ok hst e6) (Nat.le_trans (by decide) hd) rfl kb_X11_290 ks_X11_noYear rfl rfl (Nat.le_of_ble_eq_true rfl) dX11_salt_7 rfl rfl ?_
  refine Rn.iconst (pc' := 11) (v := (1 : Int32)) (hv := by decide) dX11_salt_10 rfl ?_
  obtain ⟨g7, E⟩ := gd_of E
  obtain ⟨v8, h9, e10, E⟩ := bI_of E
  refine Rn.callV1 (pc' := 14) (As := [.int v4, .int (1 : Int32)]) (rest := []) (f_Model_throwsIf_ok hst e10) (Nat.le_trans (by decide) hd) rfl kb_X11_265 ki_X11_throwsIf rfl g7 rfl rfl (Nat.le_of_ble_eq_true rfl) dX11_salt_11 rfl rfl ?_
  refine Rn.if_eq (pc' := 17) (tgt := 21) dX11_salt_14 (by decide) rfl (fun c11 => ?_) (fun c11 => ?_)
  · replace E := (if_of E).1 c11
    refine Rn.aload_n (pc' := 22) dX11_salt_21 rfl 0 rfl rfl ?_
    obtain ⟨g12, E⟩ := gd_of E
    refine Rn.getR (pc' := 25) fl_X11_13_10 g12 rfl dX11_salt_22 rfl ?_
    refine Rn.bipush (pc' := 27) (v := (35 : Int32)) (hv := by decide) dX11_salt_25 rfl ?_
    refine Rn.iload_n (pc' := 28) dX11_salt_27 rfl 1 rfl rfl ?_
    refine Rn.iadd (pc' := 29) dX11_salt_28 rfl ?_
    obtain ⟨g13, E⟩ := gd_of E
    obtain ⟨g14, E⟩ := gd_of E
    refine Rn.iald (pc' := 30) g13 g14 dX11_salt_29 rfl ?_
    cases E
    exact Rn.zret rfl rfl dX11_salt_30
  · replace E := (if_of E).2 c11
    refine Rn.iconst (pc' := 18) (v := (0 : Int32)) (hv := by decide) dX11_salt_17 rfl ?_
    refine Rn.goto (pc' := 30) dX11_salt_18 (by decide) ?_
    cases E
    exact Rn.zret rfl rfl dX11_salt_30
def f_Model_salt (h : Hp) (x0 : Nat) (x1 : Int32) : Option (Int32 × Hp) := f_Model_salt_b0  h x0 x1
theorem f_Model_salt_ok {l : Launch} {X : Nat × (Nat → Int32)} (hst : l.stackTraces = false) {h : Hp} {x0 : Nat} {x1 : Int32} {r : Int32 × Hp} (E : f_Model_salt h x0 x1 = some r) : MC l X yX11_salt mX11_salt 2 [.ref x0, .int x1] h (eI r) r.2 :=
  MC.body (by decide +kernel) rfl (by decide) hst (Nat.le_of_ble_eq_true rfl) (f_Model_salt_b0_ok hst (Nat.le_refl _) E)
abbrev mX10_layer : MI := (RX10, cX10_layer, 3, (some Jvm.ClassFile.FieldType.int), [], false)
theorem ws_X10_layer : ∀ w ∈ wsM yX10_layer mX10_layer, w ∈ gw := List.forall_mem_cons.mpr ⟨gw_at 1160 (by decide +kernel) (by decide +kernel), fun _ h => h⟩
def f_Water_layer_b0   (h : Hp) (x0 : Nat) (x1 : Int32) (x2 : Int32)  : Option ((Int32 ⊕ Nat) × Hp) :=
if hS h x0 = 10 then (
bX (f_Water_needCistern h x0 x1) fun _ h3 =>
if hS h3 x0 = 10 then (
bX (f_Water_needYear h3 x0 x2) fun _ h7 =>
if hS h7 x0 = 10 then (
if hS h7 (hR h7 x0 4) = 4 then (
if hS h7 (hR h7 (hR h7 x0 4) 3) = 23 then (
if ib x1 (hL h7 (hR h7 (hR h7 x0 4) 3)) = true then (
if hS h7 (hR h7 (hR h7 (hR h7 x0 4) 3) (ix x1)) = 1 then (
if hS h7 (hR h7 (hR h7 (hR h7 (hR h7 x0 4) 3) (ix x1)) 6) = 20 then (
if ib x2 (hL h7 (hR h7 (hR h7 (hR h7 (hR h7 x0 4) 3) (ix x1)) 6)) = true then (
some (.inl (hI h7 (hR h7 (hR h7 (hR h7 (hR h7 x0 4) 3) (ix x1)) 6) (ix x2)), h7)
) else none) else none) else none) else none) else none) else none) else none) else none) else none
set_option maxRecDepth 20000 in
set_option maxHeartbeats 4000000 in
theorem f_Water_layer_b0_ok {l : Launch} {X : Nat × (Nat → Int32)} (hst : l.stackTraces = false) {d : Nat} (hd : 1 ≤ d)     {h : Hp} {x0 : Nat} {x1 : Int32} {x2 : Int32}  {r : (Int32 ⊕ Nat) × Hp} (E : f_Water_layer_b0   h x0 x1 x2 = some r) : Rn l X mX10_layer d 0 [(0, .ref x0), (1, .int x1), (2, .int x2)] [] h (xI r) r.2 := by
  unfold f_Water_layer_b0 at E
  refine Rn.aload_n (pc' := 1) dX10_layer_0 rfl 0 rfl rfl ?_
  refine Rn.iload_n (pc' := 2) dX10_layer_1 rfl 1 rfl rfl ?_
  obtain ⟨g1, E⟩ := gd_of E
  rcases bX_of E with ⟨u_, h3, e4, E⟩ | ⟨x_, h3, e4, rfl⟩
  rotate_left
  · exact Rn.callVX (As := [.int x1]) (rest := []) (f_Water_needCistern_ok hst e4) (Nat.le_trans (by decide) hd) rfl kb_X10_123 ki_X10_needCistern rfl g1 rfl rfl (Nat.le_of_ble_eq_true rfl) dX10_layer_2 (RnX.out (by decide))
  refine Rn.callV1 (pc' := 5) (As := [.int x1]) (rest := []) (f_Water_needCistern_ok hst e4) (Nat.le_trans (by decide) hd) rfl kb_X10_123 ki_X10_needCistern rfl g1 rfl rfl (Nat.le_of_ble_eq_true rfl) dX10_layer_2 rfl rfl ?_
  refine Rn.aload_n (pc' := 6) dX10_layer_5 rfl 0 rfl rfl ?_
  refine Rn.iload_n (pc' := 7) dX10_layer_6 rfl 2 rfl rfl ?_
  obtain ⟨g5, E⟩ := gd_of E
  rcases bX_of E with ⟨u_, h7, e8, E⟩ | ⟨x_, h7, e8, rfl⟩
  rotate_left
  · exact Rn.callVX (As := [.int x2]) (rest := []) (f_Water_needYear_ok hst e8) (Nat.le_trans (by decide) hd) rfl kb_X10_160 ki_X10_needYear rfl g5 rfl rfl (Nat.le_of_ble_eq_true rfl) dX10_layer_7 (RnX.out (by decide))
  refine Rn.callV1 (pc' := 10) (As := [.int x2]) (rest := []) (f_Water_needYear_ok hst e8) (Nat.le_trans (by decide) hd) rfl kb_X10_160 ki_X10_needYear rfl g5 rfl rfl (Nat.le_of_ble_eq_true rfl) dX10_layer_7 rfl rfl ?_
  refine Rn.aload_n (pc' := 11) dX10_layer_10 rfl 0 rfl rfl ?_
  obtain ⟨g9, E⟩ := gd_of E
  refine Rn.getR (pc' := 14) fl_X10_42_9 g9 rfl dX10_layer_11 rfl ?_
  obtain ⟨g10, E⟩ := gd_of E
  refine Rn.getR (pc' := 17) fl_X10_126_3 g10 rfl dX10_layer_14 rfl ?_
  refine Rn.iload_n (pc' := 18) dX10_layer_17 rfl 1 rfl rfl ?_
  obtain ⟨g11, E⟩ := gd_of E
  obtain ⟨g12, E⟩ := gd_of E
  refine Rn.aald (pc' := 19) g11 (by decide) (by decide) g12 dX10_layer_18 rfl ?_
  obtain ⟨g13, E⟩ := gd_of E
  refine Rn.getR (pc' := 22) fl_X10_163_0 g13 rfl dX10_layer_19 rfl ?_
  refine Rn.iload_n (pc' := 23) dX10_layer_22 rfl 2 rfl rfl ?_
  obtain ⟨g14, E⟩ := gd_of E
  obtain ⟨g15, E⟩ := gd_of E
  refine Rn.iald (pc' := 24) g14 g15 dX10_layer_23 rfl ?_
  cases E
  exact Rn.zret rfl rfl dX10_layer_24
def f_Water_layer (h : Hp) (x0 : Nat) (x1 : Int32) (x2 : Int32) : Option ((Int32 ⊕ Nat) × Hp) := f_Water_layer_b0  h x0 x1 x2
theorem f_Water_layer_ok {l : Launch} {X : Nat × (Nat → Int32)} (hst : l.stackTraces = false) {h : Hp} {x0 : Nat} {x1 : Int32} {x2 : Int32} {r : (Int32 ⊕ Nat) × Hp} (E : f_Water_layer h x0 x1 x2 = some r) : MC l X yX10_layer mX10_layer 1 [.ref x0, .int x1, .int x2] h (xI r) r.2 :=
  MC.body (by decide +kernel) rfl (by decide) hst (Nat.le_of_ble_eq_true rfl) (f_Water_layer_b0_ok hst (Nat.le_refl _) E)
abbrev mL_layer : MI := (RL, cL_layer, 5, (some Jvm.ClassFile.FieldType.int), [(0, 10, 13, 24)], false)
theorem ws_L_layer : ∀ w ∈ wsM yL_layer mL_layer, w ∈ gw := List.forall_mem_cons.mpr ⟨gw_at 1156 (by decide +kernel) (by decide +kernel), fun _ h => h⟩
theorem kb_L_28 : KB RL 28 yX10_layer mX10_layer 2 := ⟨gw_at 1157 (by decide +kernel) (by decide +kernel), gw_at 107 (by decide +kernel) (by decide +kernel), trivial, ws_X10_layer, by decide +kernel, by decide +kernel, by decide +kernel, by decide⟩
theorem ki_X10_layer : Cond.instanceMethod yX10_layer ∈ gw ∧ Cond.selects yX10_layer.cls yX10_layer yX10_layer ∈ gw := ⟨gw_at 1158 (by decide +kernel) (by decide +kernel), gw_at 1159 (by decide +kernel) (by decide +kernel)⟩
def f_Lw_layer_b0   (h : Hp) (x0 : Nat) (x1 : Int32) (x2 : Int32) (x3 : Nat)  : Option (Int32 × Hp) :=
if hS h x0 = 10 then (
bC (f_Water_layer h x0 x1 x2) (fun v2 h3 =>
if hS h3 x3 = 22 then (
if ib (0 : Int32) (hL h3 x3) = true then (
wr (sJ h3 x3 (ix (0 : Int32)) (Int32.toInt64 v2)) fun h7 =>
some ((0 : Int32), h7)
) else none) else none
) (fun x_ h3 =>
if x_ = 1 then (
some ((1 : Int32), h3)

) else (
none))
) else none
set_option maxRecDepth 20000 in
set_option maxHeartbeats 4000000 in
theorem f_Lw_layer_b0_ok {l : Launch} {X : Nat × (Nat → Int32)} (hst : l.stackTraces = false) {d : Nat} (hd : 2 ≤ d)     {h : Hp} {x0 : Nat} {x1 : Int32} {x2 : Int32} {x3 : Nat}  {r : Int32 × Hp} (E : f_Lw_layer_b0   h x0 x1 x2 x3 = some r) : Rn l X mL_layer d 0 [(0, .ref x0), (1, .int x1), (2, .int x2), (3, .ref x3)] [] h (eI r) r.2 := by
  unfold f_Lw_layer_b0 at E
  refine Rn.aload_n (pc' := 1) dL_layer_0 rfl 3 rfl rfl ?_
  refine Rn.iconst (pc' := 2) (v := (0 : Int32)) (hv := by decide) dL_layer_1 rfl ?_
  refine Rn.aload_n (pc' := 3) dL_layer_2 rfl 0 rfl rfl ?_
  refine Rn.iload_n (pc' := 4) dL_layer_3 rfl 1 rfl rfl ?_
  refine Rn.iload_n (pc' := 5) dL_layer_4 rfl 2 rfl rfl ?_
  obtain ⟨g1, E⟩ := gd_of E
  rcases bC_of E with ⟨v2, h3, e4, E⟩ | ⟨x_, h3, e4, E⟩
  · refine Rn.callV1 (pc' := 8) (As := [.int x1, .int x2]) (rest := [.int (0 : Int32), .ref x3]) (f_Water_layer_ok hst e4) (Nat.le_trans (by decide) hd) rfl kb_L_28 ki_X10_layer rfl g1 rfl rfl (Nat.le_of_ble_eq_true rfl) dL_layer_5 rfl rfl ?_
    refine Rn.i2l (pc' := 9) dL_layer_8 rfl ?_
    obtain ⟨g5, E⟩ := gd_of E
    obtain ⟨g6, E⟩ := gd_of E
    refine Rn.last (pc' := 10) g5 g6 dL_layer_9 rfl ?_
    replace E := wr_of E
    generalize eh8 : sJ h3 x3 (ix (0 : Int32)) (Int32.toInt64 v2) = h7 at E ⊢
    refine Rn.goto (pc' := 17) dL_layer_10 (by decide) ?_
    refine Rn.iconst (pc' := 18) (v := (0 : Int32)) (hv := by decide) dL_layer_17 rfl ?_
    cases E
    exact Rn.zret rfl rfl dL_layer_18
  · refine Rn.callVX (As := [.int x1, .int x2]) (rest := [.int (0 : Int32), .ref x3]) (f_Water_layer_ok hst e4) (Nat.le_trans (by decide) hd) rfl kb_L_28 ki_X10_layer rfl g1 rfl rfl (Nat.le_of_ble_eq_true rfl) dL_layer_5 ?_
    by_cases c9 : x_ = 1
    · replace E := (if_of E).1 c9
      subst c9
      refine RnX.catch (x := 1) (i := 4) (pch := 15) 0 rfl (pre0) (by decide) (by decide) kk_L_24 (by decide) (Or.inr ⟨dL_layer_13, rfl⟩) (by decide) ?_
      change Rn _ _ _ _ _ [(0, .ref x0), (1, .int x1), (2, .int x2), (3, .ref x3)] _ _ _ _
      refine Rn.iconst (pc' := 16) (v := (1 : Int32)) (hv := by decide) dL_layer_15 rfl ?_
      cases E
      exact Rn.zret rfl rfl dL_layer_16
    replace E := (if_of E).2 c9
    cases E
def f_Lw_layer (h : Hp) (x0 : Nat) (x1 : Int32) (x2 : Int32) (x3 : Nat) : Option (Int32 × Hp) := f_Lw_layer_b0  h x0 x1 x2 x3
theorem f_Lw_layer_ok {l : Launch} {X : Nat × (Nat → Int32)} (hst : l.stackTraces = false) {h : Hp} {x0 : Nat} {x1 : Int32} {x2 : Int32} {x3 : Nat} {r : Int32 × Hp} (E : f_Lw_layer h x0 x1 x2 x3 = some r) : MC l X yL_layer mL_layer 2 [.ref x0, .int x1, .int x2, .ref x3] h (eI r) r.2 :=
  MC.body (by decide +kernel) rfl (by decide) hst (Nat.le_of_ble_eq_true rfl) (f_Lw_layer_b0_ok hst (Nat.le_refl _) E)
abbrev mX11_layer : MI := (RX11, cX11_layer, 3, (some Jvm.ClassFile.FieldType.int), [], false)
theorem ws_X11_layer : ∀ w ∈ wsM yX11_layer mX11_layer, w ∈ gw := List.forall_mem_cons.mpr ⟨gw_at 1719 (by decide +kernel) (by decide +kernel), fun _ h => h⟩
def f_Model_layer_b26   (h : Hp) (x0 : Nat) (x1 : Int32) (x2 : Int32) (s0 : Nat) (s1 : Int32) : Option (Int32 × Hp) :=
if hS h s0 = 11 then (
bI (f_Model_throwsIf h s0 s1 (1 : Int32)) fun v2 h3 =>
if v2 = 0 then (
if hS h3 x0 = 11 then (
bI (f_Model_layerOf h3 x0 x1 x2) fun v7 h8 =>
some (v7, h8)
) else none
) else (
some ((0 : Int32), h3)

)
) else none
set_option maxRecDepth 20000 in
set_option maxHeartbeats 4000000 in
theorem f_Model_layer_b26_ok {l : Launch} {X : Nat × (Nat → Int32)} (hst : l.stackTraces = false) {d : Nat} (hd : 2 ≤ d)     {h : Hp} {x0 : Nat} {x1 : Int32} {x2 : Int32} {s0 : Nat} {s1 : Int32} {r : Int32 × Hp} (E : f_Model_layer_b26   h x0 x1 x2 s0 s1 = some r) : Rn l X mX11_layer d 26 [(0, .ref x0), (1, .int x1), (2, .int x2)] [.int s1, .ref s0] h (eI r) r.2 := by
  unfold f_Model_layer_b26 at E
  refine Rn.iconst (pc' := 27) (v := (1 : Int32)) (hv := by decide) dX11_layer_26 rfl ?_
  obtain ⟨g1, E⟩ := gd_of E
  obtain ⟨v2, h3, e4, E⟩ := bI_of E
  refine Rn.callV1 (pc' := 30) (As := [.int s1, .int (1 : Int32)]) (rest := []) (f_Model_throwsIf_ok hst e4) (Nat.le_trans (by decide) hd) rfl kb_X11_265 ki_X11_throwsIf rfl g1 rfl rfl (Nat.le_of_ble_eq_true rfl) dX11_layer_27 rfl rfl ?_
  refine Rn.if_eq (pc' := 33) (tgt := 37) dX11_layer_30 (by decide) rfl (fun c5 => ?_) (fun c5 => ?_)
  · replace E := (if_of E).1 c5
    refine Rn.aload_n (pc' := 38) dX11_layer_37 rfl 0 rfl rfl ?_
    refine Rn.iload_n (pc' := 39) dX11_layer_38 rfl 1 rfl rfl ?_
    refine Rn.iload_n (pc' := 40) dX11_layer_39 rfl 2 rfl rfl ?_
    obtain ⟨g6, E⟩ := gd_of E
    obtain ⟨v7, h8, e9, E⟩ := bI_of E
    refine Rn.callV1 (pc' := 43) (As := [.int x1, .int x2]) (rest := []) (f_Model_layerOf_ok hst e9) (Nat.le_trans (by decide) hd) rfl kb_X11_72 ki_X11_layerOf rfl g6 rfl rfl (Nat.le_of_ble_eq_true rfl) dX11_layer_40 rfl rfl ?_
    cases E
    exact Rn.zret rfl rfl dX11_layer_43
  · replace E := (if_of E).2 c5
    refine Rn.iconst (pc' := 34) (v := (0 : Int32)) (hv := by decide) dX11_layer_33 rfl ?_
    refine Rn.goto (pc' := 43) dX11_layer_34 (by decide) ?_
    cases E
    exact Rn.zret rfl rfl dX11_layer_43
def f_Model_layer_b21   (h : Hp) (x0 : Nat) (x1 : Int32) (x2 : Int32) (s0 : Nat) : Option (Int32 × Hp) :=
f_Model_layer_b26   h x0 x1 x2 s0 (1 : Int32)

set_option maxRecDepth 20000 in
set_option maxHeartbeats 4000000 in
theorem f_Model_layer_b21_ok {l : Launch} {X : Nat × (Nat → Int32)} (hst : l.stackTraces = false) {d : Nat} (hd : 2 ≤ d)     {h : Hp} {x0 : Nat} {x1 : Int32} {x2 : Int32} {s0 : Nat} {r : Int32 × Hp} (E : f_Model_layer_b21   h x0 x1 x2 s0 = some r) : Rn l X mX11_layer d 21 [(0, .ref x0), (1, .int x1), (2, .int x2)] [.ref s0] h (eI r) r.2 := by
  unfold f_Model_layer_b21 at E
  refine Rn.iconst (pc' := 22) (v := (1 : Int32)) (hv := by decide) dX11_layer_21 rfl ?_
  refine Rn.goto (pc' := 26) dX11_layer_22 (by decide) ?_
  exact f_Model_layer_b26_ok hst hd   E
def f_Model_layer_b0   (h : Hp) (x0 : Nat) (x1 : Int32) (x2 : Int32)  : Option (Int32 × Hp) :=
if hS h x0 = 11 then (
wr (sI h x0 0 (0 : Int32)) fun h2 =>
bI (f_Model_noCistern h2 x0 x1) fun v4 h5 =>
if v4 = 0 then (
bI (f_Model_noYear h5 x2) fun v8 h9 =>
if v8 = 0 then (
f_Model_layer_b26   h9 x0 x1 x2 x0 (0 : Int32)

) else (
f_Model_layer_b21   h9 x0 x1 x2 x0

)

) else (
f_Model_layer_b21   h5 x0 x1 x2 x0

)
) else none
set_option maxRecDepth 20000 in
set_option maxHeartbeats 4000000 in
theorem f_Model_layer_b0_ok {l : Launch} {X : Nat × (Nat → Int32)} (hst : l.stackTraces = false) {d : Nat} (hd : 2 ≤ d)     {h : Hp} {x0 : Nat} {x1 : Int32} {x2 : Int32}  {r : Int32 × Hp} (E : f_Model_layer_b0   h x0 x1 x2 = some r) : Rn l X mX11_layer d 0 [(0, .ref x0), (1, .int x1), (2, .int x2)] [] h (eI r) r.2 := by
  unfold f_Model_layer_b0 at E
  refine Rn.aload_n (pc' := 1) dX11_layer_0 rfl 0 rfl rfl ?_
  refine Rn.iconst (pc' := 2) (v := (0 : Int32)) (hv := by decide) dX11_layer_1 rfl ?_
  obtain ⟨g1, E⟩ := gd_of E
  refine Rn.putI (pc' := 5) fl_X11_3_10 (fun q hq => by cases hq; decide) g1 rfl rfl rfl dX11_layer_2 rfl ?_
  replace E := wr_of E
  generalize eh3 : sI h x0 0 (0 : Int32) = h2 at E ⊢
  refine Rn.aload_n (pc' := 6) dX11_layer_5 rfl 0 rfl rfl ?_
  refine Rn.aload_n (pc' := 7) dX11_layer_6 rfl 0 rfl rfl ?_
  refine Rn.iload_n (pc' := 8) dX11_layer_7 rfl 1 rfl rfl ?_
  obtain ⟨v4, h5, e6, E⟩ := bI_of E
  refine Rn.callV1 (pc' := 11) (As := [.int x1]) (rest := [.ref x0]) (f_Model_noCistern_ok hst e6) (Nat.le_trans (by decide) hd) rfl kb_X11_284 ki_X11_noCistern rfl (kp_sI eh3 g1) rfl rfl (Nat.le_of_ble_eq_true rfl) dX11_layer_8 rfl rfl ?_
  refine Rn.if_ne (pc' := 14) (tgt := 21) dX11_layer_11 (by decide) rfl (fun c7 => ?_) (fun c7 => ?_)
  · replace E := (if_of E).2 c7
    exact f_Model_layer_b21_ok hst hd   E
  · replace E := (if_of E).1 c7
    refine Rn.iload_n (pc' := 15) dX11_layer_14 rfl 2 rfl rfl ?_
    obtain ⟨v8, h9, e10, E⟩ := bI_of E
    refine Rn.callS1 (pc' := 18) (As := [.int x2]) (rest := [.ref x0]) (f_Model_noYear_ok hst e10) (Nat.le_trans (by decide) hd) rfl kb_X11_290 ks_X11_noYear rfl rfl (Nat.le_of_ble_eq_true rfl) dX11_layer_15 rfl rfl ?_
    refine Rn.if_eq (pc' := 21) (tgt := 25) dX11_layer_18 (by decide) rfl (fun c11 => ?_) (fun c11 => ?_)
    · replace E := (if_of E).1 c11
      refine Rn.iconst (pc' := 26) (v := (0 : Int32)) (hv := by decide) dX11_layer_25 rfl ?_
      exact f_Model_layer_b26_ok hst hd   E
    · replace E := (if_of E).2 c11
      exact f_Model_layer_b21_ok hst hd   E
def f_Model_layer (h : Hp) (x0 : Nat) (x1 : Int32) (x2 : Int32) : Option (Int32 × Hp) := f_Model_layer_b0  h x0 x1 x2
theorem f_Model_layer_ok {l : Launch} {X : Nat × (Nat → Int32)} (hst : l.stackTraces = false) {h : Hp} {x0 : Nat} {x1 : Int32} {x2 : Int32} {r : Int32 × Hp} (E : f_Model_layer h x0 x1 x2 = some r) : MC l X yX11_layer mX11_layer 2 [.ref x0, .int x1, .int x2] h (eI r) r.2 :=
  MC.body (by decide +kernel) rfl (by decide) hst (Nat.le_of_ble_eq_true rfl) (f_Model_layer_b0_ok hst (Nat.le_refl _) E)
abbrev mX3_saltOfMix : MI := (RX3, cX3_saltOfMix, 2, (some Jvm.ClassFile.FieldType.int), [], false)
theorem ws_X3_saltOfMix : ∀ w ∈ wsM yX3_saltOfMix mX3_saltOfMix, w ∈ gw := List.forall_mem_cons.mpr ⟨gw_at 1133 (by decide +kernel) (by decide +kernel), fun _ h => h⟩
def f_Land_saltOfMix_b0   (h : Hp) (x0 : Nat) (x1 : Nat)  : Option (Int32 × Hp) :=
if hS h x1 = 1 then (
if 0 < (hI h x1 5) then (
if hS h x0 = 4 then (
bI (f_Land_saltSum h x0 x1) fun v4 h5 =>
if hS h5 x1 = 1 then (
if ¬ (hI h5 x1 5) = 0 then (
some ((v4 / (hI h5 x1 5)), h5)
) else none) else none) else none
) else (
some ((0 : Int32), h)

)
) else none
set_option maxRecDepth 20000 in
set_option maxHeartbeats 4000000 in
theorem f_Land_saltOfMix_b0_ok {l : Launch} {X : Nat × (Nat → Int32)} (hst : l.stackTraces = false) {d : Nat} (hd : 1 ≤ d)     {h : Hp} {x0 : Nat} {x1 : Nat}  {r : Int32 × Hp} (E : f_Land_saltOfMix_b0   h x0 x1 = some r) : Rn l X mX3_saltOfMix d 0 [(0, .ref x0), (1, .ref x1)] [] h (eI r) r.2 := by
  unfold f_Land_saltOfMix_b0 at E
  refine Rn.aload_n (pc' := 1) dX3_saltOfMix_0 rfl 1 rfl rfl ?_
  obtain ⟨g1, E⟩ := gd_of E
  refine Rn.getI (pc' := 4) fl_X3_160_0 g1 rfl dX3_saltOfMix_1 rfl ?_
  refine Rn.if_gt (pc' := 7) (tgt := 11) dX3_saltOfMix_4 (by decide) rfl (fun c2 => ?_) (fun c2 => ?_)
  · replace E := (if_of E).1 c2
    refine Rn.aload_n (pc' := 12) dX3_saltOfMix_11 rfl 0 rfl rfl ?_
    refine Rn.aload_n (pc' := 13) dX3_saltOfMix_12 rfl 1 rfl rfl ?_
    obtain ⟨g3, E⟩ := gd_of E
    obtain ⟨v4, h5, e6, E⟩ := bI_of E
    refine Rn.callV1 (pc' := 16) (As := [.ref x1]) (rest := []) (f_Land_saltSum_ok hst e6) (Nat.le_trans (by decide) hd) rfl kb_X3_222 ki_X3_saltSum rfl g3 rfl rfl (Nat.le_of_ble_eq_true rfl) dX3_saltOfMix_13 rfl rfl ?_
    refine Rn.aload_n (pc' := 17) dX3_saltOfMix_16 rfl 1 rfl rfl ?_
    obtain ⟨g7, E⟩ := gd_of E
    refine Rn.getI (pc' := 20) fl_X3_160_0 g7 rfl dX3_saltOfMix_17 rfl ?_
    obtain ⟨g8, E⟩ := gd_of E
    refine Rn.idiv (pc' := 21) (hne := g8) dX3_saltOfMix_20 rfl ?_
    cases E
    exact Rn.zret rfl rfl dX3_saltOfMix_21
  · replace E := (if_of E).2 c2
    refine Rn.iconst (pc' := 8) (v := (0 : Int32)) (hv := by decide) dX3_saltOfMix_7 rfl ?_
    refine Rn.goto (pc' := 21) dX3_saltOfMix_8 (by decide) ?_
    cases E
    exact Rn.zret rfl rfl dX3_saltOfMix_21
def f_Land_saltOfMix (h : Hp) (x0 : Nat) (x1 : Nat) : Option (Int32 × Hp) := f_Land_saltOfMix_b0  h x0 x1
theorem f_Land_saltOfMix_ok {l : Launch} {X : Nat × (Nat → Int32)} (hst : l.stackTraces = false) {h : Hp} {x0 : Nat} {x1 : Nat} {r : Int32 × Hp} (E : f_Land_saltOfMix h x0 x1 = some r) : MC l X yX3_saltOfMix mX3_saltOfMix 1 [.ref x0, .ref x1] h (eI r) r.2 :=
  MC.body (by decide +kernel) rfl (by decide) hst (Nat.le_of_ble_eq_true rfl) (f_Land_saltOfMix_b0_ok hst (Nat.le_refl _) E)
abbrev mX10_cistern : MI := (RX10, cX10_cistern, 4, (some Jvm.ClassFile.FieldType.int), [], false)
theorem ws_X10_cistern : ∀ w ∈ wsM yX10_cistern mX10_cistern, w ∈ gw := List.forall_mem_cons.mpr ⟨gw_at 1109 (by decide +kernel) (by decide +kernel), fun _ h => h⟩
theorem fl_X10_130_0 : FL RX10 130 0 0 := ⟨_, rfl, by decide, "VintageWater$Cistern", gw_at 271 (by decide +kernel) (by decide +kernel), Or.inl rfl⟩
theorem fl_X10_142_0 : FL RX10 142 0 3 := ⟨_, rfl, by decide, "VintageWater$Cistern", gw_at 279 (by decide +kernel) (by decide +kernel), Or.inl rfl⟩
theorem kb_X10_151 : KB RX10 151 yX3_saltOfMix mX3_saltOfMix 1 := ⟨gw_at 1130 (by decide +kernel) (by decide +kernel), gw_at 113 (by decide +kernel) (by decide +kernel), trivial, ws_X3_saltOfMix, by decide +kernel, by decide +kernel, by decide +kernel, by decide⟩
theorem ki_X3_saltOfMix : Cond.instanceMethod yX3_saltOfMix ∈ gw ∧ Cond.selects yX3_saltOfMix.cls yX3_saltOfMix yX3_saltOfMix ∈ gw := ⟨gw_at 1131 (by decide +kernel) (by decide +kernel), gw_at 1132 (by decide +kernel) (by decide +kernel)⟩
def f_Water_cistern_b0   (h : Hp) (x0 : Nat) (x1 : Int32) (x2 : Int32)  : Option ((Int32 ⊕ Nat) × Hp) :=
if hS h x0 = 10 then (
bX (f_Water_needCistern h x0 x1) fun _ h3 =>
if hS h3 x0 = 10 then (
if hS h3 (hR h3 x0 4) = 4 then (
if hS h3 (hR h3 (hR h3 x0 4) 3) = 23 then (
if ib x1 (hL h3 (hR h3 (hR h3 x0 4) 3)) = true then (
if x2 = (0 : Int32) then (
if hS h3 (hR h3 (hR h3 (hR h3 x0 4) 3) (ix x1)) = 1 then (
some (.inl (hI h3 (hR h3 (hR h3 (hR h3 x0 4) 3) (ix x1)) 0), h3)
) else none
) else (
if x2 = (1 : Int32) then (
if hS h3 (hR h3 (hR h3 (hR h3 x0 4) 3) (ix x1)) = 1 then (
some (.inl (hI h3 (hR h3 (hR h3 (hR h3 x0 4) 3) (ix x1)) 1), h3)
) else none
) else (
if x2 = (2 : Int32) then (
if hS h3 (hR h3 (hR h3 (hR h3 x0 4) 3) (ix x1)) = 1 then (
if (hI h3 (hR h3 (hR h3 (hR h3 x0 4) 3) (ix x1)) 2) = 0 then (
some (.inl (0 : Int32), h3)

) else (
some (.inl (1 : Int32), h3)

)
) else none
) else (
if x2 = (3 : Int32) then (
if hS h3 (hR h3 (hR h3 (hR h3 x0 4) 3) (ix x1)) = 1 then (
some (.inl (hI h3 (hR h3 (hR h3 (hR h3 x0 4) 3) (ix x1)) 3), h3)
) else none
) else (
if x2 = (4 : Int32) then (
if hS h3 (hR h3 (hR h3 (hR h3 x0 4) 3) (ix x1)) = 1 then (
some (.inl (hI h3 (hR h3 (hR h3 (hR h3 x0 4) 3) (ix x1)) 4), h3)
) else none
) else (
if x2 = (5 : Int32) then (
if hS h3 (hR h3 (hR h3 (hR h3 x0 4) 3) (ix x1)) = 1 then (
some (.inl (hI h3 (hR h3 (hR h3 (hR h3 x0 4) 3) (ix x1)) 5), h3)
) else none
) else (
if x2 = (6 : Int32) then (
bI (f_Land_saltOfMix h3 (hR h3 x0 4) (hR h3 (hR h3 (hR h3 x0 4) 3) (ix x1))) fun v25 h26 =>
some (.inl v25, h26)

) else (
some (.inr 4, hA h3 0 0 6)

)))))))
) else none) else none) else none) else none) else none
set_option maxRecDepth 20000 in
set_option maxHeartbeats 4000000 in
theorem f_Water_cistern_b0_ok {l : Launch} {X : Nat × (Nat → Int32)} (hst : l.stackTraces = false) {d : Nat} (hd : 2 ≤ d)     {h : Hp} {x0 : Nat} {x1 : Int32} {x2 : Int32}  {r : (Int32 ⊕ Nat) × Hp} (E : f_Water_cistern_b0   h x0 x1 x2 = some r) : Rn l X mX10_cistern d 0 [(0, .ref x0), (1, .int x1), (2, .int x2)] [] h (xI r) r.2 := by
  unfold f_Water_cistern_b0 at E
  refine Rn.aload_n (pc' := 1) dX10_cistern_0 rfl 0 rfl rfl ?_
  refine Rn.iload_n (pc' := 2) dX10_cistern_1 rfl 1 rfl rfl ?_
  obtain ⟨g1, E⟩ := gd_of E
  rcases bX_of E with ⟨u_, h3, e4, E⟩ | ⟨x_, h3, e4, rfl⟩
  rotate_left
  · exact Rn.callVX (As := [.int x1]) (rest := []) (f_Water_needCistern_ok hst e4) (Nat.le_trans (by decide) hd) rfl kb_X10_123 ki_X10_needCistern rfl g1 rfl rfl (Nat.le_of_ble_eq_true rfl) dX10_cistern_2 (RnX.out (by decide))
  refine Rn.callV1 (pc' := 5) (As := [.int x1]) (rest := []) (f_Water_needCistern_ok hst e4) (Nat.le_trans (by decide) hd) rfl kb_X10_123 ki_X10_needCistern rfl g1 rfl rfl (Nat.le_of_ble_eq_true rfl) dX10_cistern_2 rfl rfl ?_
  refine Rn.aload_n (pc' := 6) dX10_cistern_5 rfl 0 rfl rfl ?_
  obtain ⟨g5, E⟩ := gd_of E
  refine Rn.getR (pc' := 9) fl_X10_42_9 g5 rfl dX10_cistern_6 rfl ?_
  obtain ⟨g6, E⟩ := gd_of E
  refine Rn.getR (pc' := 12) fl_X10_126_3 g6 rfl dX10_cistern_9 rfl ?_
  refine Rn.iload_n (pc' := 13) dX10_cistern_12 rfl 1 rfl rfl ?_
  obtain ⟨g7, E⟩ := gd_of E
  obtain ⟨g8, E⟩ := gd_of E
  refine Rn.aald (pc' := 14) g7 (by decide) (by decide) g8 dX10_cistern_13 rfl ?_
  refine Rn.astore_n (pc' := 15) (L' := [(3, .ref (hR h3 (hR h3 (hR h3 x0 4) 3) (ix x1))), (0, .ref x0), (1, .int x1), (2, .int x2)]) dX10_cistern_14 rfl (by decide) rfl rfl ?_
  refine Rn.iload_n (pc' := 16) dX10_cistern_15 rfl 3 rfl rfl ?_
  by_cases c11 : x2 = (0 : Int32)
  · replace E := (if_of E).1 c11
    skip
    refine Rn.tabIn (x := x2) (tgt := 60) dX10_cistern_16 (by rw [c11]; decide) (by rw [c11]; decide) (by rw [c11]; rfl) (by decide) ?_
    refine Rn.aload_n (pc' := 61) dX10_cistern_60 rfl 0 rfl rfl ?_
    obtain ⟨g12, E⟩ := gd_of E
    refine Rn.getI (pc' := 64) fl_X10_130_0 g12 rfl dX10_cistern_61 rfl ?_
    cases E
    exact Rn.zret rfl rfl dX10_cistern_64
  replace E := (if_of E).2 c11
  by_cases c13 : x2 = (1 : Int32)
  · replace E := (if_of E).1 c13
    skip
    refine Rn.tabIn (x := x2) (tgt := 65) dX10_cistern_16 (by rw [c13]; decide) (by rw [c13]; decide) (by rw [c13]; rfl) (by decide) ?_
    refine Rn.aload_n (pc' := 66) dX10_cistern_65 rfl 0 rfl rfl ?_
    obtain ⟨g14, E⟩ := gd_of E
    refine Rn.getI (pc' := 69) fl_X10_135_0 g14 rfl dX10_cistern_66 rfl ?_
    cases E
    exact Rn.zret rfl rfl dX10_cistern_69
  replace E := (if_of E).2 c13
  by_cases c15 : x2 = (2 : Int32)
  · replace E := (if_of E).1 c15
    skip
    refine Rn.tabIn (x := x2) (tgt := 70) dX10_cistern_16 (by rw [c15]; decide) (by rw [c15]; decide) (by rw [c15]; rfl) (by decide) ?_
    refine Rn.aload_n (pc' := 71) dX10_cistern_70 rfl 0 rfl rfl ?_
    obtain ⟨g16, E⟩ := gd_of E
    refine Rn.getI (pc' := 74) fl_X10_138_0 g16 rfl dX10_cistern_71 rfl ?_
    refine Rn.if_eq (pc' := 77) (tgt := 81) dX10_cistern_74 (by decide) rfl (fun c17 => ?_) (fun c17 => ?_)
    · replace E := (if_of E).1 c17
      refine Rn.iconst (pc' := 82) (v := (0 : Int32)) (hv := by decide) dX10_cistern_81 rfl ?_
      cases E
      exact Rn.zret rfl rfl dX10_cistern_82
    · replace E := (if_of E).2 c17
      refine Rn.iconst (pc' := 78) (v := (1 : Int32)) (hv := by decide) dX10_cistern_77 rfl ?_
      refine Rn.goto (pc' := 82) dX10_cistern_78 (by decide) ?_
      cases E
      exact Rn.zret rfl rfl dX10_cistern_82
  replace E := (if_of E).2 c15
  by_cases c18 : x2 = (3 : Int32)
  · replace E := (if_of E).1 c18
    skip
    refine Rn.tabIn (x := x2) (tgt := 83) dX10_cistern_16 (by rw [c18]; decide) (by rw [c18]; decide) (by rw [c18]; rfl) (by decide) ?_
    refine Rn.aload_n (pc' := 84) dX10_cistern_83 rfl 0 rfl rfl ?_
    obtain ⟨g19, E⟩ := gd_of E
    refine Rn.getI (pc' := 87) fl_X10_142_0 g19 rfl dX10_cistern_84 rfl ?_
    cases E
    exact Rn.zret rfl rfl dX10_cistern_87
  replace E := (if_of E).2 c18
  by_cases c20 : x2 = (4 : Int32)
  · replace E := (if_of E).1 c20
    skip
    refine Rn.tabIn (x := x2) (tgt := 88) dX10_cistern_16 (by rw [c20]; decide) (by rw [c20]; decide) (by rw [c20]; rfl) (by decide) ?_
    refine Rn.aload_n (pc' := 89) dX10_cistern_88 rfl 0 rfl rfl ?_
    obtain ⟨g21, E⟩ := gd_of E
    refine Rn.getI (pc' := 92) fl_X10_145_0 g21 rfl dX10_cistern_89 rfl ?_
    cases E
    exact Rn.zret rfl rfl dX10_cistern_92
  replace E := (if_of E).2 c20
  by_cases c22 : x2 = (5 : Int32)
  · replace E := (if_of E).1 c22
    skip
    refine Rn.tabIn (x := x2) (tgt := 93) dX10_cistern_16 (by rw [c22]; decide) (by rw [c22]; decide) (by rw [c22]; rfl) (by decide) ?_
    refine Rn.aload_n (pc' := 94) dX10_cistern_93 rfl 0 rfl rfl ?_
    obtain ⟨g23, E⟩ := gd_of E
    refine Rn.getI (pc' := 97) fl_X10_148_0 g23 rfl dX10_cistern_94 rfl ?_
    cases E
    exact Rn.zret rfl rfl dX10_cistern_97
  replace E := (if_of E).2 c22
  by_cases c24 : x2 = (6 : Int32)
  · replace E := (if_of E).1 c24
    skip
    refine Rn.tabIn (x := x2) (tgt := 98) dX10_cistern_16 (by rw [c24]; decide) (by rw [c24]; decide) (by rw [c24]; rfl) (by decide) ?_
    refine Rn.aload_n (pc' := 99) dX10_cistern_98 rfl 1 rfl rfl ?_
    refine Rn.getR (pc' := 102) fl_X10_42_9 g5 rfl dX10_cistern_99 rfl ?_
    refine Rn.aload_n (pc' := 103) dX10_cistern_102 rfl 0 rfl rfl ?_
    obtain ⟨v25, h26, e27, E⟩ := bI_of E
    refine Rn.callV1 (pc' := 106) (As := [.ref (hR h3 (hR h3 (hR h3 x0 4) 3) (ix x1))]) (rest := []) (f_Land_saltOfMix_ok hst e27) (Nat.le_trans (by decide) hd) rfl kb_X10_151 ki_X3_saltOfMix rfl g6 rfl rfl (Nat.le_of_ble_eq_true rfl) dX10_cistern_103 rfl rfl ?_
    cases E
    exact Rn.zret rfl rfl dX10_cistern_106
  replace E := (if_of E).2 c24
  refine Rn.tabOut (x := x2) (tgt := 107) dX10_cistern_16 (tab_out fun z hz hq => ?_) (by decide) ?_
  · have hz2 : z = 0 ∨ z = 1 ∨ z = 2 ∨ z = 3 ∨ z = 4 ∨ z = 5 ∨ z = 6 := by omega
    rcases hz2 with rfl | rfl | rfl | rfl | rfl | rfl | rfl
    · exact c11 hz
    · exact c13 hz
    · exact c15 hz
    · exact c18 hz
    · exact c20 hz
    · exact c22 hz
    · exact c24 hz
  · cases E
    exact Rn.throwSX (i := 4) kt_X10_155_159 rfl rfl dX10_cistern_107 dX10_cistern_110 dX10_cistern_111 dX10_cistern_113 dX10_cistern_116 (Nat.le_of_ble_eq_true rfl)
def f_Water_cistern (h : Hp) (x0 : Nat) (x1 : Int32) (x2 : Int32) : Option ((Int32 ⊕ Nat) × Hp) := f_Water_cistern_b0  h x0 x1 x2
theorem f_Water_cistern_ok {l : Launch} {X : Nat × (Nat → Int32)} (hst : l.stackTraces = false) {h : Hp} {x0 : Nat} {x1 : Int32} {x2 : Int32} {r : (Int32 ⊕ Nat) × Hp} (E : f_Water_cistern h x0 x1 x2 = some r) : MC l X yX10_cistern mX10_cistern 2 [.ref x0, .int x1, .int x2] h (xI r) r.2 :=
  MC.body (by decide +kernel) rfl (by decide) hst (Nat.le_of_ble_eq_true rfl) (f_Water_cistern_b0_ok hst (Nat.le_refl _) E)
abbrev mL_cistern : MI := (RL, cL_cistern, 5, (some Jvm.ClassFile.FieldType.int), [(0, 10, 13, 24), (0, 10, 17, 26)], false)
theorem ws_L_cistern : ∀ w ∈ wsM yL_cistern mL_cistern, w ∈ gw := List.forall_mem_cons.mpr ⟨gw_at 1103 (by decide +kernel) (by decide +kernel), fun _ h => h⟩
theorem kb_L_20 : KB RL 20 yX10_cistern mX10_cistern 2 := ⟨gw_at 1106 (by decide +kernel) (by decide +kernel), gw_at 107 (by decide +kernel) (by decide +kernel), trivial, ws_X10_cistern, by decide +kernel, by decide +kernel, by decide +kernel, by decide⟩
theorem ki_X10_cistern : Cond.instanceMethod yX10_cistern ∈ gw ∧ Cond.selects yX10_cistern.cls yX10_cistern yX10_cistern ∈ gw := ⟨gw_at 1107 (by decide +kernel) (by decide +kernel), gw_at 1108 (by decide +kernel) (by decide +kernel)⟩
def f_Lw_cistern_b0   (h : Hp) (x0 : Nat) (x1 : Int32) (x2 : Int32) (x3 : Nat)  : Option (Int32 × Hp) :=
if hS h x0 = 10 then (
bC (f_Water_cistern h x0 x1 x2) (fun v2 h3 =>
if hS h3 x3 = 22 then (
if ib (0 : Int32) (hL h3 x3) = true then (
wr (sJ h3 x3 (ix (0 : Int32)) (Int32.toInt64 v2)) fun h7 =>
some ((0 : Int32), h7)
) else none) else none
) (fun x_ h3 =>
if x_ = 1 then (
some ((1 : Int32), h3)

) else (
if x_ = 4 then (
some ((2 : Int32), h3)

) else (
none)))
) else none
set_option maxRecDepth 20000 in
set_option maxHeartbeats 4000000 in
theorem f_Lw_cistern_b0_ok {l : Launch} {X : Nat × (Nat → Int32)} (hst : l.stackTraces = false) {d : Nat} (hd : 3 ≤ d)     {h : Hp} {x0 : Nat} {x1 : Int32} {x2 : Int32} {x3 : Nat}  {r : Int32 × Hp} (E : f_Lw_cistern_b0   h x0 x1 x2 x3 = some r) : Rn l X mL_cistern d 0 [(0, .ref x0), (1, .int x1), (2, .int x2), (3, .ref x3)] [] h (eI r) r.2 := by
  unfold f_Lw_cistern_b0 at E
  refine Rn.aload_n (pc' := 1) dL_cistern_0 rfl 3 rfl rfl ?_
  refine Rn.iconst (pc' := 2) (v := (0 : Int32)) (hv := by decide) dL_cistern_1 rfl ?_
  refine Rn.aload_n (pc' := 3) dL_cistern_2 rfl 0 rfl rfl ?_
  refine Rn.iload_n (pc' := 4) dL_cistern_3 rfl 1 rfl rfl ?_
  refine Rn.iload_n (pc' := 5) dL_cistern_4 rfl 2 rfl rfl ?_
  obtain ⟨g1, E⟩ := gd_of E
  rcases bC_of E with ⟨v2, h3, e4, E⟩ | ⟨x_, h3, e4, E⟩
  · refine Rn.callV1 (pc' := 8) (As := [.int x1, .int x2]) (rest := [.int (0 : Int32), .ref x3]) (f_Water_cistern_ok hst e4) (Nat.le_trans (by decide) hd) rfl kb_L_20 ki_X10_cistern rfl g1 rfl rfl (Nat.le_of_ble_eq_true rfl) dL_cistern_5 rfl rfl ?_
    refine Rn.i2l (pc' := 9) dL_cistern_8 rfl ?_
    obtain ⟨g5, E⟩ := gd_of E
    obtain ⟨g6, E⟩ := gd_of E
    refine Rn.last (pc' := 10) g5 g6 dL_cistern_9 rfl ?_
    replace E := wr_of E
    generalize eh8 : sJ h3 x3 (ix (0 : Int32)) (Int32.toInt64 v2) = h7 at E ⊢
    refine Rn.goto (pc' := 21) dL_cistern_10 (by decide) ?_
    refine Rn.iconst (pc' := 22) (v := (0 : Int32)) (hv := by decide) dL_cistern_21 rfl ?_
    cases E
    exact Rn.zret rfl rfl dL_cistern_22
  · refine Rn.callVX (As := [.int x1, .int x2]) (rest := [.int (0 : Int32), .ref x3]) (f_Water_cistern_ok hst e4) (Nat.le_trans (by decide) hd) rfl kb_L_20 ki_X10_cistern rfl g1 rfl rfl (Nat.le_of_ble_eq_true rfl) dL_cistern_5 ?_
    by_cases c9 : x_ = 1
    · replace E := (if_of E).1 c9
      subst c9
      refine RnX.catch (x := 1) (i := 4) (pch := 15) 0 rfl (pre0) (by decide) (by decide) kk_L_24 (by decide) (Or.inr ⟨dL_cistern_13, rfl⟩) (by decide) ?_
      change Rn _ _ _ _ _ [(0, .ref x0), (1, .int x1), (2, .int x2), (3, .ref x3)] _ _ _ _
      refine Rn.iconst (pc' := 16) (v := (1 : Int32)) (hv := by decide) dL_cistern_15 rfl ?_
      cases E
      exact Rn.zret rfl rfl dL_cistern_16
    replace E := (if_of E).2 c9
    by_cases c10 : x_ = 4
    · replace E := (if_of E).1 c10
      subst c10
      refine RnX.catch (x := 4) (i := 4) (pch := 19) 1 rfl (pre1 (Or.inr ⟨by decide, _, kk_L_24, by decide⟩)) (by decide) (by decide) kk_L_26 (by decide) (Or.inr ⟨dL_cistern_17, rfl⟩) (by decide) ?_
      change Rn _ _ _ _ _ [(0, .ref x0), (1, .int x1), (2, .int x2), (3, .ref x3)] _ _ _ _
      refine Rn.iconst (pc' := 20) (v := (2 : Int32)) (hv := by decide) dL_cistern_19 rfl ?_
      cases E
      exact Rn.zret rfl rfl dL_cistern_20
    replace E := (if_of E).2 c10
    cases E
def f_Lw_cistern (h : Hp) (x0 : Nat) (x1 : Int32) (x2 : Int32) (x3 : Nat) : Option (Int32 × Hp) := f_Lw_cistern_b0  h x0 x1 x2 x3
theorem f_Lw_cistern_ok {l : Launch} {X : Nat × (Nat → Int32)} (hst : l.stackTraces = false) {h : Hp} {x0 : Nat} {x1 : Int32} {x2 : Int32} {x3 : Nat} {r : Int32 × Hp} (E : f_Lw_cistern h x0 x1 x2 x3 = some r) : MC l X yL_cistern mL_cistern 3 [.ref x0, .int x1, .int x2, .ref x3] h (eI r) r.2 :=
  MC.body (by decide +kernel) rfl (by decide) hst (Nat.le_of_ble_eq_true rfl) (f_Lw_cistern_b0_ok hst (Nat.le_refl _) E)
abbrev mX11_saltOfMix : MI := (RX11, cX11_saltOfMix, 2, (some Jvm.ClassFile.FieldType.int), [], false)
theorem ws_X11_saltOfMix : ∀ w ∈ wsM yX11_saltOfMix mX11_saltOfMix, w ∈ gw := List.forall_mem_cons.mpr ⟨gw_at 1711 (by decide +kernel) (by decide +kernel), fun _ h => h⟩
def f_Model_saltOfMix_b0   (h : Hp) (x0 : Nat) (x1 : Int32)  : Option (Int32 × Hp) :=
if hS h x0 = 11 then (
bI (f_Model_measures h x0 x1) fun v2 h3 =>
if v2 = 0 then (
some ((0 : Int32), h3)

) else (
if hS h3 x0 = 11 then (
bI (f_Model_saltIn h3 x0 x1) fun v7 h8 =>
if hS h8 x0 = 11 then (
bI (f_Model_measures h8 x0 x1) fun v11 h12 =>
if ¬ v11 = 0 then (
some ((v7 / v11), h12)
) else none) else none) else none
)
) else none
set_option maxRecDepth 20000 in
set_option maxHeartbeats 4000000 in
theorem f_Model_saltOfMix_b0_ok {l : Launch} {X : Nat × (Nat → Int32)} (hst : l.stackTraces = false) {d : Nat} (hd : 3 ≤ d)     {h : Hp} {x0 : Nat} {x1 : Int32}  {r : Int32 × Hp} (E : f_Model_saltOfMix_b0   h x0 x1 = some r) : Rn l X mX11_saltOfMix d 0 [(0, .ref x0), (1, .int x1)] [] h (eI r) r.2 := by
  unfold f_Model_saltOfMix_b0 at E
  refine Rn.aload_n (pc' := 1) dX11_saltOfMix_0 rfl 0 rfl rfl ?_
  refine Rn.iload_n (pc' := 2) dX11_saltOfMix_1 rfl 1 rfl rfl ?_
  obtain ⟨g1, E⟩ := gd_of E
  obtain ⟨v2, h3, e4, E⟩ := bI_of E
  refine Rn.callV1 (pc' := 5) (As := [.int x1]) (rest := []) (f_Model_measures_ok hst e4) (Nat.le_trans (by decide) hd) rfl kb_X11_75 ki_X11_measures rfl g1 rfl rfl (Nat.le_of_ble_eq_true rfl) dX11_saltOfMix_2 rfl rfl ?_
  refine Rn.if_ne (pc' := 8) (tgt := 12) dX11_saltOfMix_5 (by decide) rfl (fun c5 => ?_) (fun c5 => ?_)
  · replace E := (if_of E).2 c5
    refine Rn.aload_n (pc' := 13) dX11_saltOfMix_12 rfl 0 rfl rfl ?_
    refine Rn.iload_n (pc' := 14) dX11_saltOfMix_13 rfl 1 rfl rfl ?_
    obtain ⟨g6, E⟩ := gd_of E
    obtain ⟨v7, h8, e9, E⟩ := bI_of E
    refine Rn.callV1 (pc' := 17) (As := [.int x1]) (rest := []) (f_Model_saltIn_ok hst e9) (Nat.le_trans (by decide) hd) rfl kb_X11_79 ki_X11_saltIn rfl g6 rfl rfl (Nat.le_of_ble_eq_true rfl) dX11_saltOfMix_14 rfl rfl ?_
    refine Rn.aload_n (pc' := 18) dX11_saltOfMix_17 rfl 0 rfl rfl ?_
    refine Rn.iload_n (pc' := 19) dX11_saltOfMix_18 rfl 1 rfl rfl ?_
    obtain ⟨g10, E⟩ := gd_of E
    obtain ⟨v11, h12, e13, E⟩ := bI_of E
    refine Rn.callV1 (pc' := 22) (As := [.int x1]) (rest := [.int v7]) (f_Model_measures_ok hst e13) (Nat.le_trans (by decide) hd) rfl kb_X11_75 ki_X11_measures rfl g10 rfl rfl (Nat.le_of_ble_eq_true rfl) dX11_saltOfMix_19 rfl rfl ?_
    obtain ⟨g14, E⟩ := gd_of E
    refine Rn.idiv (pc' := 23) (hne := g14) dX11_saltOfMix_22 rfl ?_
    cases E
    exact Rn.zret rfl rfl dX11_saltOfMix_23
  · replace E := (if_of E).1 c5
    refine Rn.iconst (pc' := 9) (v := (0 : Int32)) (hv := by decide) dX11_saltOfMix_8 rfl ?_
    refine Rn.goto (pc' := 23) dX11_saltOfMix_9 (by decide) ?_
    cases E
    exact Rn.zret rfl rfl dX11_saltOfMix_23
def f_Model_saltOfMix (h : Hp) (x0 : Nat) (x1 : Int32) : Option (Int32 × Hp) := f_Model_saltOfMix_b0  h x0 x1
theorem f_Model_saltOfMix_ok {l : Launch} {X : Nat × (Nat → Int32)} (hst : l.stackTraces = false) {h : Hp} {x0 : Nat} {x1 : Int32} {r : Int32 × Hp} (E : f_Model_saltOfMix h x0 x1 = some r) : MC l X yX11_saltOfMix mX11_saltOfMix 3 [.ref x0, .int x1] h (eI r) r.2 :=
  MC.body (by decide +kernel) rfl (by decide) hst (Nat.le_of_ble_eq_true rfl) (f_Model_saltOfMix_b0_ok hst (Nat.le_refl _) E)
abbrev mX11_cistern : MI := (RX11, cX11_cistern, 3, (some Jvm.ClassFile.FieldType.int), [], false)
theorem ws_X11_cistern : ∀ w ∈ wsM yX11_cistern mX11_cistern, w ∈ gw := List.forall_mem_cons.mpr ⟨gw_at 1700 (by decide +kernel) (by decide +kernel), fun _ h => h⟩
theorem kb_X11_287 : KB RX11 287 yX11_saltOfMix mX11_saltOfMix 1 := ⟨gw_at 1708 (by decide +kernel) (by decide +kernel), gw_at 117 (by decide +kernel) (by decide +kernel), trivial, ws_X11_saltOfMix, by decide +kernel, by decide +kernel, by decide +kernel, by decide⟩
theorem ki_X11_saltOfMix : Cond.instanceMethod yX11_saltOfMix ∈ gw ∧ Cond.selects yX11_saltOfMix.cls yX11_saltOfMix yX11_saltOfMix ∈ gw := ⟨gw_at 1710 (by decide +kernel) (by decide +kernel), gw_at 79 (by decide +kernel) (by decide +kernel)⟩
def f_Model_cistern_b34   (h : Hp) (x0 : Nat) (x1 : Int32) (x2 : Int32) (s0 : Nat) (s1 : Int32) : Option (Int32 × Hp) :=
if hS h s0 = 11 then (
bI (f_Model_throwsIf h s0 s1 (2 : Int32)) fun v2 h3 =>
if v2 = 0 then (
if (5 : Int32) ≤ x2 then (
if x2 = (5 : Int32) then (
if hS h3 x0 = 11 then (
bI (f_Model_measures h3 x0 x1) fun v9 h10 =>
some (v9, h10)
) else none
) else (
if hS h3 x0 = 11 then (
bI (f_Model_saltOfMix h3 x0 x1) fun v13 h14 =>
some (v13, h14)
) else none
)

) else (
if hS h3 x0 = 11 then (
bI (f_Model_ofCistern h3 x0 x1 x2) fun v17 h18 =>
some (v17, h18)
) else none
)

) else (
some ((0 : Int32), h3)

)
) else none
set_option maxRecDepth 20000 in
set_option maxHeartbeats 4000000 in
theorem f_Model_cistern_b34_ok {l : Launch} {X : Nat × (Nat → Int32)} (hst : l.stackTraces = false) {d : Nat} (hd : 4 ≤ d)     {h : Hp} {x0 : Nat} {x1 : Int32} {x2 : Int32} {s0 : Nat} {s1 : Int32} {r : Int32 × Hp} (E : f_Model_cistern_b34   h x0 x1 x2 s0 s1 = some r) : Rn l X mX11_cistern d 34 [(0, .ref x0), (1, .int x1), (2, .int x2)] [.int s1, .ref s0] h (eI r) r.2 := by
  unfold f_Model_cistern_b34 at E
  refine Rn.iconst (pc' := 35) (v := (2 : Int32)) (hv := by decide) dX11_cistern_34 rfl ?_
  obtain ⟨g1, E⟩ := gd_of E
  obtain ⟨v2, h3, e4, E⟩ := bI_of E
  refine Rn.callV1 (pc' := 38) (As := [.int s1, .int (2 : Int32)]) (rest := []) (f_Model_throwsIf_ok hst e4) (Nat.le_trans (by decide) hd) rfl kb_X11_265 ki_X11_throwsIf rfl g1 rfl rfl (Nat.le_of_ble_eq_true rfl) dX11_cistern_35 rfl rfl ?_
  refine Rn.if_eq (pc' := 41) (tgt := 43) dX11_cistern_38 (by decide) rfl (fun c5 => ?_) (fun c5 => ?_)
  · replace E := (if_of E).1 c5
    refine Rn.iload_n (pc' := 44) dX11_cistern_43 rfl 2 rfl rfl ?_
    refine Rn.iconst (pc' := 45) (v := (5 : Int32)) (hv := by decide) dX11_cistern_44 rfl ?_
    refine Rn.icmp_ge (pc' := 48) (tgt := 57) dX11_cistern_45 (by decide) rfl (fun c6 => ?_) (fun c6 => ?_)
    · replace E := (if_of E).1 c6
      refine Rn.iload_n (pc' := 58) dX11_cistern_57 rfl 2 rfl rfl ?_
      refine Rn.iconst (pc' := 59) (v := (5 : Int32)) (hv := by decide) dX11_cistern_58 rfl ?_
      refine Rn.icmp_ne (pc' := 62) (tgt := 70) dX11_cistern_59 (by decide) rfl (fun c7 => ?_) (fun c7 => ?_)
      · replace E := (if_of E).2 c7
        refine Rn.aload_n (pc' := 71) dX11_cistern_70 rfl 0 rfl rfl ?_
        refine Rn.iload_n (pc' := 72) dX11_cistern_71 rfl 1 rfl rfl ?_
        obtain ⟨g12, E⟩ := gd_of E
        obtain ⟨v13, h14, e15, E⟩ := bI_of E
        refine Rn.callV1 (pc' := 75) (As := [.int x1]) (rest := []) (f_Model_saltOfMix_ok hst e15) (Nat.le_trans (by decide) hd) rfl kb_X11_287 ki_X11_saltOfMix rfl g12 rfl rfl (Nat.le_of_ble_eq_true rfl) dX11_cistern_72 rfl rfl ?_
        cases E
        exact Rn.zret rfl rfl dX11_cistern_75
      · replace E := (if_of E).1 c7
        refine Rn.aload_n (pc' := 63) dX11_cistern_62 rfl 0 rfl rfl ?_
        refine Rn.iload_n (pc' := 64) dX11_cistern_63 rfl 1 rfl rfl ?_
        obtain ⟨g8, E⟩ := gd_of E
        obtain ⟨v9, h10, e11, E⟩ := bI_of E
        refine Rn.callV1 (pc' := 67) (As := [.int x1]) (rest := []) (f_Model_measures_ok hst e11) (Nat.le_trans (by decide) hd) rfl kb_X11_75 ki_X11_measures rfl g8 rfl rfl (Nat.le_of_ble_eq_true rfl) dX11_cistern_64 rfl rfl ?_
        refine Rn.goto (pc' := 75) dX11_cistern_67 (by decide) ?_
        cases E
        exact Rn.zret rfl rfl dX11_cistern_75
    · replace E := (if_of E).2 c6
      refine Rn.aload_n (pc' := 49) dX11_cistern_48 rfl 0 rfl rfl ?_
      refine Rn.iload_n (pc' := 50) dX11_cistern_49 rfl 1 rfl rfl ?_
      refine Rn.iload_n (pc' := 51) dX11_cistern_50 rfl 2 rfl rfl ?_
      obtain ⟨g16, E⟩ := gd_of E
      obtain ⟨v17, h18, e19, E⟩ := bI_of E
      refine Rn.callV1 (pc' := 54) (As := [.int x1, .int x2]) (rest := []) (f_Model_ofCistern_ok hst e19) (Nat.le_trans (by decide) hd) rfl kb_X11_69 ki_X11_ofCistern rfl g16 rfl rfl (Nat.le_of_ble_eq_true rfl) dX11_cistern_51 rfl rfl ?_
      refine Rn.goto (pc' := 75) dX11_cistern_54 (by decide) ?_
      cases E
      exact Rn.zret rfl rfl dX11_cistern_75
  · replace E := (if_of E).2 c5
    refine Rn.iconst (pc' := 42) (v := (0 : Int32)) (hv := by decide) dX11_cistern_41 rfl ?_
    cases E
    exact Rn.zret rfl rfl dX11_cistern_42
def f_Model_cistern_b0   (h : Hp) (x0 : Nat) (x1 : Int32) (x2 : Int32)  : Option (Int32 × Hp) :=
if hS h x0 = 11 then (
wr (sI h x0 0 (0 : Int32)) fun h2 =>
bI (f_Model_noCistern h2 x0 x1) fun v4 h5 =>
if hS h5 x0 = 11 then (
bI (f_Model_throwsIf h5 x0 v4 (1 : Int32)) fun v8 h9 =>
if v8 = 0 then (
bI (f_Model_in h9 x2 (0 : Int32) (6 : Int32)) fun v12 h13 =>
if v12 = 0 then (
f_Model_cistern_b34   h13 x0 x1 x2 x0 (1 : Int32)

) else (
f_Model_cistern_b34   h13 x0 x1 x2 x0 (0 : Int32)

)

) else (
some ((0 : Int32), h9)

)
) else none) else none
set_option maxRecDepth 20000 in
set_option maxHeartbeats 4000000 in
theorem f_Model_cistern_b0_ok {l : Launch} {X : Nat × (Nat → Int32)} (hst : l.stackTraces = false) {d : Nat} (hd : 4 ≤ d)     {h : Hp} {x0 : Nat} {x1 : Int32} {x2 : Int32}  {r : Int32 × Hp} (E : f_Model_cistern_b0   h x0 x1 x2 = some r) : Rn l X mX11_cistern d 0 [(0, .ref x0), (1, .int x1), (2, .int x2)] [] h (eI r) r.2 := by
  unfold f_Model_cistern_b0 at E
  refine Rn.aload_n (pc' := 1) dX11_cistern_0 rfl 0 rfl rfl ?_
  refine Rn.iconst (pc' := 2) (v := (0 : Int32)) (hv := by decide) dX11_cistern_1 rfl ?_
  obtain ⟨g1, E⟩ := gd_of E
  refine Rn.putI (pc' := 5) fl_X11_3_10 (fun q hq => by cases hq; decide) g1 rfl rfl rfl dX11_cistern_2 rfl ?_
  replace E := wr_of E
  generalize eh3 : sI h x0 0 (0 : Int32) = h2 at E ⊢
  refine Rn.aload_n (pc' := 6) dX11_cistern_5 rfl 0 rfl rfl ?_
  refine Rn.aload_n (pc' := 7) dX11_cistern_6 rfl 0 rfl rfl ?_
  refine Rn.iload_n (pc' := 8) dX11_cistern_7 rfl 1 rfl rfl ?_
  obtain ⟨v4, h5, e6, E⟩ := bI_of E
  refine Rn.callV1 (pc' := 11) (As := [.int x1]) (rest := [.ref x0]) (f_Model_noCistern_ok hst e6) (Nat.le_trans (by decide) hd) rfl kb_X11_284 ki_X11_noCistern rfl (kp_sI eh3 g1) rfl rfl (Nat.le_of_ble_eq_true rfl) dX11_cistern_8 rfl rfl ?_
  refine Rn.iconst (pc' := 12) (v := (1 : Int32)) (hv := by decide) dX11_cistern_11 rfl ?_
  obtain ⟨g7, E⟩ := gd_of E
  obtain ⟨v8, h9, e10, E⟩ := bI_of E
  refine Rn.callV1 (pc' := 15) (As := [.int v4, .int (1 : Int32)]) (rest := []) (f_Model_throwsIf_ok hst e10) (Nat.le_trans (by decide) hd) rfl kb_X11_265 ki_X11_throwsIf rfl g7 rfl rfl (Nat.le_of_ble_eq_true rfl) dX11_cistern_12 rfl rfl ?_
  refine Rn.if_ne (pc' := 18) (tgt := 41) dX11_cistern_15 (by decide) rfl (fun c11 => ?_) (fun c11 => ?_)
  · replace E := (if_of E).2 c11
    refine Rn.iconst (pc' := 42) (v := (0 : Int32)) (hv := by decide) dX11_cistern_41 rfl ?_
    cases E
    exact Rn.zret rfl rfl dX11_cistern_42
  · replace E := (if_of E).1 c11
    refine Rn.aload_n (pc' := 19) dX11_cistern_18 rfl 0 rfl rfl ?_
    refine Rn.iload_n (pc' := 20) dX11_cistern_19 rfl 2 rfl rfl ?_
    refine Rn.iconst (pc' := 21) (v := (0 : Int32)) (hv := by decide) dX11_cistern_20 rfl ?_
    refine Rn.bipush (pc' := 23) (v := (6 : Int32)) (hv := by decide) dX11_cistern_21 rfl ?_
    obtain ⟨v12, h13, e14, E⟩ := bI_of E
    refine Rn.callS1 (pc' := 26) (As := [.int x2, .int (0 : Int32), .int (6 : Int32)]) (rest := [.ref x0]) (f_Model_in_ok hst e14) (Nat.le_trans (by decide) hd) rfl kb_X11_56 ks_X11_in rfl rfl (Nat.le_of_ble_eq_true rfl) dX11_cistern_23 rfl rfl ?_
    refine Rn.if_ne (pc' := 29) (tgt := 33) dX11_cistern_26 (by decide) rfl (fun c15 => ?_) (fun c15 => ?_)
    · replace E := (if_of E).2 c15
      refine Rn.iconst (pc' := 34) (v := (0 : Int32)) (hv := by decide) dX11_cistern_33 rfl ?_
      exact f_Model_cistern_b34_ok hst hd   E
    · replace E := (if_of E).1 c15
      refine Rn.iconst (pc' := 30) (v := (1 : Int32)) (hv := by decide) dX11_cistern_29 rfl ?_
      refine Rn.goto (pc' := 34) dX11_cistern_30 (by decide) ?_
      exact f_Model_cistern_b34_ok hst hd   E
def f_Model_cistern (h : Hp) (x0 : Nat) (x1 : Int32) (x2 : Int32) : Option (Int32 × Hp) := f_Model_cistern_b0  h x0 x1 x2
theorem f_Model_cistern_ok {l : Launch} {X : Nat × (Nat → Int32)} (hst : l.stackTraces = false) {h : Hp} {x0 : Nat} {x1 : Int32} {x2 : Int32} {r : Int32 × Hp} (E : f_Model_cistern h x0 x1 x2 = some r) : MC l X yX11_cistern mX11_cistern 4 [.ref x0, .int x1, .int x2] h (eI r) r.2 :=
  MC.body (by decide +kernel) rfl (by decide) hst (Nat.le_of_ble_eq_true rfl) (f_Model_cistern_b0_ok hst (Nat.le_refl _) E)
abbrev mX10_fault : MI := (RX10, cX10_fault, 1, (some Jvm.ClassFile.FieldType.int), [], false)
theorem ws_X10_fault : ∀ w ∈ wsM yX10_fault mX10_fault, w ∈ gw := List.forall_mem_cons.mpr ⟨gw_at 487 (by decide +kernel) (by decide +kernel), fun _ h => h⟩
def f_Water_fault_b0   (h : Hp) (x0 : Nat)  : Option (Int32 × Hp) :=
if hS h x0 = 10 then (
some ((hI h x0 11), h)
) else none
set_option maxRecDepth 20000 in
set_option maxHeartbeats 4000000 in
theorem f_Water_fault_b0_ok {l : Launch} {X : Nat × (Nat → Int32)} (hst : l.stackTraces = false) {d : Nat} (hd : 0 ≤ d)     {h : Hp} {x0 : Nat}  {r : Int32 × Hp} (E : f_Water_fault_b0   h x0 = some r) : Rn l X mX10_fault d 0 [(0, .ref x0)] [] h (eI r) r.2 := by
  unfold f_Water_fault_b0 at E
  refine Rn.aload_n (pc' := 1) dX10_fault_0 rfl 0 rfl rfl ?_
  obtain ⟨g1, E⟩ := gd_of E
  refine Rn.getI (pc' := 4) fl_X10_62_9 g1 rfl dX10_fault_1 rfl ?_
  cases E
  exact Rn.zret rfl rfl dX10_fault_4
def f_Water_fault (h : Hp) (x0 : Nat) : Option (Int32 × Hp) := f_Water_fault_b0  h x0
theorem f_Water_fault_ok {l : Launch} {X : Nat × (Nat → Int32)} (hst : l.stackTraces = false) {h : Hp} {x0 : Nat} {r : Int32 × Hp} (E : f_Water_fault h x0 = some r) : MC l X yX10_fault mX10_fault 0 [.ref x0] h (eI r) r.2 :=
  MC.body (by decide +kernel) rfl (by decide) hst (Nat.le_of_ble_eq_true rfl) (f_Water_fault_b0_ok hst (Nat.le_refl _) E)
abbrev mX11_fault : MI := (RX11, cX11_fault, 1, (some Jvm.ClassFile.FieldType.int), [], false)
theorem ws_X11_fault : ∀ w ∈ wsM yX11_fault mX11_fault, w ∈ gw := List.forall_mem_cons.mpr ⟨gw_at 1506 (by decide +kernel) (by decide +kernel), fun _ h => h⟩
def f_Model_fault_b0   (h : Hp) (x0 : Nat)  : Option (Int32 × Hp) :=
if hS h x0 = 11 then (
wr (sI h x0 0 (0 : Int32)) fun h2 =>
some ((hI h2 x0 14), h2)
) else none
set_option maxRecDepth 20000 in
set_option maxHeartbeats 4000000 in
theorem f_Model_fault_b0_ok {l : Launch} {X : Nat × (Nat → Int32)} (hst : l.stackTraces = false) {d : Nat} (hd : 0 ≤ d)     {h : Hp} {x0 : Nat}  {r : Int32 × Hp} (E : f_Model_fault_b0   h x0 = some r) : Rn l X mX11_fault d 0 [(0, .ref x0)] [] h (eI r) r.2 := by
  unfold f_Model_fault_b0 at E
  refine Rn.aload_n (pc' := 1) dX11_fault_0 rfl 0 rfl rfl ?_
  refine Rn.iconst (pc' := 2) (v := (0 : Int32)) (hv := by decide) dX11_fault_1 rfl ?_
  obtain ⟨g1, E⟩ := gd_of E
  refine Rn.putI (pc' := 5) fl_X11_3_10 (fun q hq => by cases hq; decide) g1 rfl rfl rfl dX11_fault_2 rfl ?_
  replace E := wr_of E
  generalize eh3 : sI h x0 0 (0 : Int32) = h2 at E ⊢
  refine Rn.aload_n (pc' := 6) dX11_fault_5 rfl 0 rfl rfl ?_
  refine Rn.getI (pc' := 9) fl_X11_33_10 (kp_sI eh3 g1) rfl dX11_fault_6 rfl ?_
  cases E
  exact Rn.zret rfl rfl dX11_fault_9
def f_Model_fault (h : Hp) (x0 : Nat) : Option (Int32 × Hp) := f_Model_fault_b0  h x0
theorem f_Model_fault_ok {l : Launch} {X : Nat × (Nat → Int32)} (hst : l.stackTraces = false) {h : Hp} {x0 : Nat} {r : Int32 × Hp} (E : f_Model_fault h x0 = some r) : MC l X yX11_fault mX11_fault 0 [.ref x0] h (eI r) r.2 :=
  MC.body (by decide +kernel) rfl (by decide) hst (Nat.le_of_ble_eq_true rfl) (f_Model_fault_b0_ok hst (Nat.le_refl _) E)
abbrev mX6_begin : MI := (RX6, cX6_begin, 1, none, [], false)
theorem ws_X6_begin : ∀ w ∈ wsM yX6_begin mX6_begin, w ∈ gw := List.forall_mem_cons.mpr ⟨gw_at 1051 (by decide +kernel) (by decide +kernel), fun _ h => h⟩
theorem fl_X6_21_6 : FL RX6 21 6 2 := ⟨_, rfl, by decide, "VintageWater$LawText", gw_at 195 (by decide +kernel) (by decide +kernel), Or.inr (gw_at 196 (by decide +kernel) (by decide +kernel))⟩
theorem fl_X6_25_6 : FL RX6 25 6 6 := ⟨_, rfl, by decide, "VintageWater$LawText", gw_at 233 (by decide +kernel) (by decide +kernel), Or.inl rfl⟩
def f_LawText_begin_b0   (h : Hp) (x0 : Nat)  : Option (Hp) :=
if hS h x0 = 7 then (
wr (sI h x0 2 (0 : Int32)) fun h2 =>
wr (sI h2 x0 6 (0 : Int32)) fun h4 =>
some h4
) else none
set_option maxRecDepth 20000 in
set_option maxHeartbeats 4000000 in
theorem f_LawText_begin_b0_ok {l : Launch} {X : Nat × (Nat → Int32)} (hst : l.stackTraces = false) {d : Nat} (hd : 0 ≤ d)     {h : Hp} {x0 : Nat}  {r : Hp} (E : f_LawText_begin_b0   h x0 = some r) : Rn l X mX6_begin d 0 [(0, .ref x0)] [] h (eV r) r := by
  unfold f_LawText_begin_b0 at E
  refine Rn.aload_n (pc' := 1) dX6_begin_0 rfl 0 rfl rfl ?_
  refine Rn.iconst (pc' := 2) (v := (0 : Int32)) (hv := by decide) dX6_begin_1 rfl ?_
  obtain ⟨g1, E⟩ := gd_of E
  refine Rn.putI (pc' := 5) fl_X6_21_6 (fun q hq => by cases hq; decide) g1 rfl rfl rfl dX6_begin_2 rfl ?_
  replace E := wr_of E
  generalize eh3 : sI h x0 2 (0 : Int32) = h2 at E ⊢
  refine Rn.aload_n (pc' := 6) dX6_begin_5 rfl 0 rfl rfl ?_
  refine Rn.iconst (pc' := 7) (v := (0 : Int32)) (hv := by decide) dX6_begin_6 rfl ?_
  refine Rn.putI (pc' := 10) fl_X6_25_6 (fun q hq => by cases hq; decide) (kp_sI eh3 g1) rfl rfl rfl dX6_begin_7 rfl ?_
  replace E := wr_of E
  generalize eh5 : sI h2 x0 6 (0 : Int32) = h4 at E ⊢
  cases E
  exact Rn.vret rfl dX6_begin_10
def f_LawText_begin (h : Hp) (x0 : Nat) : Option (Hp) := f_LawText_begin_b0  h x0
theorem f_LawText_begin_ok {l : Launch} {X : Nat × (Nat → Int32)} (hst : l.stackTraces = false) {h : Hp} {x0 : Nat} {r : Hp} (E : f_LawText_begin h x0 = some r) : MC l X yX6_begin mX6_begin 0 [.ref x0] h (eV r) r :=
  MC.body (by decide +kernel) rfl (by decide) hst (Nat.le_of_ble_eq_true rfl) (f_LawText_begin_b0_ok hst (Nat.le_refl _) E)
abbrev mX9_behindBlanks : MI := (RX9, cX9_behindBlanks, 3, (some Jvm.ClassFile.FieldType.int), [], false)
theorem ws_X9_behindBlanks : ∀ w ∈ wsM yX9_behindBlanks mX9_behindBlanks, w ∈ gw := List.forall_mem_cons.mpr ⟨gw_at 736 (by decide +kernel) (by decide +kernel), fun _ h => h⟩
theorem kb_X9_43 : KB RX9 43 yX9_byteAt mX9_byteAt 1 := ⟨gw_at 737 (by decide +kernel) (by decide +kernel), gw_at 108 (by decide +kernel) (by decide +kernel), trivial, ws_X9_byteAt, by decide +kernel, by decide +kernel, by decide +kernel, by decide⟩
def f_Tape_behindBlanks_b2  (k2 : Hp → Nat → Int32 → Option (Int32 × Hp)) (h : Hp) (x0 : Nat) (x2 : Int32)  : Option (Int32 × Hp) :=
if hS h x0 = 9 then (
if (hI h x0 1) ≤ x2 then (
some (x2, h)

) else (
bI (f_Tape_byteAt h x0 x2) fun v3 h4 =>
if v3 = (32 : Int32) then (
k2 h4 x0 (x2 + (1 : Int32))

) else (
some (x2, h4)

)

)
) else none
set_option maxRecDepth 20000 in
set_option maxHeartbeats 4000000 in
theorem f_Tape_behindBlanks_b2_ok {l : Launch} {X : Nat × (Nat → Int32)} (hst : l.stackTraces = false) {d : Nat} (hd : 1 ≤ d)   {k2 : Hp → Nat → Int32 → Option (Int32 × Hp)} (hk2 : ∀ (h : Hp) (x0 : Nat) (x2 : Int32)  (r : Int32 × Hp), k2 h x0 x2 = some r → Rn l X mX9_behindBlanks d 2 [(0, .ref x0), (2, .int x2)] [] h (eI r) r.2) {h : Hp} {x0 : Nat} {x2 : Int32}  {r : Int32 × Hp} (E : f_Tape_behindBlanks_b2  k2 h x0 x2 = some r) : Rn l X mX9_behindBlanks d 2 [(0, .ref x0), (2, .int x2)] [] h (eI r) r.2 := by
  unfold f_Tape_behindBlanks_b2 at E
  refine Rn.iload_n (pc' := 3) dX9_behindBlanks_2 rfl 1 rfl rfl ?_
  refine Rn.aload_n (pc' := 4) dX9_behindBlanks_3 rfl 0 rfl rfl ?_
  obtain ⟨g1, E⟩ := gd_of E
  refine Rn.getI (pc' := 7) fl_X9_22_8 g1 rfl dX9_behindBlanks_4 rfl ?_
  refine Rn.icmp_ge (pc' := 10) (tgt := 26) dX9_behindBlanks_7 (by decide) rfl (fun c2 => ?_) (fun c2 => ?_)
  · replace E := (if_of E).1 c2
    refine Rn.iload_n (pc' := 27) dX9_behindBlanks_26 rfl 1 rfl rfl ?_
    cases E
    exact Rn.zret rfl rfl dX9_behindBlanks_27
  · replace E := (if_of E).2 c2
    refine Rn.aload_n (pc' := 11) dX9_behindBlanks_10 rfl 0 rfl rfl ?_
    refine Rn.iload_n (pc' := 12) dX9_behindBlanks_11 rfl 1 rfl rfl ?_
    obtain ⟨v3, h4, e5, E⟩ := bI_of E
    refine Rn.callV1 (pc' := 15) (As := [.int x2]) (rest := []) (f_Tape_byteAt_ok hst e5) (Nat.le_trans (by decide) hd) rfl kb_X9_43 ki_X9_byteAt rfl g1 rfl rfl (Nat.le_of_ble_eq_true rfl) dX9_behindBlanks_12 rfl rfl ?_
    refine Rn.bipush (pc' := 17) (v := (32 : Int32)) (hv := by decide) dX9_behindBlanks_15 rfl ?_
    refine Rn.icmp_ne (pc' := 20) (tgt := 26) dX9_behindBlanks_17 (by decide) rfl (fun c6 => ?_) (fun c6 => ?_)
    · replace E := (if_of E).2 c6
      refine Rn.iload_n (pc' := 27) dX9_behindBlanks_26 rfl 1 rfl rfl ?_
      cases E
      exact Rn.zret rfl rfl dX9_behindBlanks_27
    · replace E := (if_of E).1 c6
      refine Rn.iinc (pc' := 23) (v := (x2 + (1 : Int32))) (L' := [(2, .int (x2 + (1 : Int32))), (0, .ref x0)]) dX9_behindBlanks_20 1 rfl rfl (by decide) rfl rfl ?_
      refine Rn.goto (pc' := 2) dX9_behindBlanks_23 (by decide) ?_
      refine Rn.sub [1, 0] rfl ?_
      exact hk2 _ _ _ _ E
def f_Tape_behindBlanks_L2   (n : Nat) : Hp → Nat → Int32 → Option (Int32 × Hp) := Nat.rec (motive := fun _ => Hp → Nat → Int32 → Option (Int32 × Hp)) (fun _ _ _ => none) (fun _ rec => f_Tape_behindBlanks_b2   rec) n
theorem f_Tape_behindBlanks_L2_ok {l : Launch} {X : Nat × (Nat → Int32)} (hst : l.stackTraces = false) {d : Nat} (hd : 1 ≤ d)     : ∀ (n : Nat) (h : Hp) (x0 : Nat) (x2 : Int32)  (r : Int32 × Hp), f_Tape_behindBlanks_L2   n h x0 x2 = some r → Rn l X mX9_behindBlanks d 2 [(0, .ref x0), (2, .int x2)] [] h (eI r) r.2 := by
  intro n
  induction n with
  | zero => intro h x0 x2 r E; cases E
  | succ n ih => intro h x0 x2 r E; exact f_Tape_behindBlanks_b2_ok hst hd   ih E
def f_Tape_behindBlanks_b0   (h : Hp) (x0 : Nat) (x1 : Int32)  : Option (Int32 × Hp) :=
f_Tape_behindBlanks_L2   FU h x0 x1

set_option maxRecDepth 20000 in
set_option maxHeartbeats 4000000 in
theorem f_Tape_behindBlanks_b0_ok {l : Launch} {X : Nat × (Nat → Int32)} (hst : l.stackTraces = false) {d : Nat} (hd : 1 ≤ d)     {h : Hp} {x0 : Nat} {x1 : Int32}  {r : Int32 × Hp} (E : f_Tape_behindBlanks_b0   h x0 x1 = some r) : Rn l X mX9_behindBlanks d 0 [(0, .ref x0), (1, .int x1)] [] h (eI r) r.2 := by
  unfold f_Tape_behindBlanks_b0 at E
  refine Rn.iload_n (pc' := 1) dX9_behindBlanks_0 rfl 1 rfl rfl ?_
  refine Rn.istore_n (pc' := 2) (L' := [(2, .int x1), (0, .ref x0), (1, .int x1)]) dX9_behindBlanks_1 rfl (by decide) rfl rfl ?_
  refine Rn.sub [1, 0] rfl ?_
  exact f_Tape_behindBlanks_L2_ok hst hd   FU _ _ _ _ E
def f_Tape_behindBlanks (h : Hp) (x0 : Nat) (x1 : Int32) : Option (Int32 × Hp) := f_Tape_behindBlanks_b0  h x0 x1
theorem f_Tape_behindBlanks_ok {l : Launch} {X : Nat × (Nat → Int32)} (hst : l.stackTraces = false) {h : Hp} {x0 : Nat} {x1 : Int32} {r : Int32 × Hp} (E : f_Tape_behindBlanks h x0 x1 = some r) : MC l X yX9_behindBlanks mX9_behindBlanks 1 [.ref x0, .int x1] h (eI r) r.2 :=
  MC.body (by decide +kernel) rfl (by decide) hst (Nat.le_of_ble_eq_true rfl) (f_Tape_behindBlanks_b0_ok hst (Nat.le_refl _) E)
abbrev mX9_isLetter : MI := (RX9, cX9_isLetter, 2, (some Jvm.ClassFile.FieldType.boolean), [], false)
theorem ws_X9_isLetter : ∀ w ∈ wsM yX9_isLetter mX9_isLetter, w ∈ gw := List.forall_mem_cons.mpr ⟨gw_at 748 (by decide +kernel) (by decide +kernel), fun _ h => h⟩
def f_Tape_isLetter_b0   (h : Hp) (x0 : Nat) (x1 : Int32)  : Option (Int32 × Hp) :=
if hS h x0 = 9 then (
bI (f_Tape_byteAt h x0 x1) fun v2 h3 =>
if v2 < (97 : Int32) then (
some ((0 : Int32), h3)

) else (
if hS h3 x0 = 9 then (
bI (f_Tape_byteAt h3 x0 x1) fun v7 h8 =>
if (122 : Int32) < v7 then (
some ((0 : Int32), h8)

) else (
some ((1 : Int32), h8)

)
) else none
)
) else none
set_option maxRecDepth 20000 in
set_option maxHeartbeats 4000000 in
theorem f_Tape_isLetter_b0_ok {l : Launch} {X : Nat × (Nat → Int32)} (hst : l.stackTraces = false) {d : Nat} (hd : 1 ≤ d)     {h : Hp} {x0 : Nat} {x1 : Int32}  {r : Int32 × Hp} (E : f_Tape_isLetter_b0   h x0 x1 = some r) : Rn l X mX9_isLetter d 0 [(0, .ref x0), (1, .int x1)] [] h (eI r) r.2 := by
  unfold f_Tape_isLetter_b0 at E
  refine Rn.aload_n (pc' := 1) dX9_isLetter_0 rfl 0 rfl rfl ?_
  refine Rn.iload_n (pc' := 2) dX9_isLetter_1 rfl 1 rfl rfl ?_
  obtain ⟨g1, E⟩ := gd_of E
  obtain ⟨v2, h3, e4, E⟩ := bI_of E
  refine Rn.callV1 (pc' := 5) (As := [.int x1]) (rest := []) (f_Tape_byteAt_ok hst e4) (Nat.le_trans (by decide) hd) rfl kb_X9_43 ki_X9_byteAt rfl g1 rfl rfl (Nat.le_of_ble_eq_true rfl) dX9_isLetter_2 rfl rfl ?_
  refine Rn.bipush (pc' := 7) (v := (97 : Int32)) (hv := by decide) dX9_isLetter_5 rfl ?_
  refine Rn.icmp_lt (pc' := 10) (tgt := 24) dX9_isLetter_7 (by decide) rfl (fun c5 => ?_) (fun c5 => ?_)
  · replace E := (if_of E).1 c5
    refine Rn.iconst (pc' := 25) (v := (0 : Int32)) (hv := by decide) dX9_isLetter_24 rfl ?_
    cases E
    exact Rn.zret rfl rfl dX9_isLetter_25
  · replace E := (if_of E).2 c5
    refine Rn.aload_n (pc' := 11) dX9_isLetter_10 rfl 0 rfl rfl ?_
    refine Rn.iload_n (pc' := 12) dX9_isLetter_11 rfl 1 rfl rfl ?_
    obtain ⟨g6, E⟩ := gd_of E
    obtain ⟨v7, h8, e9, E⟩ := bI_of E
    refine Rn.callV1 (pc' := 15) (As := [.int x1]) (rest := []) (f_Tape_byteAt_ok hst e9) (Nat.le_trans (by decide) hd) rfl kb_X9_43 ki_X9_byteAt rfl g6 rfl rfl (Nat.le_of_ble_eq_true rfl) dX9_isLetter_12 rfl rfl ?_
    refine Rn.bipush (pc' := 17) (v := (122 : Int32)) (hv := by decide) dX9_isLetter_15 rfl ?_
    refine Rn.icmp_gt (pc' := 20) (tgt := 24) dX9_isLetter_17 (by decide) rfl (fun c10 => ?_) (fun c10 => ?_)
    · replace E := (if_of E).1 c10
      refine Rn.iconst (pc' := 25) (v := (0 : Int32)) (hv := by decide) dX9_isLetter_24 rfl ?_
      cases E
      exact Rn.zret rfl rfl dX9_isLetter_25
    · replace E := (if_of E).2 c10
      refine Rn.iconst (pc' := 21) (v := (1 : Int32)) (hv := by decide) dX9_isLetter_20 rfl ?_
      refine Rn.goto (pc' := 25) dX9_isLetter_21 (by decide) ?_
      cases E
      exact Rn.zret rfl rfl dX9_isLetter_25
def f_Tape_isLetter (h : Hp) (x0 : Nat) (x1 : Int32) : Option (Int32 × Hp) := f_Tape_isLetter_b0  h x0 x1
theorem f_Tape_isLetter_ok {l : Launch} {X : Nat × (Nat → Int32)} (hst : l.stackTraces = false) {h : Hp} {x0 : Nat} {x1 : Int32} {r : Int32 × Hp} (E : f_Tape_isLetter h x0 x1 = some r) : MC l X yX9_isLetter mX9_isLetter 1 [.ref x0, .int x1] h (eI r) r.2 :=
  MC.body (by decide +kernel) rfl (by decide) hst (Nat.le_of_ble_eq_true rfl) (f_Tape_isLetter_b0_ok hst (Nat.le_refl _) E)
abbrev mX9_isDigit : MI := (RX9, cX9_isDigit, 2, (some Jvm.ClassFile.FieldType.boolean), [], false)
theorem ws_X9_isDigit : ∀ w ∈ wsM yX9_isDigit mX9_isDigit, w ∈ gw := List.forall_mem_cons.mpr ⟨gw_at 752 (by decide +kernel) (by decide +kernel), fun _ h => h⟩
def f_Tape_isDigit_b0   (h : Hp) (x0 : Nat) (x1 : Int32)  : Option (Int32 × Hp) :=
if hS h x0 = 9 then (
bI (f_Tape_byteAt h x0 x1) fun v2 h3 =>
if v2 < (48 : Int32) then (
some ((0 : Int32), h3)

) else (
if hS h3 x0 = 9 then (
bI (f_Tape_byteAt h3 x0 x1) fun v7 h8 =>
if (57 : Int32) < v7 then (
some ((0 : Int32), h8)

) else (
some ((1 : Int32), h8)

)
) else none
)
) else none
set_option maxRecDepth 20000 in
set_option maxHeartbeats 4000000 in
theorem f_Tape_isDigit_b0_ok {l : Launch} {X : Nat × (Nat → Int32)} (hst : l.stackTraces = false) {d : Nat} (hd : 1 ≤ d)     {h : Hp} {x0 : Nat} {x1 : Int32}  {r : Int32 × Hp} (E : f_Tape_isDigit_b0   h x0 x1 = some r) : Rn l X mX9_isDigit d 0 [(0, .ref x0), (1, .int x1)] [] h (eI r) r.2 := by
  unfold f_Tape_isDigit_b0 at E
  refine Rn.aload_n (pc' := 1) dX9_isDigit_0 rfl 0 rfl rfl ?_
  refine Rn.iload_n (pc' := 2) dX9_isDigit_1 rfl 1 rfl rfl ?_
  obtain ⟨g1, E⟩ := gd_of E
  obtain ⟨v2, h3, e4, E⟩ := bI_of E
  refine Rn.callV1 (pc' := 5) (As := [.int x1]) (rest := []) (f_Tape_byteAt_ok hst e4) (Nat.le_trans (by decide) hd) rfl kb_X9_43 ki_X9_byteAt rfl g1 rfl rfl (Nat.le_of_ble_eq_true rfl) dX9_isDigit_2 rfl rfl ?_
  refine Rn.bipush (pc' := 7) (v := (48 : Int32)) (hv := by decide) dX9_isDigit_5 rfl ?_
  refine Rn.icmp_lt (pc' := 10) (tgt := 24) dX9_isDigit_7 (by decide) rfl (fun c5 => ?_) (fun c5 => ?_)
  · replace E := (if_of E).1 c5
    refine Rn.iconst (pc' := 25) (v := (0 : Int32)) (hv := by decide) dX9_isDigit_24 rfl ?_
    cases E
    exact Rn.zret rfl rfl dX9_isDigit_25
  · replace E := (if_of E).2 c5
    refine Rn.aload_n (pc' := 11) dX9_isDigit_10 rfl 0 rfl rfl ?_
    refine Rn.iload_n (pc' := 12) dX9_isDigit_11 rfl 1 rfl rfl ?_
    obtain ⟨g6, E⟩ := gd_of E
    obtain ⟨v7, h8, e9, E⟩ := bI_of E
    refine Rn.callV1 (pc' := 15) (As := [.int x1]) (rest := []) (f_Tape_byteAt_ok hst e9) (Nat.le_trans (by decide) hd) rfl kb_X9_43 ki_X9_byteAt rfl g6 rfl rfl (Nat.le_of_ble_eq_true rfl) dX9_isDigit_12 rfl rfl ?_
    refine Rn.bipush (pc' := 17) (v := (57 : Int32)) (hv := by decide) dX9_isDigit_15 rfl ?_
    refine Rn.icmp_gt (pc' := 20) (tgt := 24) dX9_isDigit_17 (by decide) rfl (fun c10 => ?_) (fun c10 => ?_)
    · replace E := (if_of E).1 c10
      refine Rn.iconst (pc' := 25) (v := (0 : Int32)) (hv := by decide) dX9_isDigit_24 rfl ?_
      cases E
      exact Rn.zret rfl rfl dX9_isDigit_25
    · replace E := (if_of E).2 c10
      refine Rn.iconst (pc' := 21) (v := (1 : Int32)) (hv := by decide) dX9_isDigit_20 rfl ?_
      refine Rn.goto (pc' := 25) dX9_isDigit_21 (by decide) ?_
      cases E
      exact Rn.zret rfl rfl dX9_isDigit_25
def f_Tape_isDigit (h : Hp) (x0 : Nat) (x1 : Int32) : Option (Int32 × Hp) := f_Tape_isDigit_b0  h x0 x1
theorem f_Tape_isDigit_ok {l : Launch} {X : Nat × (Nat → Int32)} (hst : l.stackTraces = false) {h : Hp} {x0 : Nat} {x1 : Int32} {r : Int32 × Hp} (E : f_Tape_isDigit h x0 x1 = some r) : MC l X yX9_isDigit mX9_isDigit 1 [.ref x0, .int x1] h (eI r) r.2 :=
  MC.body (by decide +kernel) rfl (by decide) hst (Nat.le_of_ble_eq_true rfl) (f_Tape_isDigit_b0_ok hst (Nat.le_refl _) E)
abbrev mX9_behindThing : MI := (RX9, cX9_behindThing, 5, (some Jvm.ClassFile.FieldType.int), [], false)
theorem ws_X9_behindThing : ∀ w ∈ wsM yX9_behindThing mX9_behindThing, w ∈ gw := List.forall_mem_cons.mpr ⟨gw_at 744 (by decide +kernel) (by decide +kernel), fun _ h => h⟩
def f_Tape_behindThing_b52  (k17 : Hp → Nat → Int32 → Int32 → Int32 → Option (Int32 × Hp)) (h : Hp) (x0 : Nat) (x2 : Int32) (x3 : Int32) (x4 : Int32)  : Option (Int32 × Hp) :=
k17 h x0 x2 x3 (x4 + (1 : Int32))

set_option maxRecDepth 20000 in
set_option maxHeartbeats 4000000 in
theorem f_Tape_behindThing_b52_ok {l : Launch} {X : Nat × (Nat → Int32)} (hst : l.stackTraces = false) {d : Nat} (hd : 2 ≤ d)   {k17 : Hp → Nat → Int32 → Int32 → Int32 → Option (Int32 × Hp)} (hk17 : ∀ (h : Hp) (x0 : Nat) (x2 : Int32) (x3 : Int32) (x4 : Int32)  (r : Int32 × Hp), k17 h x0 x2 x3 x4 = some r → Rn l X mX9_behindThing d 17 [(0, .ref x0), (2, .int x2), (3, .int x3), (4, .int x4)] [] h (eI r) r.2) {h : Hp} {x0 : Nat} {x2 : Int32} {x3 : Int32} {x4 : Int32}  {r : Int32 × Hp} (E : f_Tape_behindThing_b52  k17 h x0 x2 x3 x4 = some r) : Rn l X mX9_behindThing d 52 [(0, .ref x0), (2, .int x2), (3, .int x3), (4, .int x4)] [] h (eI r) r.2 := by
  unfold f_Tape_behindThing_b52 at E
  refine Rn.iinc (pc' := 55) (v := (x4 + (1 : Int32))) (L' := [(4, .int (x4 + (1 : Int32))), (0, .ref x0), (2, .int x2), (3, .int x3)]) dX9_behindThing_52 3 rfl rfl (by decide) rfl rfl ?_
  refine Rn.goto (pc' := 17) dX9_behindThing_55 (by decide) ?_
  refine Rn.sub [1, 2, 3, 0] rfl ?_
  exact hk17 _ _ _ _ _ _ E
theorem kb_X9_50 : KB RX9 50 yX9_isDigit mX9_isDigit 1 := ⟨gw_at 749 (by decide +kernel) (by decide +kernel), gw_at 108 (by decide +kernel) (by decide +kernel), trivial, ws_X9_isDigit, by decide +kernel, by decide +kernel, by decide +kernel, by decide⟩
theorem ki_X9_isDigit : Cond.instanceMethod yX9_isDigit ∈ gw ∧ Cond.selects yX9_isDigit.cls yX9_isDigit yX9_isDigit ∈ gw := ⟨gw_at 751 (by decide +kernel) (by decide +kernel), gw_at 12 (by decide +kernel) (by decide +kernel)⟩
def f_Tape_behindThing_b39  (k17 : Hp → Nat → Int32 → Int32 → Int32 → Option (Int32 × Hp)) (h : Hp) (x0 : Nat) (x2 : Int32) (x3 : Int32) (x4 : Int32)  : Option (Int32 × Hp) :=
if x3 = 0 then (
some (x4, h)

) else (
if hS h x0 = 9 then (
bI (f_Tape_isDigit h x0 x4) fun v3 h4 =>
if v3 = 0 then (
some (x4, h4)

) else (
f_Tape_behindThing_b52  k17 h4 x0 x2 x3 x4

)
) else none
)

set_option maxRecDepth 20000 in
set_option maxHeartbeats 4000000 in
theorem f_Tape_behindThing_b39_ok {l : Launch} {X : Nat × (Nat → Int32)} (hst : l.stackTraces = false) {d : Nat} (hd : 2 ≤ d)   {k17 : Hp → Nat → Int32 → Int32 → Int32 → Option (Int32 × Hp)} (hk17 : ∀ (h : Hp) (x0 : Nat) (x2 : Int32) (x3 : Int32) (x4 : Int32)  (r : Int32 × Hp), k17 h x0 x2 x3 x4 = some r → Rn l X mX9_behindThing d 17 [(0, .ref x0), (2, .int x2), (3, .int x3), (4, .int x4)] [] h (eI r) r.2) {h : Hp} {x0 : Nat} {x2 : Int32} {x3 : Int32} {x4 : Int32}  {r : Int32 × Hp} (E : f_Tape_behindThing_b39  k17 h x0 x2 x3 x4 = some r) : Rn l X mX9_behindThing d 39 [(0, .ref x0), (2, .int x2), (3, .int x3), (4, .int x4)] [] h (eI r) r.2 := by
  unfold f_Tape_behindThing_b39 at E
  refine Rn.iload_n (pc' := 40) dX9_behindThing_39 rfl 2 rfl rfl ?_
  refine Rn.if_eq (pc' := 43) (tgt := 58) dX9_behindThing_40 (by decide) rfl (fun c1 => ?_) (fun c1 => ?_)
  · replace E := (if_of E).1 c1
    refine Rn.iload (pc' := 60) dX9_behindThing_58 3 rfl rfl ?_
    cases E
    exact Rn.zret rfl rfl dX9_behindThing_60
  · replace E := (if_of E).2 c1
    refine Rn.aload_n (pc' := 44) dX9_behindThing_43 rfl 0 rfl rfl ?_
    refine Rn.iload (pc' := 46) dX9_behindThing_44 3 rfl rfl ?_
    obtain ⟨g2, E⟩ := gd_of E
    obtain ⟨v3, h4, e5, E⟩ := bI_of E
    refine Rn.callV1 (pc' := 49) (As := [.int x4]) (rest := []) (f_Tape_isDigit_ok hst e5) (Nat.le_trans (by decide) hd) rfl kb_X9_50 ki_X9_isDigit rfl g2 rfl rfl (Nat.le_of_ble_eq_true rfl) dX9_behindThing_46 rfl rfl ?_
    refine Rn.if_eq (pc' := 52) (tgt := 58) dX9_behindThing_49 (by decide) rfl (fun c6 => ?_) (fun c6 => ?_)
    · replace E := (if_of E).1 c6
      refine Rn.iload (pc' := 60) dX9_behindThing_58 3 rfl rfl ?_
      cases E
      exact Rn.zret rfl rfl dX9_behindThing_60
    · replace E := (if_of E).2 c6
      exact f_Tape_behindThing_b52_ok hst hd  hk17 E
theorem kb_X9_46 : KB RX9 46 yX9_isLetter mX9_isLetter 1 := ⟨gw_at 745 (by decide +kernel) (by decide +kernel), gw_at 108 (by decide +kernel) (by decide +kernel), trivial, ws_X9_isLetter, by decide +kernel, by decide +kernel, by decide +kernel, by decide⟩
theorem ki_X9_isLetter : Cond.instanceMethod yX9_isLetter ∈ gw ∧ Cond.selects yX9_isLetter.cls yX9_isLetter yX9_isLetter ∈ gw := ⟨gw_at 747 (by decide +kernel) (by decide +kernel), gw_at 11 (by decide +kernel) (by decide +kernel)⟩
def f_Tape_behindThing_b17  (k17 : Hp → Nat → Int32 → Int32 → Int32 → Option (Int32 × Hp)) (h : Hp) (x0 : Nat) (x2 : Int32) (x3 : Int32) (x4 : Int32)  : Option (Int32 × Hp) :=
if hS h x0 = 9 then (
if (hI h x0 1) ≤ x4 then (
some (x4, h)

) else (
if x2 = 0 then (
f_Tape_behindThing_b39  k17 h x0 x2 x3 x4

) else (
bI (f_Tape_isLetter h x0 x4) fun v4 h5 =>
if v4 = 0 then (
f_Tape_behindThing_b39  k17 h5 x0 x2 x3 x4

) else (
f_Tape_behindThing_b52  k17 h5 x0 x2 x3 x4

)

)

)
) else none
set_option maxRecDepth 20000 in
set_option maxHeartbeats 4000000 in
theorem f_Tape_behindThing_b17_ok {l : Launch} {X : Nat × (Nat → Int32)} (hst : l.stackTraces = false) {d : Nat} (hd : 2 ≤ d)   {k17 : Hp → Nat → Int32 → Int32 → Int32 → Option (Int32 × Hp)} (hk17 : ∀ (h : Hp) (x0 : Nat) (x2 : Int32) (x3 : Int32) (x4 : Int32)  (r : Int32 × Hp), k17 h x0 x2 x3 x4 = some r → Rn l X mX9_behindThing d 17 [(0, .ref x0), (2, .int x2), (3, .int x3), (4, .int x4)] [] h (eI r) r.2) {h : Hp} {x0 : Nat} {x2 : Int32} {x3 : Int32} {x4 : Int32}  {r : Int32 × Hp} (E : f_Tape_behindThing_b17  k17 h x0 x2 x3 x4 = some r) : Rn l X mX9_behindThing d 17 [(0, .ref x0), (2, .int x2), (3, .int x3), (4, .int x4)] [] h (eI r) r.2 := by
  unfold f_Tape_behindThing_b17 at E
  refine Rn.iload (pc' := 19) dX9_behindThing_17 3 rfl rfl ?_
  refine Rn.aload_n (pc' := 20) dX9_behindThing_19 rfl 0 rfl rfl ?_
  obtain ⟨g1, E⟩ := gd_of E
  refine Rn.getI (pc' := 23) fl_X9_22_8 g1 rfl dX9_behindThing_20 rfl ?_
  refine Rn.icmp_ge (pc' := 26) (tgt := 58) dX9_behindThing_23 (by decide) rfl (fun c2 => ?_) (fun c2 => ?_)
  · replace E := (if_of E).1 c2
    refine Rn.iload (pc' := 60) dX9_behindThing_58 3 rfl rfl ?_
    cases E
    exact Rn.zret rfl rfl dX9_behindThing_60
  · replace E := (if_of E).2 c2
    refine Rn.iload_n (pc' := 27) dX9_behindThing_26 rfl 1 rfl rfl ?_
    refine Rn.if_eq (pc' := 30) (tgt := 39) dX9_behindThing_27 (by decide) rfl (fun c3 => ?_) (fun c3 => ?_)
    · replace E := (if_of E).1 c3
      exact f_Tape_behindThing_b39_ok hst hd  hk17 E
    · replace E := (if_of E).2 c3
      refine Rn.aload_n (pc' := 31) dX9_behindThing_30 rfl 0 rfl rfl ?_
      refine Rn.iload (pc' := 33) dX9_behindThing_31 3 rfl rfl ?_
      obtain ⟨v4, h5, e6, E⟩ := bI_of E
      refine Rn.callV1 (pc' := 36) (As := [.int x4]) (rest := []) (f_Tape_isLetter_ok hst e6) (Nat.le_trans (by decide) hd) rfl kb_X9_46 ki_X9_isLetter rfl g1 rfl rfl (Nat.le_of_ble_eq_true rfl) dX9_behindThing_33 rfl rfl ?_
      refine Rn.if_ne (pc' := 39) (tgt := 52) dX9_behindThing_36 (by decide) rfl (fun c7 => ?_) (fun c7 => ?_)
      · replace E := (if_of E).2 c7
        exact f_Tape_behindThing_b52_ok hst hd  hk17 E
      · replace E := (if_of E).1 c7
        exact f_Tape_behindThing_b39_ok hst hd  hk17 E
def f_Tape_behindThing_L17   (n : Nat) : Hp → Nat → Int32 → Int32 → Int32 → Option (Int32 × Hp) := Nat.rec (motive := fun _ => Hp → Nat → Int32 → Int32 → Int32 → Option (Int32 × Hp)) (fun _ _ _ _ _ => none) (fun _ rec => f_Tape_behindThing_b17   rec) n
theorem f_Tape_behindThing_L17_ok {l : Launch} {X : Nat × (Nat → Int32)} (hst : l.stackTraces = false) {d : Nat} (hd : 2 ≤ d)     : ∀ (n : Nat) (h : Hp) (x0 : Nat) (x2 : Int32) (x3 : Int32) (x4 : Int32)  (r : Int32 × Hp), f_Tape_behindThing_L17   n h x0 x2 x3 x4 = some r → Rn l X mX9_behindThing d 17 [(0, .ref x0), (2, .int x2), (3, .int x3), (4, .int x4)] [] h (eI r) r.2 := by
  intro n
  induction n with
  | zero => intro h x0 x2 x3 x4 r E; cases E
  | succ n ih => intro h x0 x2 x3 x4 r E; exact f_Tape_behindThing_b17_ok hst hd   ih E
def f_Tape_behindThing_b0   (h : Hp) (x0 : Nat) (x1 : Int32)  : Option (Int32 × Hp) :=
if hS h x0 = 9 then (
bI (f_Tape_isLetter h x0 x1) fun v2 h3 =>
if hS h3 x0 = 9 then (
bI (f_Tape_isDigit h3 x0 x1) fun v6 h7 =>
f_Tape_behindThing_L17   FU h7 x0 v2 v6 (x1 + (1 : Int32))
) else none) else none
set_option maxRecDepth 20000 in
set_option maxHeartbeats 4000000 in
theorem f_Tape_behindThing_b0_ok {l : Launch} {X : Nat × (Nat → Int32)} (hst : l.stackTraces = false) {d : Nat} (hd : 2 ≤ d)     {h : Hp} {x0 : Nat} {x1 : Int32}  {r : Int32 × Hp} (E : f_Tape_behindThing_b0   h x0 x1 = some r) : Rn l X mX9_behindThing d 0 [(0, .ref x0), (1, .int x1)] [] h (eI r) r.2 := by
  unfold f_Tape_behindThing_b0 at E
  refine Rn.aload_n (pc' := 1) dX9_behindThing_0 rfl 0 rfl rfl ?_
  refine Rn.iload_n (pc' := 2) dX9_behindThing_1 rfl 1 rfl rfl ?_
  obtain ⟨g1, E⟩ := gd_of E
  obtain ⟨v2, h3, e4, E⟩ := bI_of E
  refine Rn.callV1 (pc' := 5) (As := [.int x1]) (rest := []) (f_Tape_isLetter_ok hst e4) (Nat.le_trans (by decide) hd) rfl kb_X9_46 ki_X9_isLetter rfl g1 rfl rfl (Nat.le_of_ble_eq_true rfl) dX9_behindThing_2 rfl rfl ?_
  refine Rn.istore_n (pc' := 6) (L' := [(2, .int v2), (0, .ref x0), (1, .int x1)]) dX9_behindThing_5 rfl (by decide) rfl rfl ?_
  refine Rn.aload_n (pc' := 7) dX9_behindThing_6 rfl 1 rfl rfl ?_
  refine Rn.iload_n (pc' := 8) dX9_behindThing_7 rfl 2 rfl rfl ?_
  obtain ⟨g5, E⟩ := gd_of E
  obtain ⟨v6, h7, e8, E⟩ := bI_of E
  refine Rn.callV1 (pc' := 11) (As := [.int x1]) (rest := []) (f_Tape_isDigit_ok hst e8) (Nat.le_trans (by decide) hd) rfl kb_X9_50 ki_X9_isDigit rfl g5 rfl rfl (Nat.le_of_ble_eq_true rfl) dX9_behindThing_8 rfl rfl ?_
  refine Rn.istore_n (pc' := 12) (L' := [(3, .int v6), (2, .int v2), (0, .ref x0), (1, .int x1)]) dX9_behindThing_11 rfl (by decide) rfl rfl ?_
  refine Rn.iload_n (pc' := 13) dX9_behindThing_12 rfl 3 rfl rfl ?_
  refine Rn.iconst (pc' := 14) (v := (1 : Int32)) (hv := by decide) dX9_behindThing_13 rfl ?_
  refine Rn.iadd (pc' := 15) dX9_behindThing_14 rfl ?_
  refine Rn.istore (pc' := 17) (L' := [(4, .int (x1 + (1 : Int32))), (3, .int v6), (2, .int v2), (0, .ref x0), (1, .int x1)]) dX9_behindThing_15 (by decide) rfl rfl ?_
  refine Rn.sub [3, 2, 1, 0] rfl ?_
  exact f_Tape_behindThing_L17_ok hst hd   FU _ _ _ _ _ _ E
def f_Tape_behindThing (h : Hp) (x0 : Nat) (x1 : Int32) : Option (Int32 × Hp) := f_Tape_behindThing_b0  h x0 x1
theorem f_Tape_behindThing_ok {l : Launch} {X : Nat × (Nat → Int32)} (hst : l.stackTraces = false) {h : Hp} {x0 : Nat} {x1 : Int32} {r : Int32 × Hp} (E : f_Tape_behindThing h x0 x1 = some r) : MC l X yX9_behindThing mX9_behindThing 2 [.ref x0, .int x1] h (eI r) r.2 :=
  MC.body (by decide +kernel) rfl (by decide) hst (Nat.le_of_ble_eq_true rfl) (f_Tape_behindThing_b0_ok hst (Nat.le_refl _) E)
abbrev mX9_isSame : MI := (RX9, cX9_isSame, 5, (some Jvm.ClassFile.FieldType.boolean), [], false)
theorem ws_X9_isSame : ∀ w ∈ wsM yX9_isSame mX9_isSame, w ∈ gw := List.forall_mem_cons.mpr ⟨gw_at 813 (by decide +kernel) (by decide +kernel), fun _ h => h⟩
theorem kst_X9_61 : Cond.methodLink RX9 61 yJ0_length_8abf5 ∈ gw := gw_at 762 (by decide +kernel) (by decide +kernel)
theorem kst_X9_67 : Cond.methodLink RX9 67 yJ0_charAt_5068e ∈ gw := gw_at 772 (by decide +kernel) (by decide +kernel)
def f_Tape_isSame_b3  (k3 : Hp → Nat → Int32 → Int32 → Int32 → Int32 → Option (Int32 × Hp)) (h : Hp) (x0 : Nat) (x1 : Int32) (x2 : Int32) (x3 : Int32) (x4 : Int32)  : Option (Int32 × Hp) :=
if x3 ≤ x4 then (
some ((1 : Int32), h)

) else (
if jst (STR + 0) then (
if (jlen (STR + 0)) ≤ (x1 + x4) then (
some ((1 : Int32), h)

) else (
if jst (STR + 0) then (
if ib (x1 + x4) (stx (STR + 0)).length = true then (
if hS h x0 = 9 then (
bI (f_Tape_byteAt h x0 (x2 + x4)) fun v7 h8 =>
if (jch (STR + 0) (x1 + x4)) = v7 then (
k3 h8 x0 x1 x2 x3 (x4 + (1 : Int32))

) else (
some ((0 : Int32), h8)

)
) else none) else none) else none
)
) else none
)

set_option maxRecDepth 20000 in
set_option maxHeartbeats 4000000 in
theorem f_Tape_isSame_b3_ok {l : Launch} {X : Nat × (Nat → Int32)} (hst : l.stackTraces = false) {d : Nat} (hd : 4 ≤ d)   {k3 : Hp → Nat → Int32 → Int32 → Int32 → Int32 → Option (Int32 × Hp)} (hk3 : ∀ (h : Hp) (x0 : Nat) (x1 : Int32) (x2 : Int32) (x3 : Int32) (x4 : Int32)  (r : Int32 × Hp), k3 h x0 x1 x2 x3 x4 = some r → Rn l X mX9_isSame d 3 [(0, .ref x0), (1, .int x1), (2, .int x2), (3, .int x3), (4, .int x4)] [] h (eI r) r.2) {h : Hp} {x0 : Nat} {x1 : Int32} {x2 : Int32} {x3 : Int32} {x4 : Int32}  {r : Int32 × Hp} (E : f_Tape_isSame_b3  k3 h x0 x1 x2 x3 x4 = some r) : Rn l X mX9_isSame d 3 [(0, .ref x0), (1, .int x1), (2, .int x2), (3, .int x3), (4, .int x4)] [] h (eI r) r.2 := by
  unfold f_Tape_isSame_b3 at E
  refine Rn.iload (pc' := 5) dX9_isSame_3 4 rfl rfl ?_
  refine Rn.iload_n (pc' := 6) dX9_isSame_5 rfl 3 rfl rfl ?_
  refine Rn.icmp_ge (pc' := 9) (tgt := 49) dX9_isSame_6 (by decide) rfl (fun c1 => ?_) (fun c1 => ?_)
  · replace E := (if_of E).1 c1
    refine Rn.iconst (pc' := 50) (v := (1 : Int32)) (hv := by decide) dX9_isSame_49 rfl ?_
    cases E
    exact Rn.zret rfl rfl dX9_isSame_50
  · replace E := (if_of E).2 c1
    refine Rn.iload_n (pc' := 10) dX9_isSame_9 rfl 1 rfl rfl ?_
    refine Rn.iload (pc' := 12) dX9_isSame_10 4 rfl rfl ?_
    refine Rn.iadd (pc' := 13) dX9_isSame_12 rfl ?_
    refine Rn.ldcS (pc' := 15) (i := 0) rfl dX9_isSame_13 rfl ?_
    obtain ⟨g2, E⟩ := gd_of E
    refine Rn.strlen (pc' := 18) g2 hst (Nat.le_trans (by decide) hd) kst_X9_61 dX9_isSame_15 (Nat.le_of_ble_eq_true rfl) rfl ?_
    refine Rn.icmp_ge (pc' := 21) (tgt := 49) dX9_isSame_18 (by decide) rfl (fun c3 => ?_) (fun c3 => ?_)
    · replace E := (if_of E).1 c3
      refine Rn.iconst (pc' := 50) (v := (1 : Int32)) (hv := by decide) dX9_isSame_49 rfl ?_
      cases E
      exact Rn.zret rfl rfl dX9_isSame_50
    · replace E := (if_of E).2 c3
      refine Rn.ldcS (pc' := 23) (i := 0) rfl dX9_isSame_21 rfl ?_
      refine Rn.iload_n (pc' := 24) dX9_isSame_23 rfl 1 rfl rfl ?_
      refine Rn.iload (pc' := 26) dX9_isSame_24 4 rfl rfl ?_
      refine Rn.iadd (pc' := 27) dX9_isSame_26 rfl ?_
      obtain ⟨g4, E⟩ := gd_of E
      obtain ⟨g5, E⟩ := gd_of E
      refine Rn.strch (pc' := 30) g4 g5 hst (Nat.le_trans (by decide) hd) kst_X9_67 dX9_isSame_27 (Nat.le_of_ble_eq_true rfl) rfl ?_
      refine Rn.aload_n (pc' := 31) dX9_isSame_30 rfl 0 rfl rfl ?_
      refine Rn.iload_n (pc' := 32) dX9_isSame_31 rfl 2 rfl rfl ?_
      refine Rn.iload (pc' := 34) dX9_isSame_32 4 rfl rfl ?_
      refine Rn.iadd (pc' := 35) dX9_isSame_34 rfl ?_
      obtain ⟨g6, E⟩ := gd_of E
      obtain ⟨v7, h8, e9, E⟩ := bI_of E
      refine Rn.callV1 (pc' := 38) (As := [.int (x2 + x4)]) (rest := [.int (jch (STR + 0) (x1 + x4))]) (f_Tape_byteAt_ok hst e9) (Nat.le_trans (by decide) hd) rfl kb_X9_43 ki_X9_byteAt rfl g6 rfl rfl (Nat.le_of_ble_eq_true rfl) dX9_isSame_35 rfl rfl ?_
      refine Rn.icmp_eq (pc' := 41) (tgt := 43) dX9_isSame_38 (by decide) rfl (fun c10 => ?_) (fun c10 => ?_)
      · replace E := (if_of E).1 c10
        refine Rn.iinc (pc' := 46) (v := (x4 + (1 : Int32))) (L' := [(4, .int (x4 + (1 : Int32))), (0, .ref x0), (1, .int x1), (2, .int x2), (3, .int x3)]) dX9_isSame_43 4 rfl rfl (by decide) rfl rfl ?_
        refine Rn.goto (pc' := 3) dX9_isSame_46 (by decide) ?_
        refine Rn.sub [1, 2, 3, 4, 0] rfl ?_
        exact hk3 _ _ _ _ _ _ _ E
      · replace E := (if_of E).2 c10
        refine Rn.iconst (pc' := 42) (v := (0 : Int32)) (hv := by decide) dX9_isSame_41 rfl ?_
        cases E
        exact Rn.zret rfl rfl dX9_isSame_42
def f_Tape_isSame_L3   (n : Nat) : Hp → Nat → Int32 → Int32 → Int32 → Int32 → Option (Int32 × Hp) := Nat.rec (motive := fun _ => Hp → Nat → Int32 → Int32 → Int32 → Int32 → Option (Int32 × Hp)) (fun _ _ _ _ _ _ => none) (fun _ rec => f_Tape_isSame_b3   rec) n
theorem f_Tape_isSame_L3_ok {l : Launch} {X : Nat × (Nat → Int32)} (hst : l.stackTraces = false) {d : Nat} (hd : 4 ≤ d)     : ∀ (n : Nat) (h : Hp) (x0 : Nat) (x1 : Int32) (x2 : Int32) (x3 : Int32) (x4 : Int32)  (r : Int32 × Hp), f_Tape_isSame_L3   n h x0 x1 x2 x3 x4 = some r → Rn l X mX9_isSame d 3 [(0, .ref x0), (1, .int x1), (2, .int x2), (3, .int x3), (4, .int x4)] [] h (eI r) r.2 := by
  intro n
  induction n with
  | zero => intro h x0 x1 x2 x3 x4 r E; cases E
  | succ n ih => intro h x0 x1 x2 x3 x4 r E; exact f_Tape_isSame_b3_ok hst hd   ih E
def f_Tape_isSame_b0   (h : Hp) (x0 : Nat) (x1 : Int32) (x2 : Int32) (x3 : Int32)  : Option (Int32 × Hp) :=
f_Tape_isSame_L3   FU h x0 x1 x2 x3 (0 : Int32)

set_option maxRecDepth 20000 in
set_option maxHeartbeats 4000000 in
theorem f_Tape_isSame_b0_ok {l : Launch} {X : Nat × (Nat → Int32)} (hst : l.stackTraces = false) {d : Nat} (hd : 4 ≤ d)     {h : Hp} {x0 : Nat} {x1 : Int32} {x2 : Int32} {x3 : Int32}  {r : Int32 × Hp} (E : f_Tape_isSame_b0   h x0 x1 x2 x3 = some r) : Rn l X mX9_isSame d 0 [(0, .ref x0), (1, .int x1), (2, .int x2), (3, .int x3)] [] h (eI r) r.2 := by
  unfold f_Tape_isSame_b0 at E
  refine Rn.iconst (pc' := 1) (v := (0 : Int32)) (hv := by decide) dX9_isSame_0 rfl ?_
  refine Rn.istore (pc' := 3) (L' := [(4, .int (0 : Int32)), (0, .ref x0), (1, .int x1), (2, .int x2), (3, .int x3)]) dX9_isSame_1 (by decide) rfl rfl ?_
  refine Rn.sub [1, 2, 3, 4, 0] rfl ?_
  exact f_Tape_isSame_L3_ok hst hd   FU _ _ _ _ _ _ _ E
def f_Tape_isSame (h : Hp) (x0 : Nat) (x1 : Int32) (x2 : Int32) (x3 : Int32) : Option (Int32 × Hp) := f_Tape_isSame_b0  h x0 x1 x2 x3
theorem f_Tape_isSame_ok {l : Launch} {X : Nat × (Nat → Int32)} (hst : l.stackTraces = false) {h : Hp} {x0 : Nat} {x1 : Int32} {x2 : Int32} {x3 : Int32} {r : Int32 × Hp} (E : f_Tape_isSame h x0 x1 x2 x3 = some r) : MC l X yX9_isSame mX9_isSame 4 [.ref x0, .int x1, .int x2, .int x3] h (eI r) r.2 :=
  MC.body (by decide +kernel) rfl (by decide) hst (Nat.le_of_ble_eq_true rfl) (f_Tape_isSame_b0_ok hst (Nat.le_refl _) E)
abbrev mX9_wordCode : MI := (RX9, cX9_wordCode, 6, (some Jvm.ClassFile.FieldType.int), [], false)
theorem ws_X9_wordCode : ∀ w ∈ wsM yX9_wordCode mX9_wordCode, w ∈ gw := List.forall_mem_cons.mpr ⟨gw_at 760 (by decide +kernel) (by decide +kernel), fun _ h => h⟩
def f_Tape_wordCode_b67  (k10 : Hp → Nat → Int32 → Int32 → Int32 → Int32 → Int32 → Option (Int32 × Hp)) (h : Hp) (x0 : Nat) (x1 : Int32) (x2 : Int32) (x3 : Int32) (x4 : Int32) (x5 : Int32)  : Option (Int32 × Hp) :=
k10 h x0 x1 x2 x3 x4 (x5 + (1 : Int32))

set_option maxRecDepth 20000 in
set_option maxHeartbeats 4000000 in
theorem f_Tape_wordCode_b67_ok {l : Launch} {X : Nat × (Nat → Int32)} (hst : l.stackTraces = false) {d : Nat} (hd : 5 ≤ d)   {k10 : Hp → Nat → Int32 → Int32 → Int32 → Int32 → Int32 → Option (Int32 × Hp)} (hk10 : ∀ (h : Hp) (x0 : Nat) (x1 : Int32) (x2 : Int32) (x3 : Int32) (x4 : Int32) (x5 : Int32)  (r : Int32 × Hp), k10 h x0 x1 x2 x3 x4 x5 = some r → Rn l X mX9_wordCode d 10 [(0, .ref x0), (1, .int x1), (2, .int x2), (3, .int x3), (4, .int x4), (5, .int x5)] [] h (eI r) r.2) {h : Hp} {x0 : Nat} {x1 : Int32} {x2 : Int32} {x3 : Int32} {x4 : Int32} {x5 : Int32}  {r : Int32 × Hp} (E : f_Tape_wordCode_b67  k10 h x0 x1 x2 x3 x4 x5 = some r) : Rn l X mX9_wordCode d 67 [(0, .ref x0), (1, .int x1), (2, .int x2), (3, .int x3), (4, .int x4), (5, .int x5)] [] h (eI r) r.2 := by
  unfold f_Tape_wordCode_b67 at E
  refine Rn.iinc (pc' := 70) (v := (x5 + (1 : Int32))) (L' := [(5, .int (x5 + (1 : Int32))), (0, .ref x0), (1, .int x1), (2, .int x2), (3, .int x3), (4, .int x4)]) dX9_wordCode_67 5 rfl rfl (by decide) rfl rfl ?_
  refine Rn.goto (pc' := 10) dX9_wordCode_70 (by decide) ?_
  refine Rn.sub [1, 2, 3, 4, 5, 0] rfl ?_
  exact hk10 _ _ _ _ _ _ _ _ E
def f_Tape_wordCode_b58  (k10 : Hp → Nat → Int32 → Int32 → Int32 → Int32 → Int32 → Option (Int32 × Hp)) (h : Hp) (x0 : Nat) (x1 : Int32) (x2 : Int32) (x3 : Int32) (x5 : Int32)  : Option (Int32 × Hp) :=
f_Tape_wordCode_b67  k10 h x0 x1 x2 (x3 + (1 : Int32)) (x5 + (1 : Int32)) x5

set_option maxRecDepth 20000 in
set_option maxHeartbeats 4000000 in
theorem f_Tape_wordCode_b58_ok {l : Launch} {X : Nat × (Nat → Int32)} (hst : l.stackTraces = false) {d : Nat} (hd : 5 ≤ d)   {k10 : Hp → Nat → Int32 → Int32 → Int32 → Int32 → Int32 → Option (Int32 × Hp)} (hk10 : ∀ (h : Hp) (x0 : Nat) (x1 : Int32) (x2 : Int32) (x3 : Int32) (x4 : Int32) (x5 : Int32)  (r : Int32 × Hp), k10 h x0 x1 x2 x3 x4 x5 = some r → Rn l X mX9_wordCode d 10 [(0, .ref x0), (1, .int x1), (2, .int x2), (3, .int x3), (4, .int x4), (5, .int x5)] [] h (eI r) r.2) {h : Hp} {x0 : Nat} {x1 : Int32} {x2 : Int32} {x3 : Int32} {x5 : Int32}  {r : Int32 × Hp} (E : f_Tape_wordCode_b58  k10 h x0 x1 x2 x3 x5 = some r) : Rn l X mX9_wordCode d 58 [(0, .ref x0), (1, .int x1), (2, .int x2), (3, .int x3), (5, .int x5)] [] h (eI r) r.2 := by
  unfold f_Tape_wordCode_b58 at E
  refine Rn.iinc (pc' := 61) (v := (x3 + (1 : Int32))) (L' := [(3, .int (x3 + (1 : Int32))), (0, .ref x0), (1, .int x1), (2, .int x2), (5, .int x5)]) dX9_wordCode_58 3 rfl rfl (by decide) rfl rfl ?_
  refine Rn.iload (pc' := 63) dX9_wordCode_61 4 rfl rfl ?_
  refine Rn.iconst (pc' := 64) (v := (1 : Int32)) (hv := by decide) dX9_wordCode_63 rfl ?_
  refine Rn.iadd (pc' := 65) dX9_wordCode_64 rfl ?_
  refine Rn.istore (pc' := 67) (L' := [(4, .int (x5 + (1 : Int32))), (3, .int (x3 + (1 : Int32))), (0, .ref x0), (1, .int x1), (2, .int x2), (5, .int x5)]) dX9_wordCode_65 (by decide) rfl rfl ?_
  refine Rn.sub [2, 3, 4, 1, 0, 5] rfl ?_
  exact f_Tape_wordCode_b67_ok hst hd  hk10 E
theorem kb_X9_71 : KB RX9 71 yX9_isSame mX9_isSame 3 := ⟨gw_at 810 (by decide +kernel) (by decide +kernel), gw_at 108 (by decide +kernel) (by decide +kernel), trivial, ws_X9_isSame, by decide +kernel, by decide +kernel, by decide +kernel, by decide⟩
theorem ki_X9_isSame : Cond.instanceMethod yX9_isSame ∈ gw ∧ Cond.selects yX9_isSame.cls yX9_isSame yX9_isSame ∈ gw := ⟨gw_at 812 (by decide +kernel) (by decide +kernel), gw_at 15 (by decide +kernel) (by decide +kernel)⟩
def f_Tape_wordCode_b10  (k10 : Hp → Nat → Int32 → Int32 → Int32 → Int32 → Int32 → Option (Int32 × Hp)) (h : Hp) (x0 : Nat) (x1 : Int32) (x2 : Int32) (x3 : Int32) (x4 : Int32) (x5 : Int32)  : Option (Int32 × Hp) :=
if jst (STR + 0) then (
if (jlen (STR + 0)) ≤ x5 then (
some ((-1 : Int32), h)

) else (
if jst (STR + 0) then (
if ib x5 (stx (STR + 0)).length = true then (
if (jch (STR + 0) x5) = (32 : Int32) then (
if (x5 - x4) = (x2 - x1) then (
if hS h x0 = 9 then (
bI (f_Tape_isSame h x0 x4 x1 (x2 - x1)) fun v8 h9 =>
if v8 = 0 then (
f_Tape_wordCode_b58  k10 h9 x0 x1 x2 x3 x5

) else (
some (x3, h9)

)
) else none
) else (
f_Tape_wordCode_b58  k10 h x0 x1 x2 x3 x5

)

) else (
f_Tape_wordCode_b67  k10 h x0 x1 x2 x3 x4 x5

)
) else none) else none
)
) else none
set_option maxRecDepth 20000 in
set_option maxHeartbeats 4000000 in
theorem f_Tape_wordCode_b10_ok {l : Launch} {X : Nat × (Nat → Int32)} (hst : l.stackTraces = false) {d : Nat} (hd : 5 ≤ d)   {k10 : Hp → Nat → Int32 → Int32 → Int32 → Int32 → Int32 → Option (Int32 × Hp)} (hk10 : ∀ (h : Hp) (x0 : Nat) (x1 : Int32) (x2 : Int32) (x3 : Int32) (x4 : Int32) (x5 : Int32)  (r : Int32 × Hp), k10 h x0 x1 x2 x3 x4 x5 = some r → Rn l X mX9_wordCode d 10 [(0, .ref x0), (1, .int x1), (2, .int x2), (3, .int x3), (4, .int x4), (5, .int x5)] [] h (eI r) r.2) {h : Hp} {x0 : Nat} {x1 : Int32} {x2 : Int32} {x3 : Int32} {x4 : Int32} {x5 : Int32}  {r : Int32 × Hp} (E : f_Tape_wordCode_b10  k10 h x0 x1 x2 x3 x4 x5 = some r) : Rn l X mX9_wordCode d 10 [(0, .ref x0), (1, .int x1), (2, .int x2), (3, .int x3), (4, .int x4), (5, .int x5)] [] h (eI r) r.2 := by
  unfold f_Tape_wordCode_b10 at E
  refine Rn.iload (pc' := 12) dX9_wordCode_10 5 rfl rfl ?_
  refine Rn.ldcS (pc' := 14) (i := 0) rfl dX9_wordCode_12 rfl ?_
  obtain ⟨g1, E⟩ := gd_of E
  refine Rn.strlen (pc' := 17) g1 hst (Nat.le_trans (by decide) hd) kst_X9_61 dX9_wordCode_14 (Nat.le_of_ble_eq_true rfl) rfl ?_
  refine Rn.icmp_ge (pc' := 20) (tgt := 73) dX9_wordCode_17 (by decide) rfl (fun c2 => ?_) (fun c2 => ?_)
  · replace E := (if_of E).1 c2
    refine Rn.iconst (pc' := 74) (v := (-1 : Int32)) (hv := by decide) dX9_wordCode_73 rfl ?_
    cases E
    exact Rn.zret rfl rfl dX9_wordCode_74
  · replace E := (if_of E).2 c2
    refine Rn.ldcS (pc' := 22) (i := 0) rfl dX9_wordCode_20 rfl ?_
    refine Rn.iload (pc' := 24) dX9_wordCode_22 5 rfl rfl ?_
    obtain ⟨g3, E⟩ := gd_of E
    obtain ⟨g4, E⟩ := gd_of E
    refine Rn.strch (pc' := 27) g3 g4 hst (Nat.le_trans (by decide) hd) kst_X9_67 dX9_wordCode_24 (Nat.le_of_ble_eq_true rfl) rfl ?_
    refine Rn.bipush (pc' := 29) (v := (32 : Int32)) (hv := by decide) dX9_wordCode_27 rfl ?_
    refine Rn.icmp_ne (pc' := 32) (tgt := 67) dX9_wordCode_29 (by decide) rfl (fun c5 => ?_) (fun c5 => ?_)
    · replace E := (if_of E).2 c5
      exact f_Tape_wordCode_b67_ok hst hd  hk10 E
    · replace E := (if_of E).1 c5
      refine Rn.iload (pc' := 34) dX9_wordCode_32 5 rfl rfl ?_
      refine Rn.iload (pc' := 36) dX9_wordCode_34 4 rfl rfl ?_
      refine Rn.isub (pc' := 37) dX9_wordCode_36 rfl ?_
      refine Rn.iload_n (pc' := 38) dX9_wordCode_37 rfl 2 rfl rfl ?_
      refine Rn.iload_n (pc' := 39) dX9_wordCode_38 rfl 1 rfl rfl ?_
      refine Rn.isub (pc' := 40) dX9_wordCode_39 rfl ?_
      refine Rn.icmp_ne (pc' := 43) (tgt := 58) dX9_wordCode_40 (by decide) rfl (fun c6 => ?_) (fun c6 => ?_)
      · replace E := (if_of E).2 c6
        refine Rn.sub [0, 1, 2, 3, 5] rfl ?_
        exact f_Tape_wordCode_b58_ok hst hd  hk10 E
      · replace E := (if_of E).1 c6
        refine Rn.aload_n (pc' := 44) dX9_wordCode_43 rfl 0 rfl rfl ?_
        refine Rn.iload (pc' := 46) dX9_wordCode_44 4 rfl rfl ?_
        refine Rn.iload_n (pc' := 47) dX9_wordCode_46 rfl 1 rfl rfl ?_
        refine Rn.iload_n (pc' := 48) dX9_wordCode_47 rfl 2 rfl rfl ?_
        refine Rn.iload_n (pc' := 49) dX9_wordCode_48 rfl 1 rfl rfl ?_
        refine Rn.isub (pc' := 50) dX9_wordCode_49 rfl ?_
        obtain ⟨g7, E⟩ := gd_of E
        obtain ⟨v8, h9, e10, E⟩ := bI_of E
        refine Rn.callV1 (pc' := 53) (As := [.int x4, .int x1, .int (x2 - x1)]) (rest := []) (f_Tape_isSame_ok hst e10) (Nat.le_trans (by decide) hd) rfl kb_X9_71 ki_X9_isSame rfl g7 rfl rfl (Nat.le_of_ble_eq_true rfl) dX9_wordCode_50 rfl rfl ?_
        refine Rn.if_eq (pc' := 56) (tgt := 58) dX9_wordCode_53 (by decide) rfl (fun c11 => ?_) (fun c11 => ?_)
        · replace E := (if_of E).1 c11
          refine Rn.sub [0, 1, 2, 3, 5] rfl ?_
          exact f_Tape_wordCode_b58_ok hst hd  hk10 E
        · replace E := (if_of E).2 c11
          refine Rn.iload_n (pc' := 57) dX9_wordCode_56 rfl 3 rfl rfl ?_
          cases E
          exact Rn.zret rfl rfl dX9_wordCode_57
def f_Tape_wordCode_L10   (n : Nat) : Hp → Nat → Int32 → Int32 → Int32 → Int32 → Int32 → Option (Int32 × Hp) := Nat.rec (motive := fun _ => Hp → Nat → Int32 → Int32 → Int32 → Int32 → Int32 → Option (Int32 × Hp)) (fun _ _ _ _ _ _ _ => none) (fun _ rec => f_Tape_wordCode_b10   rec) n
theorem f_Tape_wordCode_L10_ok {l : Launch} {X : Nat × (Nat → Int32)} (hst : l.stackTraces = false) {d : Nat} (hd : 5 ≤ d)     : ∀ (n : Nat) (h : Hp) (x0 : Nat) (x1 : Int32) (x2 : Int32) (x3 : Int32) (x4 : Int32) (x5 : Int32)  (r : Int32 × Hp), f_Tape_wordCode_L10   n h x0 x1 x2 x3 x4 x5 = some r → Rn l X mX9_wordCode d 10 [(0, .ref x0), (1, .int x1), (2, .int x2), (3, .int x3), (4, .int x4), (5, .int x5)] [] h (eI r) r.2 := by
  intro n
  induction n with
  | zero => intro h x0 x1 x2 x3 x4 x5 r E; cases E
  | succ n ih => intro h x0 x1 x2 x3 x4 x5 r E; exact f_Tape_wordCode_b10_ok hst hd   ih E
def f_Tape_wordCode_b0   (h : Hp) (x0 : Nat) (x1 : Int32) (x2 : Int32)  : Option (Int32 × Hp) :=
f_Tape_wordCode_L10   FU h x0 x1 x2 (1000 : Int32) (0 : Int32) (0 : Int32)

set_option maxRecDepth 20000 in
set_option maxHeartbeats 4000000 in
theorem f_Tape_wordCode_b0_ok {l : Launch} {X : Nat × (Nat → Int32)} (hst : l.stackTraces = false) {d : Nat} (hd : 5 ≤ d)     {h : Hp} {x0 : Nat} {x1 : Int32} {x2 : Int32}  {r : Int32 × Hp} (E : f_Tape_wordCode_b0   h x0 x1 x2 = some r) : Rn l X mX9_wordCode d 0 [(0, .ref x0), (1, .int x1), (2, .int x2)] [] h (eI r) r.2 := by
  unfold f_Tape_wordCode_b0 at E
  refine Rn.sipush (pc' := 3) (v := (1000 : Int32)) (hv := by decide) dX9_wordCode_0 rfl ?_
  refine Rn.istore_n (pc' := 4) (L' := [(3, .int (1000 : Int32)), (0, .ref x0), (1, .int x1), (2, .int x2)]) dX9_wordCode_3 rfl (by decide) rfl rfl ?_
  refine Rn.iconst (pc' := 5) (v := (0 : Int32)) (hv := by decide) dX9_wordCode_4 rfl ?_
  refine Rn.istore (pc' := 7) (L' := [(4, .int (0 : Int32)), (3, .int (1000 : Int32)), (0, .ref x0), (1, .int x1), (2, .int x2)]) dX9_wordCode_5 (by decide) rfl rfl ?_
  refine Rn.iconst (pc' := 8) (v := (0 : Int32)) (hv := by decide) dX9_wordCode_7 rfl ?_
  refine Rn.istore (pc' := 10) (L' := [(5, .int (0 : Int32)), (4, .int (0 : Int32)), (3, .int (1000 : Int32)), (0, .ref x0), (1, .int x1), (2, .int x2)]) dX9_wordCode_8 (by decide) rfl rfl ?_
  refine Rn.sub [3, 4, 5, 2, 1, 0] rfl ?_
  exact f_Tape_wordCode_L10_ok hst hd   FU _ _ _ _ _ _ _ _ E
def f_Tape_wordCode (h : Hp) (x0 : Nat) (x1 : Int32) (x2 : Int32) : Option (Int32 × Hp) := f_Tape_wordCode_b0  h x0 x1 x2
theorem f_Tape_wordCode_ok {l : Launch} {X : Nat × (Nat → Int32)} (hst : l.stackTraces = false) {h : Hp} {x0 : Nat} {x1 : Int32} {x2 : Int32} {r : Int32 × Hp} (E : f_Tape_wordCode h x0 x1 x2 = some r) : MC l X yX9_wordCode mX9_wordCode 5 [.ref x0, .int x1, .int x2] h (eI r) r.2 :=
  MC.body (by decide +kernel) rfl (by decide) hst (Nat.le_of_ble_eq_true rfl) (f_Tape_wordCode_b0_ok hst (Nat.le_refl _) E)
abbrev mX9_numberCode : MI := (RX9, cX9_numberCode, 5, (some Jvm.ClassFile.FieldType.int), [], false)
theorem ws_X9_numberCode : ∀ w ∈ wsM yX9_numberCode mX9_numberCode, w ∈ gw := List.forall_mem_cons.mpr ⟨gw_at 817 (by decide +kernel) (by decide +kernel), fun _ h => h⟩
def f_Tape_numberCode_b14  (k14 : Hp → Nat → Int32 → Int32 → Int32 → Option (Int32 × Hp)) (h : Hp) (x0 : Nat) (x2 : Int32) (x3 : Int32) (x4 : Int32)  : Option (Int32 × Hp) :=
if x2 ≤ x4 then (
some (x3, h)

) else (
if hS h x0 = 9 then (
bI (f_Tape_byteAt h x0 x4) fun v3 h4 =>
k14 h4 x0 x2 ((((10 : Int32) * x3) + v3) - (48 : Int32)) (x4 + (1 : Int32))
) else none
)

set_option maxRecDepth 20000 in
set_option maxHeartbeats 4000000 in
theorem f_Tape_numberCode_b14_ok {l : Launch} {X : Nat × (Nat → Int32)} (hst : l.stackTraces = false) {d : Nat} (hd : 1 ≤ d)   {k14 : Hp → Nat → Int32 → Int32 → Int32 → Option (Int32 × Hp)} (hk14 : ∀ (h : Hp) (x0 : Nat) (x2 : Int32) (x3 : Int32) (x4 : Int32)  (r : Int32 × Hp), k14 h x0 x2 x3 x4 = some r → Rn l X mX9_numberCode d 14 [(0, .ref x0), (2, .int x2), (3, .int x3), (4, .int x4)] [] h (eI r) r.2) {h : Hp} {x0 : Nat} {x2 : Int32} {x3 : Int32} {x4 : Int32}  {r : Int32 × Hp} (E : f_Tape_numberCode_b14  k14 h x0 x2 x3 x4 = some r) : Rn l X mX9_numberCode d 14 [(0, .ref x0), (2, .int x2), (3, .int x3), (4, .int x4)] [] h (eI r) r.2 := by
  unfold f_Tape_numberCode_b14 at E
  refine Rn.iload (pc' := 16) dX9_numberCode_14 3 rfl rfl ?_
  refine Rn.iload_n (pc' := 17) dX9_numberCode_16 rfl 1 rfl rfl ?_
  refine Rn.icmp_ge (pc' := 20) (tgt := 41) dX9_numberCode_17 (by decide) rfl (fun c1 => ?_) (fun c1 => ?_)
  · replace E := (if_of E).1 c1
    refine Rn.iload_n (pc' := 42) dX9_numberCode_41 rfl 2 rfl rfl ?_
    cases E
    exact Rn.zret rfl rfl dX9_numberCode_42
  · replace E := (if_of E).2 c1
    refine Rn.bipush (pc' := 22) (v := (10 : Int32)) (hv := by decide) dX9_numberCode_20 rfl ?_
    refine Rn.iload_n (pc' := 23) dX9_numberCode_22 rfl 2 rfl rfl ?_
    refine Rn.imul (pc' := 24) dX9_numberCode_23 rfl ?_
    refine Rn.aload_n (pc' := 25) dX9_numberCode_24 rfl 0 rfl rfl ?_
    refine Rn.iload (pc' := 27) dX9_numberCode_25 3 rfl rfl ?_
    obtain ⟨g2, E⟩ := gd_of E
    obtain ⟨v3, h4, e5, E⟩ := bI_of E
    refine Rn.callV1 (pc' := 30) (As := [.int x4]) (rest := [.int ((10 : Int32) * x3)]) (f_Tape_byteAt_ok hst e5) (Nat.le_trans (by decide) hd) rfl kb_X9_43 ki_X9_byteAt rfl g2 rfl rfl (Nat.le_of_ble_eq_true rfl) dX9_numberCode_27 rfl rfl ?_
    refine Rn.iadd (pc' := 31) dX9_numberCode_30 rfl ?_
    refine Rn.bipush (pc' := 33) (v := (48 : Int32)) (hv := by decide) dX9_numberCode_31 rfl ?_
    refine Rn.isub (pc' := 34) dX9_numberCode_33 rfl ?_
    refine Rn.istore_n (pc' := 35) (L' := [(3, .int ((((10 : Int32) * x3) + v3) - (48 : Int32))), (0, .ref x0), (2, .int x2), (4, .int x4)]) dX9_numberCode_34 rfl (by decide) rfl rfl ?_
    refine Rn.iinc (pc' := 38) (v := (x4 + (1 : Int32))) (L' := [(4, .int (x4 + (1 : Int32))), (3, .int ((((10 : Int32) * x3) + v3) - (48 : Int32))), (0, .ref x0), (2, .int x2)]) dX9_numberCode_35 3 rfl rfl (by decide) rfl rfl ?_
    refine Rn.goto (pc' := 14) dX9_numberCode_38 (by decide) ?_
    refine Rn.sub [2, 3, 1, 0] rfl ?_
    exact hk14 _ _ _ _ _ _ E
def f_Tape_numberCode_L14   (n : Nat) : Hp → Nat → Int32 → Int32 → Int32 → Option (Int32 × Hp) := Nat.rec (motive := fun _ => Hp → Nat → Int32 → Int32 → Int32 → Option (Int32 × Hp)) (fun _ _ _ _ _ => none) (fun _ rec => f_Tape_numberCode_b14   rec) n
theorem f_Tape_numberCode_L14_ok {l : Launch} {X : Nat × (Nat → Int32)} (hst : l.stackTraces = false) {d : Nat} (hd : 1 ≤ d)     : ∀ (n : Nat) (h : Hp) (x0 : Nat) (x2 : Int32) (x3 : Int32) (x4 : Int32)  (r : Int32 × Hp), f_Tape_numberCode_L14   n h x0 x2 x3 x4 = some r → Rn l X mX9_numberCode d 14 [(0, .ref x0), (2, .int x2), (3, .int x3), (4, .int x4)] [] h (eI r) r.2 := by
  intro n
  induction n with
  | zero => intro h x0 x2 x3 x4 r E; cases E
  | succ n ih => intro h x0 x2 x3 x4 r E; exact f_Tape_numberCode_b14_ok hst hd   ih E
def f_Tape_numberCode_b0   (h : Hp) (x0 : Nat) (x1 : Int32) (x2 : Int32)  : Option (Int32 × Hp) :=
if (x2 - x1) ≤ (3 : Int32) then (
f_Tape_numberCode_L14   FU h x0 x2 (0 : Int32) x1

) else (
some ((-1 : Int32), h)

)

set_option maxRecDepth 20000 in
set_option maxHeartbeats 4000000 in
theorem f_Tape_numberCode_b0_ok {l : Launch} {X : Nat × (Nat → Int32)} (hst : l.stackTraces = false) {d : Nat} (hd : 1 ≤ d)     {h : Hp} {x0 : Nat} {x1 : Int32} {x2 : Int32}  {r : Int32 × Hp} (E : f_Tape_numberCode_b0   h x0 x1 x2 = some r) : Rn l X mX9_numberCode d 0 [(0, .ref x0), (1, .int x1), (2, .int x2)] [] h (eI r) r.2 := by
  unfold f_Tape_numberCode_b0 at E
  refine Rn.iload_n (pc' := 1) dX9_numberCode_0 rfl 2 rfl rfl ?_
  refine Rn.iload_n (pc' := 2) dX9_numberCode_1 rfl 1 rfl rfl ?_
  refine Rn.isub (pc' := 3) dX9_numberCode_2 rfl ?_
  refine Rn.iconst (pc' := 4) (v := (3 : Int32)) (hv := by decide) dX9_numberCode_3 rfl ?_
  refine Rn.icmp_le (pc' := 7) (tgt := 9) dX9_numberCode_4 (by decide) rfl (fun c1 => ?_) (fun c1 => ?_)
  · replace E := (if_of E).1 c1
    refine Rn.iconst (pc' := 10) (v := (0 : Int32)) (hv := by decide) dX9_numberCode_9 rfl ?_
    refine Rn.istore_n (pc' := 11) (L' := [(3, .int (0 : Int32)), (0, .ref x0), (1, .int x1), (2, .int x2)]) dX9_numberCode_10 rfl (by decide) rfl rfl ?_
    refine Rn.iload_n (pc' := 12) dX9_numberCode_11 rfl 2 rfl rfl ?_
    refine Rn.istore (pc' := 14) (L' := [(4, .int x1), (3, .int (0 : Int32)), (0, .ref x0), (1, .int x1), (2, .int x2)]) dX9_numberCode_12 (by decide) rfl rfl ?_
    refine Rn.sub [2, 4, 1, 0] rfl ?_
    exact f_Tape_numberCode_L14_ok hst hd   FU _ _ _ _ _ _ E
  · replace E := (if_of E).2 c1
    refine Rn.iconst (pc' := 8) (v := (-1 : Int32)) (hv := by decide) dX9_numberCode_7 rfl ?_
    cases E
    exact Rn.zret rfl rfl dX9_numberCode_8
def f_Tape_numberCode (h : Hp) (x0 : Nat) (x1 : Int32) (x2 : Int32) : Option (Int32 × Hp) := f_Tape_numberCode_b0  h x0 x1 x2
theorem f_Tape_numberCode_ok {l : Launch} {X : Nat × (Nat → Int32)} (hst : l.stackTraces = false) {h : Hp} {x0 : Nat} {x1 : Int32} {x2 : Int32} {r : Int32 × Hp} (E : f_Tape_numberCode h x0 x1 x2 = some r) : MC l X yX9_numberCode mX9_numberCode 1 [.ref x0, .int x1, .int x2] h (eI r) r.2 :=
  MC.body (by decide +kernel) rfl (by decide) hst (Nat.le_of_ble_eq_true rfl) (f_Tape_numberCode_b0_ok hst (Nat.le_refl _) E)
abbrev mX9_codeOf : MI := (RX9, cX9_codeOf, 3, (some Jvm.ClassFile.FieldType.int), [], false)
theorem ws_X9_codeOf : ∀ w ∈ wsM yX9_codeOf mX9_codeOf, w ∈ gw := List.forall_mem_cons.mpr ⟨gw_at 756 (by decide +kernel) (by decide +kernel), fun _ h => h⟩
theorem kb_X9_56 : KB RX9 56 yX9_numberCode mX9_numberCode 2 := ⟨gw_at 814 (by decide +kernel) (by decide +kernel), gw_at 108 (by decide +kernel) (by decide +kernel), trivial, ws_X9_numberCode, by decide +kernel, by decide +kernel, by decide +kernel, by decide⟩
theorem ki_X9_numberCode : Cond.instanceMethod yX9_numberCode ∈ gw ∧ Cond.selects yX9_numberCode.cls yX9_numberCode yX9_numberCode ∈ gw := ⟨gw_at 816 (by decide +kernel) (by decide +kernel), gw_at 16 (by decide +kernel) (by decide +kernel)⟩
theorem kb_X9_53 : KB RX9 53 yX9_wordCode mX9_wordCode 2 := ⟨gw_at 757 (by decide +kernel) (by decide +kernel), gw_at 108 (by decide +kernel) (by decide +kernel), trivial, ws_X9_wordCode, by decide +kernel, by decide +kernel, by decide +kernel, by decide⟩
theorem ki_X9_wordCode : Cond.instanceMethod yX9_wordCode ∈ gw ∧ Cond.selects yX9_wordCode.cls yX9_wordCode yX9_wordCode ∈ gw := ⟨gw_at 759 (by decide +kernel) (by decide +kernel), gw_at 14 (by decide +kernel) (by decide +kernel)⟩
def f_Tape_codeOf_b0   (h : Hp) (x0 : Nat) (x1 : Int32) (x2 : Int32)  : Option (Int32 × Hp) :=
if hS h x0 = 9 then (
bI (f_Tape_isLetter h x0 x1) fun v2 h3 =>
if v2 = 0 then (
if hS h3 x0 = 9 then (
bI (f_Tape_isDigit h3 x0 x1) fun v7 h8 =>
if v7 = 0 then (
if hS h8 x0 = 9 then (
bI (f_Tape_byteAt h8 x0 x1) fun v12 h13 =>
some (((2000 : Int32) + v12), h13)
) else none
) else (
if hS h8 x0 = 9 then (
bI (f_Tape_numberCode h8 x0 x1 x2) fun v16 h17 =>
some (v16, h17)
) else none
)
) else none
) else (
if hS h3 x0 = 9 then (
bI (f_Tape_wordCode h3 x0 x1 x2) fun v20 h21 =>
some (v20, h21)
) else none
)
) else none
set_option maxRecDepth 20000 in
set_option maxHeartbeats 4000000 in
theorem f_Tape_codeOf_b0_ok {l : Launch} {X : Nat × (Nat → Int32)} (hst : l.stackTraces = false) {d : Nat} (hd : 6 ≤ d)     {h : Hp} {x0 : Nat} {x1 : Int32} {x2 : Int32}  {r : Int32 × Hp} (E : f_Tape_codeOf_b0   h x0 x1 x2 = some r) : Rn l X mX9_codeOf d 0 [(0, .ref x0), (1, .int x1), (2, .int x2)] [] h (eI r) r.2 := by
  unfold f_Tape_codeOf_b0 at E
  refine Rn.aload_n (pc' := 1) dX9_codeOf_0 rfl 0 rfl rfl ?_
  refine Rn.iload_n (pc' := 2) dX9_codeOf_1 rfl 1 rfl rfl ?_
  obtain ⟨g1, E⟩ := gd_of E
  obtain ⟨v2, h3, e4, E⟩ := bI_of E
  refine Rn.callV1 (pc' := 5) (As := [.int x1]) (rest := []) (f_Tape_isLetter_ok hst e4) (Nat.le_trans (by decide) hd) rfl kb_X9_46 ki_X9_isLetter rfl g1 rfl rfl (Nat.le_of_ble_eq_true rfl) dX9_codeOf_2 rfl rfl ?_
  refine Rn.if_eq (pc' := 8) (tgt := 15) dX9_codeOf_5 (by decide) rfl (fun c5 => ?_) (fun c5 => ?_)
  · replace E := (if_of E).1 c5
    refine Rn.aload_n (pc' := 16) dX9_codeOf_15 rfl 0 rfl rfl ?_
    refine Rn.iload_n (pc' := 17) dX9_codeOf_16 rfl 1 rfl rfl ?_
    obtain ⟨g6, E⟩ := gd_of E
    obtain ⟨v7, h8, e9, E⟩ := bI_of E
    refine Rn.callV1 (pc' := 20) (As := [.int x1]) (rest := []) (f_Tape_isDigit_ok hst e9) (Nat.le_trans (by decide) hd) rfl kb_X9_50 ki_X9_isDigit rfl g6 rfl rfl (Nat.le_of_ble_eq_true rfl) dX9_codeOf_17 rfl rfl ?_
    refine Rn.if_eq (pc' := 23) (tgt := 32) dX9_codeOf_20 (by decide) rfl (fun c10 => ?_) (fun c10 => ?_)
    · replace E := (if_of E).1 c10
      refine Rn.sipush (pc' := 35) (v := (2000 : Int32)) (hv := by decide) dX9_codeOf_32 rfl ?_
      refine Rn.aload_n (pc' := 36) dX9_codeOf_35 rfl 0 rfl rfl ?_
      refine Rn.iload_n (pc' := 37) dX9_codeOf_36 rfl 1 rfl rfl ?_
      obtain ⟨g11, E⟩ := gd_of E
      obtain ⟨v12, h13, e14, E⟩ := bI_of E
      refine Rn.callV1 (pc' := 40) (As := [.int x1]) (rest := [.int (2000 : Int32)]) (f_Tape_byteAt_ok hst e14) (Nat.le_trans (by decide) hd) rfl kb_X9_43 ki_X9_byteAt rfl g11 rfl rfl (Nat.le_of_ble_eq_true rfl) dX9_codeOf_37 rfl rfl ?_
      refine Rn.iadd (pc' := 41) dX9_codeOf_40 rfl ?_
      cases E
      exact Rn.zret rfl rfl dX9_codeOf_41
    · replace E := (if_of E).2 c10
      refine Rn.aload_n (pc' := 24) dX9_codeOf_23 rfl 0 rfl rfl ?_
      refine Rn.iload_n (pc' := 25) dX9_codeOf_24 rfl 1 rfl rfl ?_
      refine Rn.iload_n (pc' := 26) dX9_codeOf_25 rfl 2 rfl rfl ?_
      obtain ⟨g15, E⟩ := gd_of E
      obtain ⟨v16, h17, e18, E⟩ := bI_of E
      refine Rn.callV1 (pc' := 29) (As := [.int x1, .int x2]) (rest := []) (f_Tape_numberCode_ok hst e18) (Nat.le_trans (by decide) hd) rfl kb_X9_56 ki_X9_numberCode rfl g15 rfl rfl (Nat.le_of_ble_eq_true rfl) dX9_codeOf_26 rfl rfl ?_
      refine Rn.goto (pc' := 41) dX9_codeOf_29 (by decide) ?_
      cases E
      exact Rn.zret rfl rfl dX9_codeOf_41
  · replace E := (if_of E).2 c5
    refine Rn.aload_n (pc' := 9) dX9_codeOf_8 rfl 0 rfl rfl ?_
    refine Rn.iload_n (pc' := 10) dX9_codeOf_9 rfl 1 rfl rfl ?_
    refine Rn.iload_n (pc' := 11) dX9_codeOf_10 rfl 2 rfl rfl ?_
    obtain ⟨g19, E⟩ := gd_of E
    obtain ⟨v20, h21, e22, E⟩ := bI_of E
    refine Rn.callV1 (pc' := 14) (As := [.int x1, .int x2]) (rest := []) (f_Tape_wordCode_ok hst e22) (Nat.le_trans (by decide) hd) rfl kb_X9_53 ki_X9_wordCode rfl g19 rfl rfl (Nat.le_of_ble_eq_true rfl) dX9_codeOf_11 rfl rfl ?_
    cases E
    exact Rn.zret rfl rfl dX9_codeOf_14
def f_Tape_codeOf (h : Hp) (x0 : Nat) (x1 : Int32) (x2 : Int32) : Option (Int32 × Hp) := f_Tape_codeOf_b0  h x0 x1 x2
theorem f_Tape_codeOf_ok {l : Launch} {X : Nat × (Nat → Int32)} (hst : l.stackTraces = false) {h : Hp} {x0 : Nat} {x1 : Int32} {x2 : Int32} {r : Int32 × Hp} (E : f_Tape_codeOf h x0 x1 x2 = some r) : MC l X yX9_codeOf mX9_codeOf 6 [.ref x0, .int x1, .int x2] h (eI r) r.2 :=
  MC.body (by decide +kernel) rfl (by decide) hst (Nat.le_of_ble_eq_true rfl) (f_Tape_codeOf_b0_ok hst (Nat.le_refl _) E)
abbrev mX9_cut : MI := (RX9, cX9_cut, 4, none, [], false)
theorem ws_X9_cut : ∀ w ∈ wsM yX9_cut mX9_cut, w ∈ gw := List.forall_mem_cons.mpr ⟨gw_at 732 (by decide +kernel) (by decide +kernel), fun _ h => h⟩
theorem fl_X9_37_8 : FL RX9 37 8 4 := ⟨_, rfl, by decide, "VintageWater$Tape", gw_at 153 (by decide +kernel) (by decide +kernel), Or.inl rfl⟩
theorem fl_X9_40_8 : FL RX9 40 8 5 := ⟨_, rfl, by decide, "VintageWater$Tape", gw_at 155 (by decide +kernel) (by decide +kernel), Or.inl rfl⟩
def f_Tape_cut_b60   (h : Hp) (x0 : Nat) (x1 : Int32)  : Option (Hp) :=
if hS h x0 = 9 then (
if hS h (hR h x0 2) = 20 then (
if ib x1 (hL h (hR h x0 2)) = true then (
wr (sI h (hR h x0 2) (ix x1) (hI h x0 1)) fun h4 =>
if hS h4 (hR h4 x0 3) = 20 then (
if ib x1 (hL h4 (hR h4 x0 3)) = true then (
wr (sI h4 (hR h4 x0 3) (ix x1) (3000 : Int32)) fun h8 =>
wr (sI h8 x0 4 (0 : Int32)) fun h10 =>
wr (sI h10 x0 5 (-1 : Int32)) fun h12 =>
some h12
) else none) else none) else none) else none) else none
set_option maxRecDepth 20000 in
set_option maxHeartbeats 4000000 in
theorem f_Tape_cut_b60_ok {l : Launch} {X : Nat × (Nat → Int32)} (hst : l.stackTraces = false) {d : Nat} (hd : 7 ≤ d)     {h : Hp} {x0 : Nat} {x1 : Int32}  {r : Hp} (E : f_Tape_cut_b60   h x0 x1 = some r) : Rn l X mX9_cut d 60 [(0, .ref x0), (1, .int x1)] [] h (eV r) r := by
  unfold f_Tape_cut_b60 at E
  refine Rn.aload_n (pc' := 61) dX9_cut_60 rfl 0 rfl rfl ?_
  obtain ⟨g1, E⟩ := gd_of E
  refine Rn.getR (pc' := 64) fl_X9_15_8 g1 rfl dX9_cut_61 rfl ?_
  refine Rn.iload_n (pc' := 65) dX9_cut_64 rfl 1 rfl rfl ?_
  refine Rn.aload_n (pc' := 66) dX9_cut_65 rfl 0 rfl rfl ?_
  refine Rn.getI (pc' := 69) fl_X9_22_8 g1 rfl dX9_cut_66 rfl ?_
  obtain ⟨g2, E⟩ := gd_of E
  obtain ⟨g3, E⟩ := gd_of E
  refine Rn.iast (pc' := 70) g2 g3 dX9_cut_69 rfl ?_
  replace E := wr_of E
  generalize eh5 : sI h (hR h x0 2) (ix x1) (hI h x0 1) = h4 at E ⊢
  refine Rn.aload_n (pc' := 71) dX9_cut_70 rfl 0 rfl rfl ?_
  refine Rn.getR (pc' := 74) fl_X9_19_8 (kp_sI eh5 g1) rfl dX9_cut_71 rfl ?_
  refine Rn.iload_n (pc' := 75) dX9_cut_74 rfl 1 rfl rfl ?_
  refine Rn.sipush (pc' := 78) (v := (3000 : Int32)) (hv := by decide) dX9_cut_75 rfl ?_
  obtain ⟨g6, E⟩ := gd_of E
  obtain ⟨g7, E⟩ := gd_of E
  refine Rn.iast (pc' := 79) g6 g7 dX9_cut_78 rfl ?_
  replace E := wr_of E
  generalize eh9 : sI h4 (hR h4 x0 3) (ix x1) (3000 : Int32) = h8 at E ⊢
  refine Rn.aload_n (pc' := 80) dX9_cut_79 rfl 0 rfl rfl ?_
  refine Rn.iconst (pc' := 81) (v := (0 : Int32)) (hv := by decide) dX9_cut_80 rfl ?_
  refine Rn.putI (pc' := 84) fl_X9_37_8 (fun q hq => by cases hq; decide) (kp_sI eh9 (kp_sI eh5 g1)) rfl rfl rfl dX9_cut_81 rfl ?_
  replace E := wr_of E
  generalize eh11 : sI h8 x0 4 (0 : Int32) = h10 at E ⊢
  refine Rn.aload_n (pc' := 85) dX9_cut_84 rfl 0 rfl rfl ?_
  refine Rn.iconst (pc' := 86) (v := (-1 : Int32)) (hv := by decide) dX9_cut_85 rfl ?_
  refine Rn.putI (pc' := 89) fl_X9_40_8 (fun q hq => by cases hq; decide) (kp_sI eh11 (kp_sI eh9 (kp_sI eh5 g1))) rfl rfl rfl dX9_cut_86 rfl ?_
  replace E := wr_of E
  generalize eh13 : sI h10 x0 5 (-1 : Int32) = h12 at E ⊢
  cases E
  exact Rn.vret rfl dX9_cut_89
theorem kb_X9_30 : KB RX9 30 yX9_behindThing mX9_behindThing 1 := ⟨gw_at 741 (by decide +kernel) (by decide +kernel), gw_at 108 (by decide +kernel) (by decide +kernel), trivial, ws_X9_behindThing, by decide +kernel, by decide +kernel, by decide +kernel, by decide⟩
theorem ki_X9_behindThing : Cond.instanceMethod yX9_behindThing ∈ gw ∧ Cond.selects yX9_behindThing.cls yX9_behindThing yX9_behindThing ∈ gw := ⟨gw_at 743 (by decide +kernel) (by decide +kernel), gw_at 10 (by decide +kernel) (by decide +kernel)⟩
theorem kb_X9_33 : KB RX9 33 yX9_codeOf mX9_codeOf 2 := ⟨gw_at 753 (by decide +kernel) (by decide +kernel), gw_at 108 (by decide +kernel) (by decide +kernel), trivial, ws_X9_codeOf, by decide +kernel, by decide +kernel, by decide +kernel, by decide⟩
theorem ki_X9_codeOf : Cond.instanceMethod yX9_codeOf ∈ gw ∧ Cond.selects yX9_codeOf.cls yX9_codeOf yX9_codeOf ∈ gw := ⟨gw_at 755 (by decide +kernel) (by decide +kernel), gw_at 13 (by decide +kernel) (by decide +kernel)⟩
theorem kb_X9_26 : KB RX9 26 yX9_behindBlanks mX9_behindBlanks 1 := ⟨gw_at 733 (by decide +kernel) (by decide +kernel), gw_at 108 (by decide +kernel) (by decide +kernel), trivial, ws_X9_behindBlanks, by decide +kernel, by decide +kernel, by decide +kernel, by decide⟩
theorem ki_X9_behindBlanks : Cond.instanceMethod yX9_behindBlanks ∈ gw ∧ Cond.selects yX9_behindBlanks.cls yX9_behindBlanks yX9_behindBlanks ∈ gw := ⟨gw_at 735 (by decide +kernel) (by decide +kernel), gw_at 9 (by decide +kernel) (by decide +kernel)⟩
def f_Tape_cut_b8  (k8 : Hp → Nat → Int32 → Int32 → Option (Hp)) (h : Hp) (x0 : Nat) (x1 : Int32) (x2 : Int32)  : Option (Hp) :=
if hS h x0 = 9 then (
if (hI h x0 1) ≤ x2 then (
f_Tape_cut_b60   h x0 x1

) else (
if (400 : Int32) ≤ x1 then (
f_Tape_cut_b60   h x0 x1

) else (
bI (f_Tape_behindThing h x0 x2) fun v4 h5 =>
if hS h5 x0 = 9 then (
if hS h5 (hR h5 x0 2) = 20 then (
if ib x1 (hL h5 (hR h5 x0 2)) = true then (
wr (sI h5 (hR h5 x0 2) (ix x1) x2) fun h10 =>
bI (f_Tape_codeOf h10 x0 x2 v4) fun v12 h13 =>
if hS h13 (hR h10 x0 3) = 20 then (
if ib x1 (hL h13 (hR h10 x0 3)) = true then (
wr (sI h13 (hR h10 x0 3) (ix x1) v12) fun h17 =>
if hS h17 x0 = 9 then (
bI (f_Tape_behindBlanks h17 x0 v4) fun v20 h21 =>
k8 h21 x0 (x1 + (1 : Int32)) v20
) else none) else none) else none) else none) else none) else none
)

)
) else none
set_option maxRecDepth 20000 in
set_option maxHeartbeats 4000000 in
theorem f_Tape_cut_b8_ok {l : Launch} {X : Nat × (Nat → Int32)} (hst : l.stackTraces = false) {d : Nat} (hd : 7 ≤ d)   {k8 : Hp → Nat → Int32 → Int32 → Option (Hp)} (hk8 : ∀ (h : Hp) (x0 : Nat) (x1 : Int32) (x2 : Int32)  (r : Hp), k8 h x0 x1 x2 = some r → Rn l X mX9_cut d 8 [(0, .ref x0), (1, .int x1), (2, .int x2)] [] h (eV r) r) {h : Hp} {x0 : Nat} {x1 : Int32} {x2 : Int32}  {r : Hp} (E : f_Tape_cut_b8  k8 h x0 x1 x2 = some r) : Rn l X mX9_cut d 8 [(0, .ref x0), (1, .int x1), (2, .int x2)] [] h (eV r) r := by
  unfold f_Tape_cut_b8 at E
  refine Rn.iload_n (pc' := 9) dX9_cut_8 rfl 2 rfl rfl ?_
  refine Rn.aload_n (pc' := 10) dX9_cut_9 rfl 0 rfl rfl ?_
  obtain ⟨g1, E⟩ := gd_of E
  refine Rn.getI (pc' := 13) fl_X9_22_8 g1 rfl dX9_cut_10 rfl ?_
  refine Rn.icmp_ge (pc' := 16) (tgt := 60) dX9_cut_13 (by decide) rfl (fun c2 => ?_) (fun c2 => ?_)
  · replace E := (if_of E).1 c2
    refine Rn.sub [0, 1] rfl ?_
    exact f_Tape_cut_b60_ok hst hd   E
  · replace E := (if_of E).2 c2
    refine Rn.iload_n (pc' := 17) dX9_cut_16 rfl 1 rfl rfl ?_
    refine Rn.sipush (pc' := 20) (v := (400 : Int32)) (hv := by decide) dX9_cut_17 rfl ?_
    refine Rn.icmp_ge (pc' := 23) (tgt := 60) dX9_cut_20 (by decide) rfl (fun c3 => ?_) (fun c3 => ?_)
    · replace E := (if_of E).1 c3
      refine Rn.sub [0, 1] rfl ?_
      exact f_Tape_cut_b60_ok hst hd   E
    · replace E := (if_of E).2 c3
      refine Rn.aload_n (pc' := 24) dX9_cut_23 rfl 0 rfl rfl ?_
      refine Rn.iload_n (pc' := 25) dX9_cut_24 rfl 2 rfl rfl ?_
      obtain ⟨v4, h5, e6, E⟩ := bI_of E
      refine Rn.callV1 (pc' := 28) (As := [.int x2]) (rest := []) (f_Tape_behindThing_ok hst e6) (Nat.le_trans (by decide) hd) rfl kb_X9_30 ki_X9_behindThing rfl g1 rfl rfl (Nat.le_of_ble_eq_true rfl) dX9_cut_25 rfl rfl ?_
      refine Rn.istore_n (pc' := 29) (L' := [(3, .int v4), (0, .ref x0), (1, .int x1), (2, .int x2)]) dX9_cut_28 rfl (by decide) rfl rfl ?_
      refine Rn.aload_n (pc' := 30) dX9_cut_29 rfl 1 rfl rfl ?_
      obtain ⟨g7, E⟩ := gd_of E
      refine Rn.getR (pc' := 33) fl_X9_15_8 g7 rfl dX9_cut_30 rfl ?_
      refine Rn.iload_n (pc' := 34) dX9_cut_33 rfl 2 rfl rfl ?_
      refine Rn.iload_n (pc' := 35) dX9_cut_34 rfl 3 rfl rfl ?_
      obtain ⟨g8, E⟩ := gd_of E
      obtain ⟨g9, E⟩ := gd_of E
      refine Rn.iast (pc' := 36) g8 g9 dX9_cut_35 rfl ?_
      replace E := wr_of E
      generalize eh11 : sI h5 (hR h5 x0 2) (ix x1) x2 = h10 at E ⊢
      refine Rn.aload_n (pc' := 37) dX9_cut_36 rfl 1 rfl rfl ?_
      refine Rn.getR (pc' := 40) fl_X9_19_8 (kp_sI eh11 g7) rfl dX9_cut_37 rfl ?_
      refine Rn.iload_n (pc' := 41) dX9_cut_40 rfl 2 rfl rfl ?_
      refine Rn.aload_n (pc' := 42) dX9_cut_41 rfl 1 rfl rfl ?_
      refine Rn.iload_n (pc' := 43) dX9_cut_42 rfl 3 rfl rfl ?_
      refine Rn.iload_n (pc' := 44) dX9_cut_43 rfl 0 rfl rfl ?_
      obtain ⟨v12, h13, e14, E⟩ := bI_of E
      refine Rn.callV1 (pc' := 47) (As := [.int x2, .int v4]) (rest := [.int x1, .ref (hR h10 x0 3)]) (f_Tape_codeOf_ok hst e14) (Nat.le_trans (by decide) hd) rfl kb_X9_33 ki_X9_codeOf rfl (kp_sI eh11 g7) rfl rfl (Nat.le_of_ble_eq_true rfl) dX9_cut_44 rfl rfl ?_
      obtain ⟨g15, E⟩ := gd_of E
      obtain ⟨g16, E⟩ := gd_of E
      refine Rn.iast (pc' := 48) g15 g16 dX9_cut_47 rfl ?_
      replace E := wr_of E
      generalize eh18 : sI h13 (hR h10 x0 3) (ix x1) v12 = h17 at E ⊢
      refine Rn.iinc (pc' := 51) (v := (x1 + (1 : Int32))) (L' := [(1, .int (x1 + (1 : Int32))), (3, .int v4), (0, .ref x0), (2, .int x2)]) dX9_cut_48 2 rfl rfl (by decide) rfl rfl ?_
      refine Rn.aload_n (pc' := 52) dX9_cut_51 rfl 2 rfl rfl ?_
      refine Rn.iload_n (pc' := 53) dX9_cut_52 rfl 1 rfl rfl ?_
      obtain ⟨g19, E⟩ := gd_of E
      obtain ⟨v20, h21, e22, E⟩ := bI_of E
      refine Rn.callV1 (pc' := 56) (As := [.int v4]) (rest := []) (f_Tape_behindBlanks_ok hst e22) (Nat.le_trans (by decide) hd) rfl kb_X9_26 ki_X9_behindBlanks rfl g19 rfl rfl (Nat.le_of_ble_eq_true rfl) dX9_cut_53 rfl rfl ?_
      refine Rn.istore_n (pc' := 57) (L' := [(2, .int v20), (1, .int (x1 + (1 : Int32))), (3, .int v4), (0, .ref x0)]) dX9_cut_56 rfl (by decide) rfl rfl ?_
      refine Rn.goto (pc' := 8) dX9_cut_57 (by decide) ?_
      refine Rn.sub [3, 1, 0] rfl ?_
      exact hk8 _ _ _ _ _ E
def f_Tape_cut_L8   (n : Nat) : Hp → Nat → Int32 → Int32 → Option (Hp) := Nat.rec (motive := fun _ => Hp → Nat → Int32 → Int32 → Option (Hp)) (fun _ _ _ _ => none) (fun _ rec => f_Tape_cut_b8   rec) n
theorem f_Tape_cut_L8_ok {l : Launch} {X : Nat × (Nat → Int32)} (hst : l.stackTraces = false) {d : Nat} (hd : 7 ≤ d)     : ∀ (n : Nat) (h : Hp) (x0 : Nat) (x1 : Int32) (x2 : Int32)  (r : Hp), f_Tape_cut_L8   n h x0 x1 x2 = some r → Rn l X mX9_cut d 8 [(0, .ref x0), (1, .int x1), (2, .int x2)] [] h (eV r) r := by
  intro n
  induction n with
  | zero => intro h x0 x1 x2 r E; cases E
  | succ n ih => intro h x0 x1 x2 r E; exact f_Tape_cut_b8_ok hst hd   ih E
def f_Tape_cut_b0   (h : Hp) (x0 : Nat)  : Option (Hp) :=
if hS h x0 = 9 then (
bI (f_Tape_behindBlanks h x0 (0 : Int32)) fun v2 h3 =>
f_Tape_cut_L8   FU h3 x0 (0 : Int32) v2
) else none
set_option maxRecDepth 20000 in
set_option maxHeartbeats 4000000 in
theorem f_Tape_cut_b0_ok {l : Launch} {X : Nat × (Nat → Int32)} (hst : l.stackTraces = false) {d : Nat} (hd : 7 ≤ d)     {h : Hp} {x0 : Nat}  {r : Hp} (E : f_Tape_cut_b0   h x0 = some r) : Rn l X mX9_cut d 0 [(0, .ref x0)] [] h (eV r) r := by
  unfold f_Tape_cut_b0 at E
  refine Rn.iconst (pc' := 1) (v := (0 : Int32)) (hv := by decide) dX9_cut_0 rfl ?_
  refine Rn.istore_n (pc' := 2) (L' := [(1, .int (0 : Int32)), (0, .ref x0)]) dX9_cut_1 rfl (by decide) rfl rfl ?_
  refine Rn.aload_n (pc' := 3) dX9_cut_2 rfl 1 rfl rfl ?_
  refine Rn.iconst (pc' := 4) (v := (0 : Int32)) (hv := by decide) dX9_cut_3 rfl ?_
  obtain ⟨g1, E⟩ := gd_of E
  obtain ⟨v2, h3, e4, E⟩ := bI_of E
  refine Rn.callV1 (pc' := 7) (As := [.int (0 : Int32)]) (rest := []) (f_Tape_behindBlanks_ok hst e4) (Nat.le_trans (by decide) hd) rfl kb_X9_26 ki_X9_behindBlanks rfl g1 rfl rfl (Nat.le_of_ble_eq_true rfl) dX9_cut_4 rfl rfl ?_
  refine Rn.istore_n (pc' := 8) (L' := [(2, .int v2), (1, .int (0 : Int32)), (0, .ref x0)]) dX9_cut_7 rfl (by decide) rfl rfl ?_
  refine Rn.sub [2, 1, 0] rfl ?_
  exact f_Tape_cut_L8_ok hst hd   FU _ _ _ _ _ E
def f_Tape_cut (h : Hp) (x0 : Nat) : Option (Hp) := f_Tape_cut_b0  h x0
theorem f_Tape_cut_ok {l : Launch} {X : Nat × (Nat → Int32)} (hst : l.stackTraces = false) {h : Hp} {x0 : Nat} {r : Hp} (E : f_Tape_cut h x0 = some r) : MC l X yX9_cut mX9_cut 7 [.ref x0] h (eV r) r :=
  MC.body (by decide +kernel) rfl (by decide) hst (Nat.le_of_ble_eq_true rfl) (f_Tape_cut_b0_ok hst (Nat.le_refl _) E)
abbrev mX9_is : MI := (RX9, cX9_is, 2, (some Jvm.ClassFile.FieldType.boolean), [], false)
theorem ws_X9_is : ∀ w ∈ wsM yX9_is mX9_is, w ∈ gw := List.forall_mem_cons.mpr ⟨gw_at 821 (by decide +kernel) (by decide +kernel), fun _ h => h⟩
def f_Tape_is_b0   (h : Hp) (x0 : Nat) (x1 : Int32)  : Option (Int32 × Hp) :=
if hS h x0 = 9 then (
if (hI h x0 4) < 0 then (
some ((0 : Int32), h)

) else (
if hS h (hR h x0 3) = 20 then (
if (Int32.ofNat (hL h (hR h x0 3))) ≤ (hI h x0 4) then (
some ((0 : Int32), h)

) else (
if ib (hI h x0 4) (hL h (hR h x0 3)) = true then (
if (hI h (hR h x0 3) (ix (hI h x0 4))) = x1 then (
some ((1 : Int32), h)

) else (
some ((0 : Int32), h)

)
) else none
)
) else none
)
) else none
set_option maxRecDepth 20000 in
set_option maxHeartbeats 4000000 in
theorem f_Tape_is_b0_ok {l : Launch} {X : Nat × (Nat → Int32)} (hst : l.stackTraces = false) {d : Nat} (hd : 0 ≤ d)     {h : Hp} {x0 : Nat} {x1 : Int32}  {r : Int32 × Hp} (E : f_Tape_is_b0   h x0 x1 = some r) : Rn l X mX9_is d 0 [(0, .ref x0), (1, .int x1)] [] h (eI r) r.2 := by
  unfold f_Tape_is_b0 at E
  refine Rn.aload_n (pc' := 1) dX9_is_0 rfl 0 rfl rfl ?_
  obtain ⟨g1, E⟩ := gd_of E
  refine Rn.getI (pc' := 4) fl_X9_37_8 g1 rfl dX9_is_1 rfl ?_
  refine Rn.if_lt (pc' := 7) (tgt := 36) dX9_is_4 (by decide) rfl (fun c2 => ?_) (fun c2 => ?_)
  · replace E := (if_of E).1 c2
    refine Rn.iconst (pc' := 37) (v := (0 : Int32)) (hv := by decide) dX9_is_36 rfl ?_
    cases E
    exact Rn.zret rfl rfl dX9_is_37
  · replace E := (if_of E).2 c2
    refine Rn.aload_n (pc' := 8) dX9_is_7 rfl 0 rfl rfl ?_
    refine Rn.getI (pc' := 11) fl_X9_37_8 g1 rfl dX9_is_8 rfl ?_
    refine Rn.aload_n (pc' := 12) dX9_is_11 rfl 0 rfl rfl ?_
    refine Rn.getR (pc' := 15) fl_X9_19_8 g1 rfl dX9_is_12 rfl ?_
    obtain ⟨g3, E⟩ := gd_of E
    refine Rn.alen (pc' := 16) g3 (by decide) (by decide) dX9_is_15 rfl ?_
    refine Rn.icmp_ge (pc' := 19) (tgt := 36) dX9_is_16 (by decide) rfl (fun c4 => ?_) (fun c4 => ?_)
    · replace E := (if_of E).1 c4
      refine Rn.iconst (pc' := 37) (v := (0 : Int32)) (hv := by decide) dX9_is_36 rfl ?_
      cases E
      exact Rn.zret rfl rfl dX9_is_37
    · replace E := (if_of E).2 c4
      refine Rn.aload_n (pc' := 20) dX9_is_19 rfl 0 rfl rfl ?_
      refine Rn.getR (pc' := 23) fl_X9_19_8 g1 rfl dX9_is_20 rfl ?_
      refine Rn.aload_n (pc' := 24) dX9_is_23 rfl 0 rfl rfl ?_
      refine Rn.getI (pc' := 27) fl_X9_37_8 g1 rfl dX9_is_24 rfl ?_
      obtain ⟨g5, E⟩ := gd_of E
      refine Rn.iald (pc' := 28) g3 g5 dX9_is_27 rfl ?_
      refine Rn.iload_n (pc' := 29) dX9_is_28 rfl 1 rfl rfl ?_
      refine Rn.icmp_ne (pc' := 32) (tgt := 36) dX9_is_29 (by decide) rfl (fun c6 => ?_) (fun c6 => ?_)
      · replace E := (if_of E).2 c6
        refine Rn.iconst (pc' := 37) (v := (0 : Int32)) (hv := by decide) dX9_is_36 rfl ?_
        cases E
        exact Rn.zret rfl rfl dX9_is_37
      · replace E := (if_of E).1 c6
        refine Rn.iconst (pc' := 33) (v := (1 : Int32)) (hv := by decide) dX9_is_32 rfl ?_
        refine Rn.goto (pc' := 37) dX9_is_33 (by decide) ?_
        cases E
        exact Rn.zret rfl rfl dX9_is_37
def f_Tape_is (h : Hp) (x0 : Nat) (x1 : Int32) : Option (Int32 × Hp) := f_Tape_is_b0  h x0 x1
theorem f_Tape_is_ok {l : Launch} {X : Nat × (Nat → Int32)} (hst : l.stackTraces = false) {h : Hp} {x0 : Nat} {x1 : Int32} {r : Int32 × Hp} (E : f_Tape_is h x0 x1 = some r) : MC l X yX9_is mX9_is 0 [.ref x0, .int x1] h (eI r) r.2 :=
  MC.body (by decide +kernel) rfl (by decide) hst (Nat.le_of_ble_eq_true rfl) (f_Tape_is_b0_ok hst (Nat.le_refl _) E)
abbrev mX9_step : MI := (RX9, cX9_step, 1, none, [], false)
theorem ws_X9_step : ∀ w ∈ wsM yX9_step mX9_step, w ∈ gw := List.forall_mem_cons.mpr ⟨gw_at 843 (by decide +kernel) (by decide +kernel), fun _ h => h⟩
def f_Tape_step_b0   (h : Hp) (x0 : Nat)  : Option (Hp) :=
if hS h x0 = 9 then (
if (400 : Int32) ≤ (hI h x0 4) then (
some h

) else (
wr (sI h x0 4 ((hI h x0 4) + (1 : Int32))) fun h3 =>
some h3

)
) else none
set_option maxRecDepth 20000 in
set_option maxHeartbeats 4000000 in
theorem f_Tape_step_b0_ok {l : Launch} {X : Nat × (Nat → Int32)} (hst : l.stackTraces = false) {d : Nat} (hd : 0 ≤ d)     {h : Hp} {x0 : Nat}  {r : Hp} (E : f_Tape_step_b0   h x0 = some r) : Rn l X mX9_step d 0 [(0, .ref x0)] [] h (eV r) r := by
  unfold f_Tape_step_b0 at E
  refine Rn.aload_n (pc' := 1) dX9_step_0 rfl 0 rfl rfl ?_
  obtain ⟨g1, E⟩ := gd_of E
  refine Rn.getI (pc' := 4) fl_X9_37_8 g1 rfl dX9_step_1 rfl ?_
  refine Rn.sipush (pc' := 7) (v := (400 : Int32)) (hv := by decide) dX9_step_4 rfl ?_
  refine Rn.icmp_ge (pc' := 10) (tgt := 20) dX9_step_7 (by decide) rfl (fun c2 => ?_) (fun c2 => ?_)
  · replace E := (if_of E).1 c2
    cases E
    exact Rn.vret rfl dX9_step_20
  · replace E := (if_of E).2 c2
    refine Rn.aload_n (pc' := 11) dX9_step_10 rfl 0 rfl rfl ?_
    refine Rn.dup (pc' := 12) (hc := rfl) dX9_step_11 rfl ?_
    refine Rn.getI (pc' := 15) fl_X9_37_8 g1 rfl dX9_step_12 rfl ?_
    refine Rn.iconst (pc' := 16) (v := (1 : Int32)) (hv := by decide) dX9_step_15 rfl ?_
    refine Rn.iadd (pc' := 17) dX9_step_16 rfl ?_
    refine Rn.putI (pc' := 20) fl_X9_37_8 (fun q hq => by cases hq; decide) g1 rfl rfl rfl dX9_step_17 rfl ?_
    replace E := wr_of E
    generalize eh4 : sI h x0 4 ((hI h x0 4) + (1 : Int32)) = h3 at E ⊢
    cases E
    exact Rn.vret rfl dX9_step_20
def f_Tape_step (h : Hp) (x0 : Nat) : Option (Hp) := f_Tape_step_b0  h x0
theorem f_Tape_step_ok {l : Launch} {X : Nat × (Nat → Int32)} (hst : l.stackTraces = false) {h : Hp} {x0 : Nat} {r : Hp} (E : f_Tape_step h x0 = some r) : MC l X yX9_step mX9_step 0 [.ref x0] h (eV r) r :=
  MC.body (by decide +kernel) rfl (by decide) hst (Nat.le_of_ble_eq_true rfl) (f_Tape_step_b0_ok hst (Nat.le_refl _) E)
abbrev mX6_emit : MI := (RX6, cX6_emit, 2, none, [], false)
theorem ws_X6_emit : ∀ w ∈ wsM yX6_emit mX6_emit, w ∈ gw := List.forall_mem_cons.mpr ⟨gw_at 904 (by decide +kernel) (by decide +kernel), fun _ h => h⟩
def f_LawText_emit_b0   (h : Hp) (x0 : Nat) (x1 : Int32)  : Option (Hp) :=
if hS h x0 = 7 then (
if (hI h x0 6) < 0 then (
some h

) else (
if hS h (hR h x0 5) = 20 then (
if (Int32.ofNat (hL h (hR h x0 5))) ≤ (hI h x0 6) then (
some h

) else (
if ib (hI h x0 6) (hL h (hR h x0 5)) = true then (
wr (sI h (hR h x0 5) (ix (hI h x0 6)) x1) fun h6 =>
wr (sI h6 x0 6 ((hI h6 x0 6) + (1 : Int32))) fun h8 =>
some h8
) else none
)
) else none
)
) else none
set_option maxRecDepth 20000 in
set_option maxHeartbeats 4000000 in
theorem f_LawText_emit_b0_ok {l : Launch} {X : Nat × (Nat → Int32)} (hst : l.stackTraces = false) {d : Nat} (hd : 0 ≤ d)     {h : Hp} {x0 : Nat} {x1 : Int32}  {r : Hp} (E : f_LawText_emit_b0   h x0 x1 = some r) : Rn l X mX6_emit d 0 [(0, .ref x0), (1, .int x1)] [] h (eV r) r := by
  unfold f_LawText_emit_b0 at E
  refine Rn.aload_n (pc' := 1) dX6_emit_0 rfl 0 rfl rfl ?_
  obtain ⟨g1, E⟩ := gd_of E
  refine Rn.getI (pc' := 4) fl_X6_25_6 g1 rfl dX6_emit_1 rfl ?_
  refine Rn.if_lt (pc' := 7) (tgt := 39) dX6_emit_4 (by decide) rfl (fun c2 => ?_) (fun c2 => ?_)
  · replace E := (if_of E).1 c2
    cases E
    exact Rn.vret rfl dX6_emit_39
  · replace E := (if_of E).2 c2
    refine Rn.aload_n (pc' := 8) dX6_emit_7 rfl 0 rfl rfl ?_
    refine Rn.getI (pc' := 11) fl_X6_25_6 g1 rfl dX6_emit_8 rfl ?_
    refine Rn.aload_n (pc' := 12) dX6_emit_11 rfl 0 rfl rfl ?_
    refine Rn.getR (pc' := 15) fl_X6_18_6 g1 rfl dX6_emit_12 rfl ?_
    obtain ⟨g3, E⟩ := gd_of E
    refine Rn.alen (pc' := 16) g3 (by decide) (by decide) dX6_emit_15 rfl ?_
    refine Rn.icmp_ge (pc' := 19) (tgt := 39) dX6_emit_16 (by decide) rfl (fun c4 => ?_) (fun c4 => ?_)
    · replace E := (if_of E).1 c4
      cases E
      exact Rn.vret rfl dX6_emit_39
    · replace E := (if_of E).2 c4
      refine Rn.aload_n (pc' := 20) dX6_emit_19 rfl 0 rfl rfl ?_
      refine Rn.getR (pc' := 23) fl_X6_18_6 g1 rfl dX6_emit_20 rfl ?_
      refine Rn.aload_n (pc' := 24) dX6_emit_23 rfl 0 rfl rfl ?_
      refine Rn.getI (pc' := 27) fl_X6_25_6 g1 rfl dX6_emit_24 rfl ?_
      refine Rn.iload_n (pc' := 28) dX6_emit_27 rfl 1 rfl rfl ?_
      obtain ⟨g5, E⟩ := gd_of E
      refine Rn.iast (pc' := 29) g3 g5 dX6_emit_28 rfl ?_
      replace E := wr_of E
      generalize eh7 : sI h (hR h x0 5) (ix (hI h x0 6)) x1 = h6 at E ⊢
      refine Rn.aload_n (pc' := 30) dX6_emit_29 rfl 0 rfl rfl ?_
      refine Rn.dup (pc' := 31) (hc := rfl) dX6_emit_30 rfl ?_
      refine Rn.getI (pc' := 34) fl_X6_25_6 (kp_sI eh7 g1) rfl dX6_emit_31 rfl ?_
      refine Rn.iconst (pc' := 35) (v := (1 : Int32)) (hv := by decide) dX6_emit_34 rfl ?_
      refine Rn.iadd (pc' := 36) dX6_emit_35 rfl ?_
      refine Rn.putI (pc' := 39) fl_X6_25_6 (fun q hq => by cases hq; decide) (kp_sI eh7 g1) rfl rfl rfl dX6_emit_36 rfl ?_
      replace E := wr_of E
      generalize eh9 : sI h6 x0 6 ((hI h6 x0 6) + (1 : Int32)) = h8 at E ⊢
      cases E
      exact Rn.vret rfl dX6_emit_39
def f_LawText_emit (h : Hp) (x0 : Nat) (x1 : Int32) : Option (Hp) := f_LawText_emit_b0  h x0 x1
theorem f_LawText_emit_ok {l : Launch} {X : Nat × (Nat → Int32)} (hst : l.stackTraces = false) {h : Hp} {x0 : Nat} {x1 : Int32} {r : Hp} (E : f_LawText_emit h x0 x1 = some r) : MC l X yX6_emit mX6_emit 0 [.ref x0, .int x1] h (eV r) r :=
  MC.body (by decide +kernel) rfl (by decide) hst (Nat.le_of_ble_eq_true rfl) (f_LawText_emit_b0_ok hst (Nat.le_refl _) E)
abbrev mX9_code : MI := (RX9, cX9_code, 1, (some Jvm.ClassFile.FieldType.int), [], false)
theorem ws_X9_code : ∀ w ∈ wsM yX9_code mX9_code, w ∈ gw := List.forall_mem_cons.mpr ⟨gw_at 831 (by decide +kernel) (by decide +kernel), fun _ h => h⟩
def f_Tape_code_b31   (h : Hp)   : Option (Int32 × Hp) :=
some ((3000 : Int32), h)

set_option maxRecDepth 20000 in
set_option maxHeartbeats 4000000 in
theorem f_Tape_code_b31_ok {l : Launch} {X : Nat × (Nat → Int32)} (hst : l.stackTraces = false) {d : Nat} (hd : 0 ≤ d)     {h : Hp}   {r : Int32 × Hp} (E : f_Tape_code_b31   h  = some r) : Rn l X mX9_code d 31 [] [] h (eI r) r.2 := by
  unfold f_Tape_code_b31 at E
  refine Rn.sipush (pc' := 34) (v := (3000 : Int32)) (hv := by decide) dX9_code_31 rfl ?_
  cases E
  exact Rn.zret rfl rfl dX9_code_34
def f_Tape_code_b0   (h : Hp) (x0 : Nat)  : Option (Int32 × Hp) :=
if hS h x0 = 9 then (
if (hI h x0 4) < 0 then (
f_Tape_code_b31   h

) else (
if hS h (hR h x0 3) = 20 then (
if (Int32.ofNat (hL h (hR h x0 3))) ≤ (hI h x0 4) then (
f_Tape_code_b31   h

) else (
if ib (hI h x0 4) (hL h (hR h x0 3)) = true then (
some ((hI h (hR h x0 3) (ix (hI h x0 4))), h)
) else none
)
) else none
)
) else none
set_option maxRecDepth 20000 in
set_option maxHeartbeats 4000000 in
theorem f_Tape_code_b0_ok {l : Launch} {X : Nat × (Nat → Int32)} (hst : l.stackTraces = false) {d : Nat} (hd : 0 ≤ d)     {h : Hp} {x0 : Nat}  {r : Int32 × Hp} (E : f_Tape_code_b0   h x0 = some r) : Rn l X mX9_code d 0 [(0, .ref x0)] [] h (eI r) r.2 := by
  unfold f_Tape_code_b0 at E
  refine Rn.aload_n (pc' := 1) dX9_code_0 rfl 0 rfl rfl ?_
  obtain ⟨g1, E⟩ := gd_of E
  refine Rn.getI (pc' := 4) fl_X9_37_8 g1 rfl dX9_code_1 rfl ?_
  refine Rn.if_lt (pc' := 7) (tgt := 31) dX9_code_4 (by decide) rfl (fun c2 => ?_) (fun c2 => ?_)
  · replace E := (if_of E).1 c2
    refine Rn.sub [] rfl ?_
    exact f_Tape_code_b31_ok hst hd   E
  · replace E := (if_of E).2 c2
    refine Rn.aload_n (pc' := 8) dX9_code_7 rfl 0 rfl rfl ?_
    refine Rn.getI (pc' := 11) fl_X9_37_8 g1 rfl dX9_code_8 rfl ?_
    refine Rn.aload_n (pc' := 12) dX9_code_11 rfl 0 rfl rfl ?_
    refine Rn.getR (pc' := 15) fl_X9_19_8 g1 rfl dX9_code_12 rfl ?_
    obtain ⟨g3, E⟩ := gd_of E
    refine Rn.alen (pc' := 16) g3 (by decide) (by decide) dX9_code_15 rfl ?_
    refine Rn.icmp_ge (pc' := 19) (tgt := 31) dX9_code_16 (by decide) rfl (fun c4 => ?_) (fun c4 => ?_)
    · replace E := (if_of E).1 c4
      refine Rn.sub [] rfl ?_
      exact f_Tape_code_b31_ok hst hd   E
    · replace E := (if_of E).2 c4
      refine Rn.aload_n (pc' := 20) dX9_code_19 rfl 0 rfl rfl ?_
      refine Rn.getR (pc' := 23) fl_X9_19_8 g1 rfl dX9_code_20 rfl ?_
      refine Rn.aload_n (pc' := 24) dX9_code_23 rfl 0 rfl rfl ?_
      refine Rn.getI (pc' := 27) fl_X9_37_8 g1 rfl dX9_code_24 rfl ?_
      obtain ⟨g5, E⟩ := gd_of E
      refine Rn.iald (pc' := 28) g3 g5 dX9_code_27 rfl ?_
      refine Rn.goto (pc' := 34) dX9_code_28 (by decide) ?_
      cases E
      exact Rn.zret rfl rfl dX9_code_34
def f_Tape_code (h : Hp) (x0 : Nat) : Option (Int32 × Hp) := f_Tape_code_b0  h x0
theorem f_Tape_code_ok {l : Launch} {X : Nat × (Nat → Int32)} (hst : l.stackTraces = false) {h : Hp} {x0 : Nat} {r : Int32 × Hp} (E : f_Tape_code h x0 = some r) : MC l X yX9_code mX9_code 0 [.ref x0] h (eI r) r.2 :=
  MC.body (by decide +kernel) rfl (by decide) hst (Nat.le_of_ble_eq_true rfl) (f_Tape_code_b0_ok hst (Nat.le_refl _) E)
abbrev mX9_fail : MI := (RX9, cX9_fail, 1, (some Jvm.ClassFile.FieldType.boolean), [], false)
theorem ws_X9_fail : ∀ w ∈ wsM yX9_fail mX9_fail, w ∈ gw := List.forall_mem_cons.mpr ⟨gw_at 839 (by decide +kernel) (by decide +kernel), fun _ h => h⟩
def f_Tape_fail_b36   (h : Hp)  (s0 : Nat) (s1 : Int32) : Option (Int32 × Hp) :=
if hS h s0 = 9 then (
wr (sI h s0 5 s1) fun h2 =>
some ((0 : Int32), h2)
) else none
set_option maxRecDepth 20000 in
set_option maxHeartbeats 4000000 in
theorem f_Tape_fail_b36_ok {l : Launch} {X : Nat × (Nat → Int32)} (hst : l.stackTraces = false) {d : Nat} (hd : 0 ≤ d)     {h : Hp}  {s0 : Nat} {s1 : Int32} {r : Int32 × Hp} (E : f_Tape_fail_b36   h s0 s1 = some r) : Rn l X mX9_fail d 36 [] [.int s1, .ref s0] h (eI r) r.2 := by
  unfold f_Tape_fail_b36 at E
  obtain ⟨g1, E⟩ := gd_of E
  refine Rn.putI (pc' := 39) fl_X9_40_8 (fun q hq => by cases hq; decide) g1 rfl rfl rfl dX9_fail_36 rfl ?_
  replace E := wr_of E
  generalize eh3 : sI h s0 5 s1 = h2 at E ⊢
  refine Rn.iconst (pc' := 40) (v := (0 : Int32)) (hv := by decide) dX9_fail_39 rfl ?_
  cases E
  exact Rn.zret rfl rfl dX9_fail_40
def f_Tape_fail_b32   (h : Hp) (x0 : Nat) (s0 : Nat) : Option (Int32 × Hp) :=
if hS h x0 = 9 then (
f_Tape_fail_b36   h s0 (hI h x0 1)
) else none
set_option maxRecDepth 20000 in
set_option maxHeartbeats 4000000 in
theorem f_Tape_fail_b32_ok {l : Launch} {X : Nat × (Nat → Int32)} (hst : l.stackTraces = false) {d : Nat} (hd : 0 ≤ d)     {h : Hp} {x0 : Nat} {s0 : Nat} {r : Int32 × Hp} (E : f_Tape_fail_b32   h x0 s0 = some r) : Rn l X mX9_fail d 32 [(0, .ref x0)] [.ref s0] h (eI r) r.2 := by
  unfold f_Tape_fail_b32 at E
  refine Rn.aload_n (pc' := 33) dX9_fail_32 rfl 0 rfl rfl ?_
  obtain ⟨g1, E⟩ := gd_of E
  refine Rn.getI (pc' := 36) fl_X9_22_8 g1 rfl dX9_fail_33 rfl ?_
  refine Rn.sub [] rfl ?_
  exact f_Tape_fail_b36_ok hst hd   E
def f_Tape_fail_b0   (h : Hp) (x0 : Nat)  : Option (Int32 × Hp) :=
if hS h x0 = 9 then (
if (hI h x0 4) < 0 then (
f_Tape_fail_b32   h x0 x0

) else (
if hS h (hR h x0 2) = 20 then (
if (Int32.ofNat (hL h (hR h x0 2))) ≤ (hI h x0 4) then (
f_Tape_fail_b32   h x0 x0

) else (
if ib (hI h x0 4) (hL h (hR h x0 2)) = true then (
f_Tape_fail_b36   h x0 (hI h (hR h x0 2) (ix (hI h x0 4)))
) else none
)
) else none
)
) else none
set_option maxRecDepth 20000 in
set_option maxHeartbeats 4000000 in
theorem f_Tape_fail_b0_ok {l : Launch} {X : Nat × (Nat → Int32)} (hst : l.stackTraces = false) {d : Nat} (hd : 0 ≤ d)     {h : Hp} {x0 : Nat}  {r : Int32 × Hp} (E : f_Tape_fail_b0   h x0 = some r) : Rn l X mX9_fail d 0 [(0, .ref x0)] [] h (eI r) r.2 := by
  unfold f_Tape_fail_b0 at E
  refine Rn.aload_n (pc' := 1) dX9_fail_0 rfl 0 rfl rfl ?_
  refine Rn.aload_n (pc' := 2) dX9_fail_1 rfl 0 rfl rfl ?_
  obtain ⟨g1, E⟩ := gd_of E
  refine Rn.getI (pc' := 5) fl_X9_37_8 g1 rfl dX9_fail_2 rfl ?_
  refine Rn.if_lt (pc' := 8) (tgt := 32) dX9_fail_5 (by decide) rfl (fun c2 => ?_) (fun c2 => ?_)
  · replace E := (if_of E).1 c2
    exact f_Tape_fail_b32_ok hst hd   E
  · replace E := (if_of E).2 c2
    refine Rn.aload_n (pc' := 9) dX9_fail_8 rfl 0 rfl rfl ?_
    refine Rn.getI (pc' := 12) fl_X9_37_8 g1 rfl dX9_fail_9 rfl ?_
    refine Rn.aload_n (pc' := 13) dX9_fail_12 rfl 0 rfl rfl ?_
    refine Rn.getR (pc' := 16) fl_X9_15_8 g1 rfl dX9_fail_13 rfl ?_
    obtain ⟨g3, E⟩ := gd_of E
    refine Rn.alen (pc' := 17) g3 (by decide) (by decide) dX9_fail_16 rfl ?_
    refine Rn.icmp_ge (pc' := 20) (tgt := 32) dX9_fail_17 (by decide) rfl (fun c4 => ?_) (fun c4 => ?_)
    · replace E := (if_of E).1 c4
      exact f_Tape_fail_b32_ok hst hd   E
    · replace E := (if_of E).2 c4
      refine Rn.aload_n (pc' := 21) dX9_fail_20 rfl 0 rfl rfl ?_
      refine Rn.getR (pc' := 24) fl_X9_15_8 g1 rfl dX9_fail_21 rfl ?_
      refine Rn.aload_n (pc' := 25) dX9_fail_24 rfl 0 rfl rfl ?_
      refine Rn.getI (pc' := 28) fl_X9_37_8 g1 rfl dX9_fail_25 rfl ?_
      obtain ⟨g5, E⟩ := gd_of E
      refine Rn.iald (pc' := 29) g3 g5 dX9_fail_28 rfl ?_
      refine Rn.goto (pc' := 36) dX9_fail_29 (by decide) ?_
      refine Rn.sub [] rfl ?_
      exact f_Tape_fail_b36_ok hst hd   E
def f_Tape_fail (h : Hp) (x0 : Nat) : Option (Int32 × Hp) := f_Tape_fail_b0  h x0
theorem f_Tape_fail_ok {l : Launch} {X : Nat × (Nat → Int32)} (hst : l.stackTraces = false) {h : Hp} {x0 : Nat} {r : Int32 × Hp} (E : f_Tape_fail h x0 = some r) : MC l X yX9_fail mX9_fail 0 [.ref x0] h (eI r) r.2 :=
  MC.body (by decide +kernel) rfl (by decide) hst (Nat.le_of_ble_eq_true rfl) (f_Tape_fail_b0_ok hst (Nat.le_refl _) E)
abbrev mX6_isSum : MI := (RX6, cX6_isSum, 4, (some Jvm.ClassFile.FieldType.boolean), [], false)
theorem ws_X6_isSum : ∀ w ∈ wsM yX6_isSum mX6_isSum, w ∈ gw := List.forall_mem_cons.mpr ⟨gw_at 912 (by decide +kernel) (by decide +kernel), fun _ h => h⟩
theorem fl_X6_45_6 : FL RX6 45 6 0 := ⟨_, rfl, by decide, "VintageWater$LawText", gw_at 192 (by decide +kernel) (by decide +kernel), Or.inr (gw_at 193 (by decide +kernel) (by decide +kernel))⟩
theorem kb_X6_79 : KB RX6 79 yX9_fail mX9_fail 0 := ⟨gw_at 913 (by decide +kernel) (by decide +kernel), gw_at 108 (by decide +kernel) (by decide +kernel), trivial, ws_X9_fail, by decide +kernel, by decide +kernel, by decide +kernel, by decide⟩
theorem ki_X9_fail : Cond.instanceMethod yX9_fail ∈ gw ∧ Cond.selects yX9_fail.cls yX9_fail yX9_fail ∈ gw := ⟨gw_at 837 (by decide +kernel) (by decide +kernel), gw_at 838 (by decide +kernel) (by decide +kernel)⟩
def f_LawText_isSum_b52   (h : Hp) (x0 : Nat)  : Option (Int32 × Hp) :=
if hS h x0 = 7 then (
if hS h (hR h x0 0) = 9 then (
bI (f_Tape_fail h (hR h x0 0)) fun v3 h4 =>
if v3 = 0 ∨ v3 = 1 then (
some (v3, h4)
) else none) else none) else none
set_option maxRecDepth 20000 in
set_option maxHeartbeats 4000000 in
theorem f_LawText_isSum_b52_ok {l : Launch} {X : Nat × (Nat → Int32)} (hst : l.stackTraces = false) {d : Nat} (hd : 1 ≤ d)     {h : Hp} {x0 : Nat}  {r : Int32 × Hp} (E : f_LawText_isSum_b52   h x0 = some r) : Rn l X mX6_isSum d 52 [(0, .ref x0)] [] h (eI r) r.2 := by
  unfold f_LawText_isSum_b52 at E
  refine Rn.aload_n (pc' := 53) dX6_isSum_52 rfl 0 rfl rfl ?_
  obtain ⟨g1, E⟩ := gd_of E
  refine Rn.getR (pc' := 56) fl_X6_45_6 g1 rfl dX6_isSum_53 rfl ?_
  obtain ⟨g2, E⟩ := gd_of E
  obtain ⟨v3, h4, e5, E⟩ := bI_of E
  refine Rn.callV1 (pc' := 59) (As := []) (rest := []) (f_Tape_fail_ok hst e5) (Nat.le_trans (by decide) hd) rfl kb_X6_79 ki_X9_fail rfl g2 rfl rfl (Nat.le_of_ble_eq_true rfl) dX6_isSum_56 rfl rfl ?_
  obtain ⟨g6, E⟩ := gd_of E
  cases E
  exact Rn.zret rfl (nar_b g6) dX6_isSum_59
theorem kb_X6_55 : KB RX6 55 yX9_step mX9_step 0 := ⟨gw_at 889 (by decide +kernel) (by decide +kernel), gw_at 108 (by decide +kernel) (by decide +kernel), trivial, ws_X9_step, by decide +kernel, by decide +kernel, by decide +kernel, by decide⟩
theorem ki_X9_step : Cond.instanceMethod yX9_step ∈ gw ∧ Cond.selects yX9_step.cls yX9_step yX9_step ∈ gw := ⟨gw_at 841 (by decide +kernel) (by decide +kernel), gw_at 842 (by decide +kernel) (by decide +kernel)⟩
theorem kb_X6_49 : KB RX6 49 yX9_is mX9_is 1 := ⟨gw_at 888 (by decide +kernel) (by decide +kernel), gw_at 108 (by decide +kernel) (by decide +kernel), trivial, ws_X9_is, by decide +kernel, by decide +kernel, by decide +kernel, by decide⟩
theorem ki_X9_is : Cond.instanceMethod yX9_is ∈ gw ∧ Cond.selects yX9_is.cls yX9_is yX9_is ∈ gw := ⟨gw_at 819 (by decide +kernel) (by decide +kernel), gw_at 820 (by decide +kernel) (by decide +kernel)⟩
def f_LawText_isSum_b76  (k2 : Hp → Nat → Int32 → Option (Int32 × Hp)) (h : Hp) (x0 : Nat) (x1 : Int32)  : Option (Int32 × Hp) :=
if hS h x0 = 7 then (
if hS h (hR h x0 0) = 9 then (
bV (f_Tape_step h (hR h x0 0)) fun h4 =>
if hS h4 x0 = 7 then (
if hS h4 (hR h4 x0 0) = 9 then (
bI (f_Tape_is h4 (hR h4 x0 0) (2043 : Int32)) fun v8 h9 =>
if v8 = 0 then (
some ((1 : Int32), h9)

) else (
if hS h9 x0 = 7 then (
if hS h9 (hR h9 x0 0) = 9 then (
bV (f_Tape_step h9 (hR h9 x0 0)) fun h15 =>
k2 h15 x0 (x1 + (1 : Int32))
) else none) else none
)
) else none) else none) else none) else none
set_option maxRecDepth 20000 in
set_option maxHeartbeats 4000000 in
theorem f_LawText_isSum_b76_ok {l : Launch} {X : Nat × (Nat → Int32)} (hst : l.stackTraces = false) {d : Nat} (hd : 1 ≤ d)   {k2 : Hp → Nat → Int32 → Option (Int32 × Hp)} (hk2 : ∀ (h : Hp) (x0 : Nat) (x1 : Int32)  (r : Int32 × Hp), k2 h x0 x1 = some r → Rn l X mX6_isSum d 2 [(0, .ref x0), (1, .int x1)] [] h (eI r) r.2) {h : Hp} {x0 : Nat} {x1 : Int32}  {r : Int32 × Hp} (E : f_LawText_isSum_b76  k2 h x0 x1 = some r) : Rn l X mX6_isSum d 76 [(0, .ref x0), (1, .int x1)] [] h (eI r) r.2 := by
  unfold f_LawText_isSum_b76 at E
  refine Rn.aload_n (pc' := 77) dX6_isSum_76 rfl 0 rfl rfl ?_
  obtain ⟨g1, E⟩ := gd_of E
  refine Rn.getR (pc' := 80) fl_X6_45_6 g1 rfl dX6_isSum_77 rfl ?_
  obtain ⟨g2, E⟩ := gd_of E
  obtain ⟨h4, e5, E⟩ := bV_of E
  refine Rn.callV1 (pc' := 83) (As := []) (rest := []) (f_Tape_step_ok hst e5) (Nat.le_trans (by decide) hd) rfl kb_X6_55 ki_X9_step rfl g2 rfl rfl (Nat.le_of_ble_eq_true rfl) dX6_isSum_80 rfl rfl ?_
  refine Rn.aload_n (pc' := 84) dX6_isSum_83 rfl 0 rfl rfl ?_
  obtain ⟨g6, E⟩ := gd_of E
  refine Rn.getR (pc' := 87) fl_X6_45_6 g6 rfl dX6_isSum_84 rfl ?_
  refine Rn.sipush (pc' := 90) (v := (2043 : Int32)) (hv := by decide) dX6_isSum_87 rfl ?_
  obtain ⟨g7, E⟩ := gd_of E
  obtain ⟨v8, h9, e10, E⟩ := bI_of E
  refine Rn.callV1 (pc' := 93) (As := [.int (2043 : Int32)]) (rest := []) (f_Tape_is_ok hst e10) (Nat.le_trans (by decide) hd) rfl kb_X6_49 ki_X9_is rfl g7 rfl rfl (Nat.le_of_ble_eq_true rfl) dX6_isSum_90 rfl rfl ?_
  refine Rn.if_ne (pc' := 96) (tgt := 98) dX6_isSum_93 (by decide) rfl (fun c11 => ?_) (fun c11 => ?_)
  · replace E := (if_of E).2 c11
    refine Rn.aload_n (pc' := 99) dX6_isSum_98 rfl 0 rfl rfl ?_
    obtain ⟨g12, E⟩ := gd_of E
    refine Rn.getR (pc' := 102) fl_X6_45_6 g12 rfl dX6_isSum_99 rfl ?_
    obtain ⟨g13, E⟩ := gd_of E
    obtain ⟨h15, e16, E⟩ := bV_of E
    refine Rn.callV1 (pc' := 105) (As := []) (rest := []) (f_Tape_step_ok hst e16) (Nat.le_trans (by decide) hd) rfl kb_X6_55 ki_X9_step rfl g13 rfl rfl (Nat.le_of_ble_eq_true rfl) dX6_isSum_102 rfl rfl ?_
    refine Rn.iinc (pc' := 108) (v := (x1 + (1 : Int32))) (L' := [(1, .int (x1 + (1 : Int32))), (0, .ref x0)]) dX6_isSum_105 1 rfl rfl (by decide) rfl rfl ?_
    refine Rn.goto (pc' := 2) dX6_isSum_108 (by decide) ?_
    refine Rn.sub [1, 0] rfl ?_
    exact hk2 _ _ _ _ E
  · replace E := (if_of E).1 c11
    refine Rn.iconst (pc' := 97) (v := (1 : Int32)) (hv := by decide) dX6_isSum_96 rfl ?_
    cases E
    exact Rn.zret rfl rfl dX6_isSum_97
theorem kb_X6_71 : KB RX6 71 yX6_emit mX6_emit 1 := ⟨gw_at 901 (by decide +kernel) (by decide +kernel), gw_at 111 (by decide +kernel) (by decide +kernel), trivial, ws_X6_emit, by decide +kernel, by decide +kernel, by decide +kernel, by decide⟩
theorem ki_X6_emit : Cond.instanceMethod yX6_emit ∈ gw ∧ Cond.selects yX6_emit.cls yX6_emit yX6_emit ∈ gw := ⟨gw_at 903 (by decide +kernel) (by decide +kernel), gw_at 27 (by decide +kernel) (by decide +kernel)⟩
def f_LawText_isSum_b60  (k2 : Hp → Nat → Int32 → Option (Int32 × Hp)) (h : Hp) (x0 : Nat) (x1 : Int32) (x2 : Int32)  : Option (Int32 × Hp) :=
if hS h x0 = 7 then (
bV (f_LawText_emit h x0 x2) fun h3 =>
if x1 ≤ 0 then (
f_LawText_isSum_b76  k2 h3 x0 x1

) else (
if hS h3 x0 = 7 then (
bV (f_LawText_emit h3 x0 (2043 : Int32)) fun h8 =>
f_LawText_isSum_b76  k2 h8 x0 x1
) else none
)
) else none
set_option maxRecDepth 20000 in
set_option maxHeartbeats 4000000 in
theorem f_LawText_isSum_b60_ok {l : Launch} {X : Nat × (Nat → Int32)} (hst : l.stackTraces = false) {d : Nat} (hd : 1 ≤ d)   {k2 : Hp → Nat → Int32 → Option (Int32 × Hp)} (hk2 : ∀ (h : Hp) (x0 : Nat) (x1 : Int32)  (r : Int32 × Hp), k2 h x0 x1 = some r → Rn l X mX6_isSum d 2 [(0, .ref x0), (1, .int x1)] [] h (eI r) r.2) {h : Hp} {x0 : Nat} {x1 : Int32} {x2 : Int32}  {r : Int32 × Hp} (E : f_LawText_isSum_b60  k2 h x0 x1 x2 = some r) : Rn l X mX6_isSum d 60 [(0, .ref x0), (1, .int x1), (2, .int x2)] [] h (eI r) r.2 := by
  unfold f_LawText_isSum_b60 at E
  refine Rn.aload_n (pc' := 61) dX6_isSum_60 rfl 0 rfl rfl ?_
  refine Rn.iload_n (pc' := 62) dX6_isSum_61 rfl 2 rfl rfl ?_
  obtain ⟨g1, E⟩ := gd_of E
  obtain ⟨h3, e4, E⟩ := bV_of E
  refine Rn.callV1 (pc' := 65) (As := [.int x2]) (rest := []) (f_LawText_emit_ok hst e4) (Nat.le_trans (by decide) hd) rfl kb_X6_71 ki_X6_emit rfl g1 rfl rfl (Nat.le_of_ble_eq_true rfl) dX6_isSum_62 rfl rfl ?_
  refine Rn.iload_n (pc' := 66) dX6_isSum_65 rfl 1 rfl rfl ?_
  refine Rn.if_le (pc' := 69) (tgt := 76) dX6_isSum_66 (by decide) rfl (fun c5 => ?_) (fun c5 => ?_)
  · replace E := (if_of E).1 c5
    refine Rn.sub [0, 1] rfl ?_
    exact f_LawText_isSum_b76_ok hst hd  hk2 E
  · replace E := (if_of E).2 c5
    refine Rn.aload_n (pc' := 70) dX6_isSum_69 rfl 0 rfl rfl ?_
    refine Rn.sipush (pc' := 73) (v := (2043 : Int32)) (hv := by decide) dX6_isSum_70 rfl ?_
    obtain ⟨g6, E⟩ := gd_of E
    obtain ⟨h8, e9, E⟩ := bV_of E
    refine Rn.callV1 (pc' := 76) (As := [.int (2043 : Int32)]) (rest := []) (f_LawText_emit_ok hst e9) (Nat.le_trans (by decide) hd) rfl kb_X6_71 ki_X6_emit rfl g6 rfl rfl (Nat.le_of_ble_eq_true rfl) dX6_isSum_73 rfl rfl ?_
    refine Rn.sub [0, 1] rfl ?_
    exact f_LawText_isSum_b76_ok hst hd  hk2 E
def f_LawText_isSum_b33  (k2 : Hp → Nat → Int32 → Option (Int32 × Hp)) (h : Hp) (x0 : Nat) (x1 : Int32) (x2 : Int32) (s0 : Int32) : Option (Int32 × Hp) :=
if s0 = 0 then (
if x2 < (1000 : Int32) then (
f_LawText_isSum_b52   h x0

) else (
if x2 ≤ (1004 : Int32) then (
f_LawText_isSum_b60  k2 h x0 x1 x2

) else (
f_LawText_isSum_b52   h x0

)

)

) else (
f_LawText_isSum_b60  k2 h x0 x1 x2

)

set_option maxRecDepth 20000 in
set_option maxHeartbeats 4000000 in
theorem f_LawText_isSum_b33_ok {l : Launch} {X : Nat × (Nat → Int32)} (hst : l.stackTraces = false) {d : Nat} (hd : 1 ≤ d)   {k2 : Hp → Nat → Int32 → Option (Int32 × Hp)} (hk2 : ∀ (h : Hp) (x0 : Nat) (x1 : Int32)  (r : Int32 × Hp), k2 h x0 x1 = some r → Rn l X mX6_isSum d 2 [(0, .ref x0), (1, .int x1)] [] h (eI r) r.2) {h : Hp} {x0 : Nat} {x1 : Int32} {x2 : Int32} {s0 : Int32} {r : Int32 × Hp} (E : f_LawText_isSum_b33  k2 h x0 x1 x2 s0 = some r) : Rn l X mX6_isSum d 33 [(0, .ref x0), (1, .int x1), (2, .int x2)] [.int s0] h (eI r) r.2 := by
  unfold f_LawText_isSum_b33 at E
  refine Rn.istore_n (pc' := 34) (L' := [(3, .int s0), (0, .ref x0), (1, .int x1), (2, .int x2)]) dX6_isSum_33 rfl (by decide) rfl rfl ?_
  refine Rn.iload_n (pc' := 35) dX6_isSum_34 rfl 0 rfl rfl ?_
  refine Rn.if_ne (pc' := 38) (tgt := 60) dX6_isSum_35 (by decide) rfl (fun c1 => ?_) (fun c1 => ?_)
  · replace E := (if_of E).2 c1
    refine Rn.sub [1, 2, 3] rfl ?_
    exact f_LawText_isSum_b60_ok hst hd  hk2 E
  · replace E := (if_of E).1 c1
    refine Rn.iload_n (pc' := 39) dX6_isSum_38 rfl 3 rfl rfl ?_
    refine Rn.sipush (pc' := 42) (v := (1000 : Int32)) (hv := by decide) dX6_isSum_39 rfl ?_
    refine Rn.icmp_lt (pc' := 45) (tgt := 52) dX6_isSum_42 (by decide) rfl (fun c2 => ?_) (fun c2 => ?_)
    · replace E := (if_of E).1 c2
      refine Rn.sub [1] rfl ?_
      exact f_LawText_isSum_b52_ok hst hd   E
    · replace E := (if_of E).2 c2
      refine Rn.iload_n (pc' := 46) dX6_isSum_45 rfl 3 rfl rfl ?_
      refine Rn.sipush (pc' := 49) (v := (1004 : Int32)) (hv := by decide) dX6_isSum_46 rfl ?_
      refine Rn.icmp_le (pc' := 52) (tgt := 60) dX6_isSum_49 (by decide) rfl (fun c3 => ?_) (fun c3 => ?_)
      · replace E := (if_of E).1 c3
        refine Rn.sub [1, 2, 3] rfl ?_
        exact f_LawText_isSum_b60_ok hst hd  hk2 E
      · replace E := (if_of E).2 c3
        refine Rn.sub [1] rfl ?_
        exact f_LawText_isSum_b52_ok hst hd   E
def f_LawText_isSum_b32  (k2 : Hp → Nat → Int32 → Option (Int32 × Hp)) (h : Hp) (x0 : Nat) (x1 : Int32) (x2 : Int32)  : Option (Int32 × Hp) :=
f_LawText_isSum_b33  k2 h x0 x1 x2 (0 : Int32)

set_option maxRecDepth 20000 in
set_option maxHeartbeats 4000000 in
theorem f_LawText_isSum_b32_ok {l : Launch} {X : Nat × (Nat → Int32)} (hst : l.stackTraces = false) {d : Nat} (hd : 1 ≤ d)   {k2 : Hp → Nat → Int32 → Option (Int32 × Hp)} (hk2 : ∀ (h : Hp) (x0 : Nat) (x1 : Int32)  (r : Int32 × Hp), k2 h x0 x1 = some r → Rn l X mX6_isSum d 2 [(0, .ref x0), (1, .int x1)] [] h (eI r) r.2) {h : Hp} {x0 : Nat} {x1 : Int32} {x2 : Int32}  {r : Int32 × Hp} (E : f_LawText_isSum_b32  k2 h x0 x1 x2 = some r) : Rn l X mX6_isSum d 32 [(0, .ref x0), (1, .int x1), (2, .int x2)] [] h (eI r) r.2 := by
  unfold f_LawText_isSum_b32 at E
  refine Rn.iconst (pc' := 33) (v := (0 : Int32)) (hv := by decide) dX6_isSum_32 rfl ?_
  exact f_LawText_isSum_b33_ok hst hd  hk2 E
theorem kb_X6_75 : KB RX6 75 yX9_code mX9_code 0 := ⟨gw_at 900 (by decide +kernel) (by decide +kernel), gw_at 108 (by decide +kernel) (by decide +kernel), trivial, ws_X9_code, by decide +kernel, by decide +kernel, by decide +kernel, by decide⟩
theorem ki_X9_code : Cond.instanceMethod yX9_code ∈ gw ∧ Cond.selects yX9_code.cls yX9_code yX9_code ∈ gw := ⟨gw_at 829 (by decide +kernel) (by decide +kernel), gw_at 830 (by decide +kernel) (by decide +kernel)⟩
def f_LawText_isSum_b2  (k2 : Hp → Nat → Int32 → Option (Int32 × Hp)) (h : Hp) (x0 : Nat) (x1 : Int32)  : Option (Int32 × Hp) :=
if (400 : Int32) ≤ x1 then (
if hS h x0 = 7 then (
if hS h (hR h x0 0) = 9 then (
bI (f_Tape_fail h (hR h x0 0)) fun v4 h5 =>
if v4 = 0 ∨ v4 = 1 then (
some (v4, h5)
) else none) else none) else none
) else (
if hS h x0 = 7 then (
if hS h (hR h x0 0) = 9 then (
bI (f_Tape_code h (hR h x0 0)) fun v10 h11 =>
if v10 < 0 then (
f_LawText_isSum_b32  k2 h11 x0 x1 v10

) else (
if (999 : Int32) < v10 then (
f_LawText_isSum_b32  k2 h11 x0 x1 v10

) else (
f_LawText_isSum_b33  k2 h11 x0 x1 v10 (1 : Int32)

)

)
) else none) else none
)

set_option maxRecDepth 20000 in
set_option maxHeartbeats 4000000 in
theorem f_LawText_isSum_b2_ok {l : Launch} {X : Nat × (Nat → Int32)} (hst : l.stackTraces = false) {d : Nat} (hd : 1 ≤ d)   {k2 : Hp → Nat → Int32 → Option (Int32 × Hp)} (hk2 : ∀ (h : Hp) (x0 : Nat) (x1 : Int32)  (r : Int32 × Hp), k2 h x0 x1 = some r → Rn l X mX6_isSum d 2 [(0, .ref x0), (1, .int x1)] [] h (eI r) r.2) {h : Hp} {x0 : Nat} {x1 : Int32}  {r : Int32 × Hp} (E : f_LawText_isSum_b2  k2 h x0 x1 = some r) : Rn l X mX6_isSum d 2 [(0, .ref x0), (1, .int x1)] [] h (eI r) r.2 := by
  unfold f_LawText_isSum_b2 at E
  refine Rn.iload_n (pc' := 3) dX6_isSum_2 rfl 1 rfl rfl ?_
  refine Rn.sipush (pc' := 6) (v := (400 : Int32)) (hv := by decide) dX6_isSum_3 rfl ?_
  refine Rn.icmp_ge (pc' := 9) (tgt := 111) dX6_isSum_6 (by decide) rfl (fun c1 => ?_) (fun c1 => ?_)
  · replace E := (if_of E).1 c1
    refine Rn.aload_n (pc' := 112) dX6_isSum_111 rfl 0 rfl rfl ?_
    obtain ⟨g2, E⟩ := gd_of E
    refine Rn.getR (pc' := 115) fl_X6_45_6 g2 rfl dX6_isSum_112 rfl ?_
    obtain ⟨g3, E⟩ := gd_of E
    obtain ⟨v4, h5, e6, E⟩ := bI_of E
    refine Rn.callV1 (pc' := 118) (As := []) (rest := []) (f_Tape_fail_ok hst e6) (Nat.le_trans (by decide) hd) rfl kb_X6_79 ki_X9_fail rfl g3 rfl rfl (Nat.le_of_ble_eq_true rfl) dX6_isSum_115 rfl rfl ?_
    obtain ⟨g7, E⟩ := gd_of E
    cases E
    exact Rn.zret rfl (nar_b g7) dX6_isSum_118
  · replace E := (if_of E).2 c1
    refine Rn.aload_n (pc' := 10) dX6_isSum_9 rfl 0 rfl rfl ?_
    obtain ⟨g8, E⟩ := gd_of E
    refine Rn.getR (pc' := 13) fl_X6_45_6 g8 rfl dX6_isSum_10 rfl ?_
    obtain ⟨g9, E⟩ := gd_of E
    obtain ⟨v10, h11, e12, E⟩ := bI_of E
    refine Rn.callV1 (pc' := 16) (As := []) (rest := []) (f_Tape_code_ok hst e12) (Nat.le_trans (by decide) hd) rfl kb_X6_75 ki_X9_code rfl g9 rfl rfl (Nat.le_of_ble_eq_true rfl) dX6_isSum_13 rfl rfl ?_
    refine Rn.istore_n (pc' := 17) (L' := [(2, .int v10), (0, .ref x0), (1, .int x1)]) dX6_isSum_16 rfl (by decide) rfl rfl ?_
    refine Rn.iload_n (pc' := 18) dX6_isSum_17 rfl 0 rfl rfl ?_
    refine Rn.if_lt (pc' := 21) (tgt := 32) dX6_isSum_18 (by decide) rfl (fun c13 => ?_) (fun c13 => ?_)
    · replace E := (if_of E).1 c13
      refine Rn.sub [1, 2, 0] rfl ?_
      exact f_LawText_isSum_b32_ok hst hd  hk2 E
    · replace E := (if_of E).2 c13
      refine Rn.iload_n (pc' := 22) dX6_isSum_21 rfl 0 rfl rfl ?_
      refine Rn.sipush (pc' := 25) (v := (999 : Int32)) (hv := by decide) dX6_isSum_22 rfl ?_
      refine Rn.icmp_gt (pc' := 28) (tgt := 32) dX6_isSum_25 (by decide) rfl (fun c14 => ?_) (fun c14 => ?_)
      · replace E := (if_of E).1 c14
        refine Rn.sub [1, 2, 0] rfl ?_
        exact f_LawText_isSum_b32_ok hst hd  hk2 E
      · replace E := (if_of E).2 c14
        refine Rn.iconst (pc' := 29) (v := (1 : Int32)) (hv := by decide) dX6_isSum_28 rfl ?_
        refine Rn.goto (pc' := 33) dX6_isSum_29 (by decide) ?_
        refine Rn.sub [1, 2, 0] rfl ?_
        exact f_LawText_isSum_b33_ok hst hd  hk2 E
def f_LawText_isSum_L2   (n : Nat) : Hp → Nat → Int32 → Option (Int32 × Hp) := Nat.rec (motive := fun _ => Hp → Nat → Int32 → Option (Int32 × Hp)) (fun _ _ _ => none) (fun _ rec => f_LawText_isSum_b2   rec) n
theorem f_LawText_isSum_L2_ok {l : Launch} {X : Nat × (Nat → Int32)} (hst : l.stackTraces = false) {d : Nat} (hd : 1 ≤ d)     : ∀ (n : Nat) (h : Hp) (x0 : Nat) (x1 : Int32)  (r : Int32 × Hp), f_LawText_isSum_L2   n h x0 x1 = some r → Rn l X mX6_isSum d 2 [(0, .ref x0), (1, .int x1)] [] h (eI r) r.2 := by
  intro n
  induction n with
  | zero => intro h x0 x1 r E; cases E
  | succ n ih => intro h x0 x1 r E; exact f_LawText_isSum_b2_ok hst hd   ih E
def f_LawText_isSum_b0   (h : Hp) (x0 : Nat)  : Option (Int32 × Hp) :=
f_LawText_isSum_L2   FU h x0 (0 : Int32)

set_option maxRecDepth 20000 in
set_option maxHeartbeats 4000000 in
theorem f_LawText_isSum_b0_ok {l : Launch} {X : Nat × (Nat → Int32)} (hst : l.stackTraces = false) {d : Nat} (hd : 1 ≤ d)     {h : Hp} {x0 : Nat}  {r : Int32 × Hp} (E : f_LawText_isSum_b0   h x0 = some r) : Rn l X mX6_isSum d 0 [(0, .ref x0)] [] h (eI r) r.2 := by
  unfold f_LawText_isSum_b0 at E
  refine Rn.iconst (pc' := 1) (v := (0 : Int32)) (hv := by decide) dX6_isSum_0 rfl ?_
  refine Rn.istore_n (pc' := 2) (L' := [(1, .int (0 : Int32)), (0, .ref x0)]) dX6_isSum_1 rfl (by decide) rfl rfl ?_
  refine Rn.sub [1, 0] rfl ?_
  exact f_LawText_isSum_L2_ok hst hd   FU _ _ _ _ E
def f_LawText_isSum (h : Hp) (x0 : Nat) : Option (Int32 × Hp) := f_LawText_isSum_b0  h x0
theorem f_LawText_isSum_ok {l : Launch} {X : Nat × (Nat → Int32)} (hst : l.stackTraces = false) {h : Hp} {x0 : Nat} {r : Int32 × Hp} (E : f_LawText_isSum h x0 = some r) : MC l X yX6_isSum mX6_isSum 1 [.ref x0] h (eI r) r.2 :=
  MC.body (by decide +kernel) rfl (by decide) hst (Nat.le_of_ble_eq_true rfl) (f_LawText_isSum_b0_ok hst (Nat.le_refl _) E)
abbrev mX6_isComparison : MI := (RX6, cX6_isComparison, 2, (some Jvm.ClassFile.FieldType.boolean), [], false)
theorem ws_X6_isComparison : ∀ w ∈ wsM yX6_isComparison mX6_isComparison, w ∈ gw := List.forall_mem_cons.mpr ⟨gw_at 908 (by decide +kernel) (by decide +kernel), fun _ h => h⟩
theorem kb_X6_86 : KB RX6 86 yX6_isSum mX6_isSum 0 := ⟨gw_at 909 (by decide +kernel) (by decide +kernel), gw_at 111 (by decide +kernel) (by decide +kernel), trivial, ws_X6_isSum, by decide +kernel, by decide +kernel, by decide +kernel, by decide⟩
theorem ki_X6_isSum : Cond.instanceMethod yX6_isSum ∈ gw ∧ Cond.selects yX6_isSum.cls yX6_isSum yX6_isSum ∈ gw := ⟨gw_at 911 (by decide +kernel) (by decide +kernel), gw_at 29 (by decide +kernel) (by decide +kernel)⟩
def f_LawText_isComparison_b39   (h : Hp) (x0 : Nat) (x1 : Int32)  : Option (Int32 × Hp) :=
if hS h x0 = 7 then (
if hS h (hR h x0 0) = 9 then (
bV (f_Tape_step h (hR h x0 0)) fun h4 =>
if hS h4 x0 = 7 then (
bI (f_LawText_isSum h4 x0) fun v7 h8 =>
if v7 = 0 then (
some ((0 : Int32), h8)

) else (
if hS h8 x0 = 7 then (
bV (f_LawText_emit h8 x0 x1) fun h13 =>
some ((1 : Int32), h13)
) else none
)
) else none) else none) else none
set_option maxRecDepth 20000 in
set_option maxHeartbeats 4000000 in
theorem f_LawText_isComparison_b39_ok {l : Launch} {X : Nat × (Nat → Int32)} (hst : l.stackTraces = false) {d : Nat} (hd : 2 ≤ d)     {h : Hp} {x0 : Nat} {x1 : Int32}  {r : Int32 × Hp} (E : f_LawText_isComparison_b39   h x0 x1 = some r) : Rn l X mX6_isComparison d 39 [(0, .ref x0), (1, .int x1)] [] h (eI r) r.2 := by
  unfold f_LawText_isComparison_b39 at E
  refine Rn.aload_n (pc' := 40) dX6_isComparison_39 rfl 0 rfl rfl ?_
  obtain ⟨g1, E⟩ := gd_of E
  refine Rn.getR (pc' := 43) fl_X6_45_6 g1 rfl dX6_isComparison_40 rfl ?_
  obtain ⟨g2, E⟩ := gd_of E
  obtain ⟨h4, e5, E⟩ := bV_of E
  refine Rn.callV1 (pc' := 46) (As := []) (rest := []) (f_Tape_step_ok hst e5) (Nat.le_trans (by decide) hd) rfl kb_X6_55 ki_X9_step rfl g2 rfl rfl (Nat.le_of_ble_eq_true rfl) dX6_isComparison_43 rfl rfl ?_
  refine Rn.aload_n (pc' := 47) dX6_isComparison_46 rfl 0 rfl rfl ?_
  obtain ⟨g6, E⟩ := gd_of E
  obtain ⟨v7, h8, e9, E⟩ := bI_of E
  refine Rn.callV1 (pc' := 50) (As := []) (rest := []) (f_LawText_isSum_ok hst e9) (Nat.le_trans (by decide) hd) rfl kb_X6_86 ki_X6_isSum rfl g6 rfl rfl (Nat.le_of_ble_eq_true rfl) dX6_isComparison_47 rfl rfl ?_
  refine Rn.if_ne (pc' := 53) (tgt := 55) dX6_isComparison_50 (by decide) rfl (fun c10 => ?_) (fun c10 => ?_)
  · replace E := (if_of E).2 c10
    refine Rn.aload_n (pc' := 56) dX6_isComparison_55 rfl 0 rfl rfl ?_
    refine Rn.iload_n (pc' := 57) dX6_isComparison_56 rfl 1 rfl rfl ?_
    obtain ⟨g11, E⟩ := gd_of E
    obtain ⟨h13, e14, E⟩ := bV_of E
    refine Rn.callV1 (pc' := 60) (As := [.int x1]) (rest := []) (f_LawText_emit_ok hst e14) (Nat.le_trans (by decide) hd) rfl kb_X6_71 ki_X6_emit rfl g11 rfl rfl (Nat.le_of_ble_eq_true rfl) dX6_isComparison_57 rfl rfl ?_
    refine Rn.iconst (pc' := 61) (v := (1 : Int32)) (hv := by decide) dX6_isComparison_60 rfl ?_
    cases E
    exact Rn.zret rfl rfl dX6_isComparison_61
  · replace E := (if_of E).1 c10
    refine Rn.iconst (pc' := 54) (v := (0 : Int32)) (hv := by decide) dX6_isComparison_53 rfl ?_
    cases E
    exact Rn.zret rfl rfl dX6_isComparison_54
def f_LawText_isComparison_b0   (h : Hp) (x0 : Nat)  : Option (Int32 × Hp) :=
if hS h x0 = 7 then (
bI (f_LawText_isSum h x0) fun v2 h3 =>
if v2 = 0 then (
some ((0 : Int32), h3)

) else (
if hS h3 x0 = 7 then (
if hS h3 (hR h3 x0 0) = 9 then (
bI (f_Tape_code h3 (hR h3 x0 0)) fun v8 h9 =>
if v8 = (2060 : Int32) then (
f_LawText_isComparison_b39   h9 x0 v8

) else (
if v8 = (2062 : Int32) then (
f_LawText_isComparison_b39   h9 x0 v8

) else (
if hS h9 x0 = 7 then (
if hS h9 (hR h9 x0 0) = 9 then (
bI (f_Tape_fail h9 (hR h9 x0 0)) fun v15 h16 =>
if v15 = 0 ∨ v15 = 1 then (
some (v15, h16)
) else none) else none) else none
)

)
) else none) else none
)
) else none
set_option maxRecDepth 20000 in
set_option maxHeartbeats 4000000 in
theorem f_LawText_isComparison_b0_ok {l : Launch} {X : Nat × (Nat → Int32)} (hst : l.stackTraces = false) {d : Nat} (hd : 2 ≤ d)     {h : Hp} {x0 : Nat}  {r : Int32 × Hp} (E : f_LawText_isComparison_b0   h x0 = some r) : Rn l X mX6_isComparison d 0 [(0, .ref x0)] [] h (eI r) r.2 := by
  unfold f_LawText_isComparison_b0 at E
  refine Rn.aload_n (pc' := 1) dX6_isComparison_0 rfl 0 rfl rfl ?_
  obtain ⟨g1, E⟩ := gd_of E
  obtain ⟨v2, h3, e4, E⟩ := bI_of E
  refine Rn.callV1 (pc' := 4) (As := []) (rest := []) (f_LawText_isSum_ok hst e4) (Nat.le_trans (by decide) hd) rfl kb_X6_86 ki_X6_isSum rfl g1 rfl rfl (Nat.le_of_ble_eq_true rfl) dX6_isComparison_1 rfl rfl ?_
  refine Rn.if_ne (pc' := 7) (tgt := 9) dX6_isComparison_4 (by decide) rfl (fun c5 => ?_) (fun c5 => ?_)
  · replace E := (if_of E).2 c5
    refine Rn.aload_n (pc' := 10) dX6_isComparison_9 rfl 0 rfl rfl ?_
    obtain ⟨g6, E⟩ := gd_of E
    refine Rn.getR (pc' := 13) fl_X6_45_6 g6 rfl dX6_isComparison_10 rfl ?_
    obtain ⟨g7, E⟩ := gd_of E
    obtain ⟨v8, h9, e10, E⟩ := bI_of E
    refine Rn.callV1 (pc' := 16) (As := []) (rest := []) (f_Tape_code_ok hst e10) (Nat.le_trans (by decide) hd) rfl kb_X6_75 ki_X9_code rfl g7 rfl rfl (Nat.le_of_ble_eq_true rfl) dX6_isComparison_13 rfl rfl ?_
    refine Rn.istore_n (pc' := 17) (L' := [(1, .int v8), (0, .ref x0)]) dX6_isComparison_16 rfl (by decide) rfl rfl ?_
    refine Rn.iload_n (pc' := 18) dX6_isComparison_17 rfl 0 rfl rfl ?_
    refine Rn.sipush (pc' := 21) (v := (2060 : Int32)) (hv := by decide) dX6_isComparison_18 rfl ?_
    refine Rn.icmp_eq (pc' := 24) (tgt := 39) dX6_isComparison_21 (by decide) rfl (fun c11 => ?_) (fun c11 => ?_)
    · replace E := (if_of E).1 c11
      refine Rn.sub [1, 0] rfl ?_
      exact f_LawText_isComparison_b39_ok hst hd   E
    · replace E := (if_of E).2 c11
      refine Rn.iload_n (pc' := 25) dX6_isComparison_24 rfl 0 rfl rfl ?_
      refine Rn.sipush (pc' := 28) (v := (2062 : Int32)) (hv := by decide) dX6_isComparison_25 rfl ?_
      refine Rn.icmp_eq (pc' := 31) (tgt := 39) dX6_isComparison_28 (by decide) rfl (fun c12 => ?_) (fun c12 => ?_)
      · replace E := (if_of E).1 c12
        refine Rn.sub [1, 0] rfl ?_
        exact f_LawText_isComparison_b39_ok hst hd   E
      · replace E := (if_of E).2 c12
        refine Rn.aload_n (pc' := 32) dX6_isComparison_31 rfl 1 rfl rfl ?_
        obtain ⟨g13, E⟩ := gd_of E
        refine Rn.getR (pc' := 35) fl_X6_45_6 g13 rfl dX6_isComparison_32 rfl ?_
        obtain ⟨g14, E⟩ := gd_of E
        obtain ⟨v15, h16, e17, E⟩ := bI_of E
        refine Rn.callV1 (pc' := 38) (As := []) (rest := []) (f_Tape_fail_ok hst e17) (Nat.le_trans (by decide) hd) rfl kb_X6_79 ki_X9_fail rfl g14 rfl rfl (Nat.le_of_ble_eq_true rfl) dX6_isComparison_35 rfl rfl ?_
        obtain ⟨g18, E⟩ := gd_of E
        cases E
        exact Rn.zret rfl (nar_b g18) dX6_isComparison_38
  · replace E := (if_of E).1 c5
    refine Rn.iconst (pc' := 8) (v := (0 : Int32)) (hv := by decide) dX6_isComparison_7 rfl ?_
    cases E
    exact Rn.zret rfl rfl dX6_isComparison_8
def f_LawText_isComparison (h : Hp) (x0 : Nat) : Option (Int32 × Hp) := f_LawText_isComparison_b0  h x0
theorem f_LawText_isComparison_ok {l : Launch} {X : Nat × (Nat → Int32)} (hst : l.stackTraces = false) {h : Hp} {x0 : Nat} {r : Int32 × Hp} (E : f_LawText_isComparison h x0 = some r) : MC l X yX6_isComparison mX6_isComparison 2 [.ref x0] h (eI r) r.2 :=
  MC.body (by decide +kernel) rfl (by decide) hst (Nat.le_of_ble_eq_true rfl) (f_LawText_isComparison_b0_ok hst (Nat.le_refl _) E)
