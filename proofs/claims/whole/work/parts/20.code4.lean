/-! ===== by program out of the bytecode (wip/whole/gen/emit.py) ===== -/
abbrev mX10_debt : MI := (RX10, cX10_debt, 2, (some Jvm.ClassFile.FieldType.int), [], false)
theorem ws_X10_debt : ∀ w ∈ wsM yX10_debt mX10_debt, w ∈ gw := List.forall_mem_cons.mpr ⟨gw_at 1374 (by decide +kernel) (by decide +kernel), fun _ h => h⟩
theorem fl_X10_327_1 : FL RX10 327 1 2 := ⟨_, rfl, by decide, "VintageWater$Debt", gw_at 351 (by decide +kernel) (by decide +kernel), Or.inl rfl⟩
def f_Water_debt_b0   (h : Hp) (x0 : Nat) (x1 : Int32)  : Option ((Int32 ⊕ Nat) × Hp) :=
if hS h x0 = 10 then (
bX (f_Water_needDebt h x0 x1) fun _ h3 =>
if hS h3 x0 = 10 then (
if hS h3 (hR h3 x0 4) = 4 then (
if hS h3 (hR h3 (hR h3 x0 4) 5) = 25 then (
if ib x1 (hL h3 (hR h3 (hR h3 x0 4) 5)) = true then (
if hS h3 (hR h3 (hR h3 (hR h3 x0 4) 5) (ix x1)) = 2 then (
some (.inl (hI h3 (hR h3 (hR h3 (hR h3 x0 4) 5) (ix x1)) 2), h3)
) else none) else none) else none) else none) else none) else none
set_option maxRecDepth 20000 in
set_option maxHeartbeats 4000000 in
theorem f_Water_debt_b0_ok {l : Launch} {X : Nat × (Nat → Int32)} (hst : l.stackTraces = false) {d : Nat} (hd : 1 ≤ d)     {h : Hp} {x0 : Nat} {x1 : Int32}  {r : (Int32 ⊕ Nat) × Hp} (E : f_Water_debt_b0   h x0 x1 = some r) : Rn l X mX10_debt d 0 [(0, .ref x0), (1, .int x1)] [] h (xI r) r.2 := by
  unfold f_Water_debt_b0 at E
  refine Rn.aload_n (pc' := 1) dX10_debt_0 rfl 0 rfl rfl ?_
  refine Rn.iload_n (pc' := 2) dX10_debt_1 rfl 1 rfl rfl ?_
  obtain ⟨g1, E⟩ := gd_of E
  rcases bX_of E with ⟨u_, h3, e4, E⟩ | ⟨x_, h3, e4, rfl⟩
  rotate_left
  · exact Rn.callVX (As := [.int x1]) (rest := []) (f_Water_needDebt_ok hst e4) (Nat.le_trans (by decide) hd) rfl kb_X10_320 ki_X10_needDebt rfl g1 rfl rfl (Nat.le_of_ble_eq_true rfl) dX10_debt_2 (RnX.out (by decide))
  refine Rn.callV1 (pc' := 5) (As := [.int x1]) (rest := []) (f_Water_needDebt_ok hst e4) (Nat.le_trans (by decide) hd) rfl kb_X10_320 ki_X10_needDebt rfl g1 rfl rfl (Nat.le_of_ble_eq_true rfl) dX10_debt_2 rfl rfl ?_
  refine Rn.aload_n (pc' := 6) dX10_debt_5 rfl 0 rfl rfl ?_
  obtain ⟨g5, E⟩ := gd_of E
  refine Rn.getR (pc' := 9) fl_X10_42_9 g5 rfl dX10_debt_6 rfl ?_
  obtain ⟨g6, E⟩ := gd_of E
  refine Rn.getR (pc' := 12) fl_X10_323_3 g6 rfl dX10_debt_9 rfl ?_
  refine Rn.iload_n (pc' := 13) dX10_debt_12 rfl 1 rfl rfl ?_
  obtain ⟨g7, E⟩ := gd_of E
  obtain ⟨g8, E⟩ := gd_of E
  refine Rn.aald (pc' := 14) g7 (by decide) (by decide) g8 dX10_debt_13 rfl ?_
  obtain ⟨g9, E⟩ := gd_of E
  refine Rn.getI (pc' := 17) fl_X10_327_1 g9 rfl dX10_debt_14 rfl ?_
  cases E
  exact Rn.zret rfl rfl dX10_debt_17
def f_Water_debt (h : Hp) (x0 : Nat) (x1 : Int32) : Option ((Int32 ⊕ Nat) × Hp) := f_Water_debt_b0  h x0 x1
theorem f_Water_debt_ok {l : Launch} {X : Nat × (Nat → Int32)} (hst : l.stackTraces = false) {h : Hp} {x0 : Nat} {x1 : Int32} {r : (Int32 ⊕ Nat) × Hp} (E : f_Water_debt h x0 x1 = some r) : MC l X yX10_debt mX10_debt 1 [.ref x0, .int x1] h (xI r) r.2 :=
  MC.body (by decide +kernel) rfl (by decide) hst (Nat.le_of_ble_eq_true rfl) (f_Water_debt_b0_ok hst (Nat.le_refl _) E)
abbrev mL_debt : MI := (RL, cL_debt, 4, (some Jvm.ClassFile.FieldType.int), [(0, 9, 12, 24)], false)
theorem ws_L_debt : ∀ w ∈ wsM yL_debt mL_debt, w ∈ gw := List.forall_mem_cons.mpr ⟨gw_at 1370 (by decide +kernel) (by decide +kernel), fun _ h => h⟩
theorem kb_L_83 : KB RL 83 yX10_debt mX10_debt 1 := ⟨gw_at 1371 (by decide +kernel) (by decide +kernel), gw_at 107 (by decide +kernel) (by decide +kernel), trivial, ws_X10_debt, by decide +kernel, by decide +kernel, by decide +kernel, by decide⟩
theorem ki_X10_debt : Cond.instanceMethod yX10_debt ∈ gw ∧ Cond.selects yX10_debt.cls yX10_debt yX10_debt ∈ gw := ⟨gw_at 1372 (by decide +kernel) (by decide +kernel), gw_at 1373 (by decide +kernel) (by decide +kernel)⟩
def f_Lw_debt_b0   (h : Hp) (x0 : Nat) (x1 : Int32) (x2 : Nat)  : Option (Int32 × Hp) :=
if hS h x0 = 10 then (
bC (f_Water_debt h x0 x1) (fun v2 h3 =>
if hS h3 x2 = 22 then (
if ib (0 : Int32) (hL h3 x2) = true then (
wr (sJ h3 x2 (ix (0 : Int32)) (Int32.toInt64 v2)) fun h7 =>
some ((0 : Int32), h7)
) else none) else none
) (fun x_ h3 =>
if x_ = 1 then (
some ((1 : Int32), h3)

) else (
none))
) else none
set_option maxRecDepth 20000 in
set_option maxHeartbeats 4000000 in
theorem f_Lw_debt_b0_ok {l : Launch} {X : Nat × (Nat → Int32)} (hst : l.stackTraces = false) {d : Nat} (hd : 2 ≤ d)     {h : Hp} {x0 : Nat} {x1 : Int32} {x2 : Nat}  {r : Int32 × Hp} (E : f_Lw_debt_b0   h x0 x1 x2 = some r) : Rn l X mL_debt d 0 [(0, .ref x0), (1, .int x1), (2, .ref x2)] [] h (eI r) r.2 := by
  unfold f_Lw_debt_b0 at E
  refine Rn.aload_n (pc' := 1) dL_debt_0 rfl 2 rfl rfl ?_
  refine Rn.iconst (pc' := 2) (v := (0 : Int32)) (hv := by decide) dL_debt_1 rfl ?_
  refine Rn.aload_n (pc' := 3) dL_debt_2 rfl 0 rfl rfl ?_
  refine Rn.iload_n (pc' := 4) dL_debt_3 rfl 1 rfl rfl ?_
  obtain ⟨g1, E⟩ := gd_of E
  rcases bC_of E with ⟨v2, h3, e4, E⟩ | ⟨x_, h3, e4, E⟩
  · refine Rn.callV1 (pc' := 7) (As := [.int x1]) (rest := [.int (0 : Int32), .ref x2]) (f_Water_debt_ok hst e4) (Nat.le_trans (by decide) hd) rfl kb_L_83 ki_X10_debt rfl g1 rfl rfl (Nat.le_of_ble_eq_true rfl) dL_debt_4 rfl rfl ?_
    refine Rn.i2l (pc' := 8) dL_debt_7 rfl ?_
    obtain ⟨g5, E⟩ := gd_of E
    obtain ⟨g6, E⟩ := gd_of E
    refine Rn.last (pc' := 9) g5 g6 dL_debt_8 rfl ?_
    replace E := wr_of E
    generalize eh8 : sJ h3 x2 (ix (0 : Int32)) (Int32.toInt64 v2) = h7 at E ⊢
    refine Rn.goto (pc' := 15) dL_debt_9 (by decide) ?_
    refine Rn.iconst (pc' := 16) (v := (0 : Int32)) (hv := by decide) dL_debt_15 rfl ?_
    cases E
    exact Rn.zret rfl rfl dL_debt_16
  · refine Rn.callVX (As := [.int x1]) (rest := [.int (0 : Int32), .ref x2]) (f_Water_debt_ok hst e4) (Nat.le_trans (by decide) hd) rfl kb_L_83 ki_X10_debt rfl g1 rfl rfl (Nat.le_of_ble_eq_true rfl) dL_debt_4 ?_
    by_cases c9 : x_ = 1
    · replace E := (if_of E).1 c9
      subst c9
      refine RnX.catch (x := 1) (i := 3) (pch := 13) 0 rfl (pre0) (by decide) (by decide) kk_L_24 (by decide) (Or.inl ⟨3, rfl, dL_debt_12, rfl⟩) (by decide) ?_
      change Rn _ _ _ _ _ [(0, .ref x0), (1, .int x1), (2, .ref x2)] _ _ _ _
      refine Rn.iconst (pc' := 14) (v := (1 : Int32)) (hv := by decide) dL_debt_13 rfl ?_
      cases E
      exact Rn.zret rfl rfl dL_debt_14
    replace E := (if_of E).2 c9
    cases E
def f_Lw_debt (h : Hp) (x0 : Nat) (x1 : Int32) (x2 : Nat) : Option (Int32 × Hp) := f_Lw_debt_b0  h x0 x1 x2
theorem f_Lw_debt_ok {l : Launch} {X : Nat × (Nat → Int32)} (hst : l.stackTraces = false) {h : Hp} {x0 : Nat} {x1 : Int32} {x2 : Nat} {r : Int32 × Hp} (E : f_Lw_debt h x0 x1 x2 = some r) : MC l X yL_debt mL_debt 2 [.ref x0, .int x1, .ref x2] h (eI r) r.2 :=
  MC.body (by decide +kernel) rfl (by decide) hst (Nat.le_of_ble_eq_true rfl) (f_Lw_debt_b0_ok hst (Nat.le_refl _) E)
abbrev mX11_debt : MI := (RX11, cX11_debt, 2, (some Jvm.ClassFile.FieldType.int), [], false)
theorem ws_X11_debt : ∀ w ∈ wsM yX11_debt mX11_debt, w ∈ gw := List.forall_mem_cons.mpr ⟨gw_at 1905 (by decide +kernel) (by decide +kernel), fun _ h => h⟩
def f_Model_debt_b0   (h : Hp) (x0 : Nat) (x1 : Int32)  : Option (Int32 × Hp) :=
if hS h x0 = 11 then (
wr (sI h x0 0 (0 : Int32)) fun h2 =>
bI (f_Model_noDebt h2 x0 x1) fun v4 h5 =>
if hS h5 x0 = 11 then (
bI (f_Model_throwsIf h5 x0 v4 (1 : Int32)) fun v8 h9 =>
if v8 = 0 then (
if hS h9 x0 = 11 then (
bI (f_Model_ofDebt h9 x0 x1 (2 : Int32)) fun v13 h14 =>
some (v13, h14)
) else none
) else (
some ((0 : Int32), h9)

)
) else none) else none
set_option maxRecDepth 20000 in
set_option maxHeartbeats 4000000 in
theorem f_Model_debt_b0_ok {l : Launch} {X : Nat × (Nat → Int32)} (hst : l.stackTraces = false) {d : Nat} (hd : 2 ≤ d)     {h : Hp} {x0 : Nat} {x1 : Int32}  {r : Int32 × Hp} (E : f_Model_debt_b0   h x0 x1 = some r) : Rn l X mX11_debt d 0 [(0, .ref x0), (1, .int x1)] [] h (eI r) r.2 := by
  unfold f_Model_debt_b0 at E
  refine Rn.aload_n (pc' := 1) dX11_debt_0 rfl 0 rfl rfl ?_
  refine Rn.iconst (pc' := 2) (v := (0 : Int32)) (hv := by decide) dX11_debt_1 rfl ?_
  obtain ⟨g1, E⟩ := gd_of E
  refine Rn.putI (pc' := 5) fl_X11_3_10 (fun q hq => by cases hq; decide) g1 rfl rfl rfl dX11_debt_2 rfl ?_
  replace E := wr_of E
  generalize eh3 : sI h x0 0 (0 : Int32) = h2 at E ⊢
  refine Rn.aload_n (pc' := 6) dX11_debt_5 rfl 0 rfl rfl ?_
  refine Rn.aload_n (pc' := 7) dX11_debt_6 rfl 0 rfl rfl ?_
  refine Rn.iload_n (pc' := 8) dX11_debt_7 rfl 1 rfl rfl ?_
  obtain ⟨v4, h5, e6, E⟩ := bI_of E
  refine Rn.callV1 (pc' := 11) (As := [.int x1]) (rest := [.ref x0]) (f_Model_noDebt_ok hst e6) (Nat.le_trans (by decide) hd) rfl kb_X11_356 ki_X11_noDebt rfl (kp_sI eh3 g1) rfl rfl (Nat.le_of_ble_eq_true rfl) dX11_debt_8 rfl rfl ?_
  refine Rn.iconst (pc' := 12) (v := (1 : Int32)) (hv := by decide) dX11_debt_11 rfl ?_
  obtain ⟨g7, E⟩ := gd_of E
  obtain ⟨v8, h9, e10, E⟩ := bI_of E
  refine Rn.callV1 (pc' := 15) (As := [.int v4, .int (1 : Int32)]) (rest := []) (f_Model_throwsIf_ok hst e10) (Nat.le_trans (by decide) hd) rfl kb_X11_265 ki_X11_throwsIf rfl g7 rfl rfl (Nat.le_of_ble_eq_true rfl) dX11_debt_12 rfl rfl ?_
  refine Rn.if_eq (pc' := 18) (tgt := 22) dX11_debt_15 (by decide) rfl (fun c11 => ?_) (fun c11 => ?_)
  · replace E := (if_of E).1 c11
    refine Rn.aload_n (pc' := 23) dX11_debt_22 rfl 0 rfl rfl ?_
    refine Rn.iload_n (pc' := 24) dX11_debt_23 rfl 1 rfl rfl ?_
    refine Rn.iconst (pc' := 25) (v := (2 : Int32)) (hv := by decide) dX11_debt_24 rfl ?_
    obtain ⟨g12, E⟩ := gd_of E
    obtain ⟨v13, h14, e15, E⟩ := bI_of E
    refine Rn.callV1 (pc' := 28) (As := [.int x1, .int (2 : Int32)]) (rest := []) (f_Model_ofDebt_ok hst e15) (Nat.le_trans (by decide) hd) rfl kb_X11_359 ki_X11_ofDebt rfl g12 rfl rfl (Nat.le_of_ble_eq_true rfl) dX11_debt_25 rfl rfl ?_
    cases E
    exact Rn.zret rfl rfl dX11_debt_28
  · replace E := (if_of E).2 c11
    refine Rn.iconst (pc' := 19) (v := (0 : Int32)) (hv := by decide) dX11_debt_18 rfl ?_
    refine Rn.goto (pc' := 28) dX11_debt_19 (by decide) ?_
    cases E
    exact Rn.zret rfl rfl dX11_debt_28
def f_Model_debt (h : Hp) (x0 : Nat) (x1 : Int32) : Option (Int32 × Hp) := f_Model_debt_b0  h x0 x1
theorem f_Model_debt_ok {l : Launch} {X : Nat × (Nat → Int32)} (hst : l.stackTraces = false) {h : Hp} {x0 : Nat} {x1 : Int32} {r : Int32 × Hp} (E : f_Model_debt h x0 x1 = some r) : MC l X yX11_debt mX11_debt 2 [.ref x0, .int x1] h (eI r) r.2 :=
  MC.body (by decide +kernel) rfl (by decide) hst (Nat.le_of_ble_eq_true rfl) (f_Model_debt_b0_ok hst (Nat.le_refl _) E)
abbrev mX3_addDebt : MI := (RX3, cX3_addDebt, 5, (some Jvm.ClassFile.FieldType.int), [], false)
theorem ws_X3_addDebt : ∀ w ∈ wsM yX3_addDebt mX3_addDebt, w ∈ gw := List.forall_mem_cons.mpr ⟨gw_at 1367 (by decide +kernel) (by decide +kernel), fun _ h => h⟩
def f_Land_addDebt_b0   (h : Hp) (x0 : Nat) (x1 : Int32) (x2 : Int32) (x3 : Int32)  : Option (Int32 × Hp) :=
if hS h x0 = 4 then (
if (hI h x0 2) < (8 : Int32) then (
if hS h (hR h x0 5) = 25 then (
if ib (hI h x0 2) (hL h (hR h x0 5)) = true then (
if hS h (hR h (hR h x0 5) (ix (hI h x0 2))) = 2 then (
wr (sI h (hR h (hR h x0 5) (ix (hI h x0 2))) 0 x1) fun h6 =>
wr (sI h6 (hR h (hR h x0 5) (ix (hI h x0 2))) 1 x2) fun h8 =>
wr (sI h8 (hR h (hR h x0 5) (ix (hI h x0 2))) 2 x3) fun h10 =>
wr (sI h10 x0 2 ((hI h10 x0 2) + (1 : Int32))) fun h12 =>
some (((hI h12 x0 2) - (1 : Int32)), h12)
) else none) else none) else none
) else (
some ((-1 : Int32), h)

)
) else none
set_option maxRecDepth 20000 in
set_option maxHeartbeats 4000000 in
theorem f_Land_addDebt_b0_ok {l : Launch} {X : Nat × (Nat → Int32)} (hst : l.stackTraces = false) {d : Nat} (hd : 0 ≤ d)     {h : Hp} {x0 : Nat} {x1 : Int32} {x2 : Int32} {x3 : Int32}  {r : Int32 × Hp} (E : f_Land_addDebt_b0   h x0 x1 x2 x3 = some r) : Rn l X mX3_addDebt d 0 [(0, .ref x0), (1, .int x1), (2, .int x2), (3, .int x3)] [] h (eI r) r.2 := by
  unfold f_Land_addDebt_b0 at E
  refine Rn.aload_n (pc' := 1) dX3_addDebt_0 rfl 0 rfl rfl ?_
  obtain ⟨g1, E⟩ := gd_of E
  refine Rn.getI (pc' := 4) fl_X3_49_3 g1 rfl dX3_addDebt_1 rfl ?_
  refine Rn.bipush (pc' := 6) (v := (8 : Int32)) (hv := by decide) dX3_addDebt_4 rfl ?_
  refine Rn.icmp_lt (pc' := 9) (tgt := 11) dX3_addDebt_6 (by decide) rfl (fun c2 => ?_) (fun c2 => ?_)
  · replace E := (if_of E).1 c2
    refine Rn.aload_n (pc' := 12) dX3_addDebt_11 rfl 0 rfl rfl ?_
    refine Rn.getR (pc' := 15) fl_X3_25_3 g1 rfl dX3_addDebt_12 rfl ?_
    refine Rn.aload_n (pc' := 16) dX3_addDebt_15 rfl 0 rfl rfl ?_
    refine Rn.getI (pc' := 19) fl_X3_49_3 g1 rfl dX3_addDebt_16 rfl ?_
    obtain ⟨g3, E⟩ := gd_of E
    obtain ⟨g4, E⟩ := gd_of E
    refine Rn.aald (pc' := 20) g3 (by decide) (by decide) g4 dX3_addDebt_19 rfl ?_
    refine Rn.astore (pc' := 22) (L' := [(4, .ref (hR h (hR h x0 5) (ix (hI h x0 2)))), (0, .ref x0), (1, .int x1), (2, .int x2), (3, .int x3)]) dX3_addDebt_20 (by decide) rfl rfl ?_
    refine Rn.aload (pc' := 24) dX3_addDebt_22 0 rfl rfl ?_
    refine Rn.iload_n (pc' := 25) dX3_addDebt_24 rfl 2 rfl rfl ?_
    obtain ⟨g5, E⟩ := gd_of E
    refine Rn.putI (pc' := 28) fl_X3_97_1 (fun q hq => by cases hq; decide) g5 rfl rfl rfl dX3_addDebt_25 rfl ?_
    replace E := wr_of E
    generalize eh7 : sI h (hR h (hR h x0 5) (ix (hI h x0 2))) 0 x1 = h6 at E ⊢
    refine Rn.aload (pc' := 30) dX3_addDebt_28 0 rfl rfl ?_
    refine Rn.iload_n (pc' := 31) dX3_addDebt_30 rfl 3 rfl rfl ?_
    refine Rn.putI (pc' := 34) fl_X3_100_1 (fun q hq => by cases hq; decide) (kp_sI eh7 g5) rfl rfl rfl dX3_addDebt_31 rfl ?_
    replace E := wr_of E
    generalize eh9 : sI h6 (hR h (hR h x0 5) (ix (hI h x0 2))) 1 x2 = h8 at E ⊢
    refine Rn.aload (pc' := 36) dX3_addDebt_34 0 rfl rfl ?_
    refine Rn.iload_n (pc' := 37) dX3_addDebt_36 rfl 4 rfl rfl ?_
    refine Rn.putI (pc' := 40) fl_X3_103_1 (fun q hq => by cases hq; decide) (kp_sI eh9 (kp_sI eh7 g5)) rfl rfl rfl dX3_addDebt_37 rfl ?_
    replace E := wr_of E
    generalize eh11 : sI h8 (hR h (hR h x0 5) (ix (hI h x0 2))) 2 x3 = h10 at E ⊢
    refine Rn.aload_n (pc' := 41) dX3_addDebt_40 rfl 1 rfl rfl ?_
    refine Rn.dup (pc' := 42) (hc := rfl) dX3_addDebt_41 rfl ?_
    refine Rn.getI (pc' := 45) fl_X3_49_3 (kp_sI eh11 (kp_sI eh9 (kp_sI eh7 g1))) rfl dX3_addDebt_42 rfl ?_
    refine Rn.iconst (pc' := 46) (v := (1 : Int32)) (hv := by decide) dX3_addDebt_45 rfl ?_
    refine Rn.iadd (pc' := 47) dX3_addDebt_46 rfl ?_
    refine Rn.putI (pc' := 50) fl_X3_49_3 (fun q hq => by cases hq; decide) (kp_sI eh11 (kp_sI eh9 (kp_sI eh7 g1))) rfl rfl rfl dX3_addDebt_47 rfl ?_
    replace E := wr_of E
    generalize eh13 : sI h10 x0 2 ((hI h10 x0 2) + (1 : Int32)) = h12 at E ⊢
    refine Rn.aload_n (pc' := 51) dX3_addDebt_50 rfl 1 rfl rfl ?_
    refine Rn.getI (pc' := 54) fl_X3_49_3 (kp_sI eh13 (kp_sI eh11 (kp_sI eh9 (kp_sI eh7 g1)))) rfl dX3_addDebt_51 rfl ?_
    refine Rn.iconst (pc' := 55) (v := (1 : Int32)) (hv := by decide) dX3_addDebt_54 rfl ?_
    refine Rn.isub (pc' := 56) dX3_addDebt_55 rfl ?_
    cases E
    exact Rn.zret rfl rfl dX3_addDebt_56
  · replace E := (if_of E).2 c2
    refine Rn.iconst (pc' := 10) (v := (-1 : Int32)) (hv := by decide) dX3_addDebt_9 rfl ?_
    cases E
    exact Rn.zret rfl rfl dX3_addDebt_10
def f_Land_addDebt (h : Hp) (x0 : Nat) (x1 : Int32) (x2 : Int32) (x3 : Int32) : Option (Int32 × Hp) := f_Land_addDebt_b0  h x0 x1 x2 x3
theorem f_Land_addDebt_ok {l : Launch} {X : Nat × (Nat → Int32)} (hst : l.stackTraces = false) {h : Hp} {x0 : Nat} {x1 : Int32} {x2 : Int32} {x3 : Int32} {r : Int32 × Hp} (E : f_Land_addDebt h x0 x1 x2 x3 = some r) : MC l X yX3_addDebt mX3_addDebt 0 [.ref x0, .int x1, .int x2, .int x3] h (eI r) r.2 :=
  MC.body (by decide +kernel) rfl (by decide) hst (Nat.le_of_ble_eq_true rfl) (f_Land_addDebt_b0_ok hst (Nat.le_refl _) E)
abbrev mX10_owe : MI := (RX10, cX10_owe, 4, (some Jvm.ClassFile.FieldType.int), [], false)
theorem ws_X10_owe : ∀ w ∈ wsM yX10_owe mX10_owe, w ∈ gw := List.forall_mem_cons.mpr ⟨gw_at 1361 (by decide +kernel) (by decide +kernel), fun _ h => h⟩
def f_Water_owe_b22   (h : Hp)   : Option ((Int32 ⊕ Nat) × Hp) :=
some (.inr 2, hA h 0 0 6)

set_option maxRecDepth 20000 in
set_option maxHeartbeats 4000000 in
theorem f_Water_owe_b22_ok {l : Launch} {X : Nat × (Nat → Int32)} (hst : l.stackTraces = false) {d : Nat} (hd : 1 ≤ d)     {h : Hp}   {r : (Int32 ⊕ Nat) × Hp} (E : f_Water_owe_b22   h  = some r) : Rn l X mX10_owe d 22 [] [] h (xI r) r.2 := by
  unfold f_Water_owe_b22 at E
  cases E
  exact Rn.throwSW (x := 2) (i := 17) kt_X10_88_92 rfl rfl dX10_owe_22 dX10_owe_25 dX10_owe_26 dX10_owe_29 dX10_owe_32 (Nat.le_of_ble_eq_true rfl)
theorem kb_X10_316 : KB RX10 316 yX3_addDebt mX3_addDebt 3 := ⟨gw_at 1364 (by decide +kernel) (by decide +kernel), gw_at 113 (by decide +kernel) (by decide +kernel), trivial, ws_X3_addDebt, by decide +kernel, by decide +kernel, by decide +kernel, by decide⟩
theorem ki_X3_addDebt : Cond.instanceMethod yX3_addDebt ∈ gw ∧ Cond.selects yX3_addDebt.cls yX3_addDebt yX3_addDebt ∈ gw := ⟨gw_at 1365 (by decide +kernel) (by decide +kernel), gw_at 1366 (by decide +kernel) (by decide +kernel)⟩
set_option maxRecDepth 20000 in
theorem kt_X10_98_102 : TH RX10 98 102 (xn 3) := ⟨⟨gw_at 984 (by decide +kernel) (by decide +kernel), gw_at 126 (by decide +kernel) (by decide +kernel)⟩, by decide +kernel, by decide +kernel, by decide +kernel⟩
def f_Water_owe_b0   (h : Hp) (x0 : Nat) (x1 : Int32) (x2 : Int32) (x3 : Int32)  : Option ((Int32 ⊕ Nat) × Hp) :=
if hS h x0 = 10 then (
bX (f_Water_needHouse h x0 x1) fun _ h3 =>
if hS h3 x0 = 10 then (
bX (f_Water_needYear h3 x0 x2) fun _ h7 =>
if x3 < (1 : Int32) then (
f_Water_owe_b22   h7

) else (
if x3 ≤ (999 : Int32) then (
if hS h7 x0 = 10 then (
if hS h7 (hR h7 x0 4) = 4 then (
if (hI h7 (hR h7 x0 4) 2) < (8 : Int32) then (
bI (f_Land_addDebt h7 (hR h7 x0 4) x1 x2 x3) fun v14 h15 =>
some (.inl v14, h15)

) else (
some (.inr 3, hA h7 0 0 6)

)
) else none) else none
) else (
f_Water_owe_b22   h7

)

)
) else none) else none
set_option maxRecDepth 20000 in
set_option maxHeartbeats 4000000 in
theorem f_Water_owe_b0_ok {l : Launch} {X : Nat × (Nat → Int32)} (hst : l.stackTraces = false) {d : Nat} (hd : 1 ≤ d)     {h : Hp} {x0 : Nat} {x1 : Int32} {x2 : Int32} {x3 : Int32}  {r : (Int32 ⊕ Nat) × Hp} (E : f_Water_owe_b0   h x0 x1 x2 x3 = some r) : Rn l X mX10_owe d 0 [(0, .ref x0), (1, .int x1), (2, .int x2), (3, .int x3)] [] h (xI r) r.2 := by
  unfold f_Water_owe_b0 at E
  refine Rn.aload_n (pc' := 1) dX10_owe_0 rfl 0 rfl rfl ?_
  refine Rn.iload_n (pc' := 2) dX10_owe_1 rfl 1 rfl rfl ?_
  obtain ⟨g1, E⟩ := gd_of E
  rcases bX_of E with ⟨u_, h3, e4, E⟩ | ⟨x_, h3, e4, rfl⟩
  rotate_left
  · exact Rn.callVX (As := [.int x1]) (rest := []) (f_Water_needHouse_ok hst e4) (Nat.le_trans (by decide) hd) rfl kb_X10_169 ki_X10_needHouse rfl g1 rfl rfl (Nat.le_of_ble_eq_true rfl) dX10_owe_2 (RnX.out (by decide))
  refine Rn.callV1 (pc' := 5) (As := [.int x1]) (rest := []) (f_Water_needHouse_ok hst e4) (Nat.le_trans (by decide) hd) rfl kb_X10_169 ki_X10_needHouse rfl g1 rfl rfl (Nat.le_of_ble_eq_true rfl) dX10_owe_2 rfl rfl ?_
  refine Rn.aload_n (pc' := 6) dX10_owe_5 rfl 0 rfl rfl ?_
  refine Rn.iload_n (pc' := 7) dX10_owe_6 rfl 2 rfl rfl ?_
  obtain ⟨g5, E⟩ := gd_of E
  rcases bX_of E with ⟨u_, h7, e8, E⟩ | ⟨x_, h7, e8, rfl⟩
  rotate_left
  · exact Rn.callVX (As := [.int x2]) (rest := []) (f_Water_needYear_ok hst e8) (Nat.le_trans (by decide) hd) rfl kb_X10_160 ki_X10_needYear rfl g5 rfl rfl (Nat.le_of_ble_eq_true rfl) dX10_owe_7 (RnX.out (by decide))
  refine Rn.callV1 (pc' := 10) (As := [.int x2]) (rest := []) (f_Water_needYear_ok hst e8) (Nat.le_trans (by decide) hd) rfl kb_X10_160 ki_X10_needYear rfl g5 rfl rfl (Nat.le_of_ble_eq_true rfl) dX10_owe_7 rfl rfl ?_
  refine Rn.iload_n (pc' := 11) dX10_owe_10 rfl 3 rfl rfl ?_
  refine Rn.iconst (pc' := 12) (v := (1 : Int32)) (hv := by decide) dX10_owe_11 rfl ?_
  refine Rn.icmp_lt (pc' := 15) (tgt := 22) dX10_owe_12 (by decide) rfl (fun c9 => ?_) (fun c9 => ?_)
  · replace E := (if_of E).1 c9
    refine Rn.sub [] rfl ?_
    exact f_Water_owe_b22_ok hst hd   E
  · replace E := (if_of E).2 c9
    refine Rn.iload_n (pc' := 16) dX10_owe_15 rfl 3 rfl rfl ?_
    refine Rn.sipush (pc' := 19) (v := (999 : Int32)) (hv := by decide) dX10_owe_16 rfl ?_
    refine Rn.icmp_le (pc' := 22) (tgt := 33) dX10_owe_19 (by decide) rfl (fun c10 => ?_) (fun c10 => ?_)
    · replace E := (if_of E).1 c10
      refine Rn.aload_n (pc' := 34) dX10_owe_33 rfl 0 rfl rfl ?_
      obtain ⟨g11, E⟩ := gd_of E
      refine Rn.getR (pc' := 37) fl_X10_42_9 g11 rfl dX10_owe_34 rfl ?_
      obtain ⟨g12, E⟩ := gd_of E
      refine Rn.getI (pc' := 40) fl_X10_311_3 g12 rfl dX10_owe_37 rfl ?_
      refine Rn.bipush (pc' := 42) (v := (8 : Int32)) (hv := by decide) dX10_owe_40 rfl ?_
      refine Rn.icmp_lt (pc' := 45) (tgt := 56) dX10_owe_42 (by decide) rfl (fun c13 => ?_) (fun c13 => ?_)
      · replace E := (if_of E).1 c13
        refine Rn.aload_n (pc' := 57) dX10_owe_56 rfl 0 rfl rfl ?_
        refine Rn.getR (pc' := 60) fl_X10_42_9 g11 rfl dX10_owe_57 rfl ?_
        refine Rn.iload_n (pc' := 61) dX10_owe_60 rfl 1 rfl rfl ?_
        refine Rn.iload_n (pc' := 62) dX10_owe_61 rfl 2 rfl rfl ?_
        refine Rn.iload_n (pc' := 63) dX10_owe_62 rfl 3 rfl rfl ?_
        obtain ⟨v14, h15, e16, E⟩ := bI_of E
        refine Rn.callV1 (pc' := 66) (As := [.int x1, .int x2, .int x3]) (rest := []) (f_Land_addDebt_ok hst e16) (Nat.le_trans (by decide) hd) rfl kb_X10_316 ki_X3_addDebt rfl g12 rfl rfl (Nat.le_of_ble_eq_true rfl) dX10_owe_63 rfl rfl ?_
        cases E
        exact Rn.zret rfl rfl dX10_owe_66
      · replace E := (if_of E).2 c13
        cases E
        exact Rn.throwSW (x := 3) (i := 18) kt_X10_98_102 rfl rfl dX10_owe_45 dX10_owe_48 dX10_owe_49 dX10_owe_52 dX10_owe_55 (Nat.le_of_ble_eq_true rfl)
    · replace E := (if_of E).2 c10
      refine Rn.sub [] rfl ?_
      exact f_Water_owe_b22_ok hst hd   E
def f_Water_owe (h : Hp) (x0 : Nat) (x1 : Int32) (x2 : Int32) (x3 : Int32) : Option ((Int32 ⊕ Nat) × Hp) := f_Water_owe_b0  h x0 x1 x2 x3
theorem f_Water_owe_ok {l : Launch} {X : Nat × (Nat → Int32)} (hst : l.stackTraces = false) {h : Hp} {x0 : Nat} {x1 : Int32} {x2 : Int32} {x3 : Int32} {r : (Int32 ⊕ Nat) × Hp} (E : f_Water_owe h x0 x1 x2 x3 = some r) : MC l X yX10_owe mX10_owe 1 [.ref x0, .int x1, .int x2, .int x3] h (xI r) r.2 :=
  MC.body (by decide +kernel) rfl (by decide) hst (Nat.le_of_ble_eq_true rfl) (f_Water_owe_b0_ok hst (Nat.le_refl _) E)
abbrev mL_owe : MI := (RL, cL_owe, 6, (some Jvm.ClassFile.FieldType.int), [(0, 12, 15, 24), (0, 12, 19, 13), (0, 12, 23, 15)], false)
theorem ws_L_owe : ∀ w ∈ wsM yL_owe mL_owe, w ∈ gw := List.forall_mem_cons.mpr ⟨gw_at 1357 (by decide +kernel) (by decide +kernel), fun _ h => h⟩
theorem kb_L_80 : KB RL 80 yX10_owe mX10_owe 3 := ⟨gw_at 1358 (by decide +kernel) (by decide +kernel), gw_at 107 (by decide +kernel) (by decide +kernel), trivial, ws_X10_owe, by decide +kernel, by decide +kernel, by decide +kernel, by decide⟩
theorem ki_X10_owe : Cond.instanceMethod yX10_owe ∈ gw ∧ Cond.selects yX10_owe.cls yX10_owe yX10_owe ∈ gw := ⟨gw_at 1359 (by decide +kernel) (by decide +kernel), gw_at 1360 (by decide +kernel) (by decide +kernel)⟩
theorem kk_L_15 : Cond.classLink RL 15 "java/lang/UnsupportedOperationException" ∈ gw := gw_at 714 (by decide +kernel) (by decide +kernel)
def f_Lw_owe_b0   (h : Hp) (x0 : Nat) (x1 : Int32) (x2 : Int32) (x3 : Int32) (x4 : Nat)  : Option (Int32 × Hp) :=
if hS h x0 = 10 then (
bC (f_Water_owe h x0 x1 x2 x3) (fun v2 h3 =>
if hS h3 x4 = 22 then (
if ib (0 : Int32) (hL h3 x4) = true then (
wr (sJ h3 x4 (ix (0 : Int32)) (Int32.toInt64 v2)) fun h7 =>
some ((0 : Int32), h7)
) else none) else none
) (fun x_ h3 =>
if x_ = 1 then (
some ((1 : Int32), h3)

) else (
if x_ = 2 then (
some ((2 : Int32), h3)

) else (
if x_ = 3 then (
some ((3 : Int32), h3)

) else (
none))))
) else none
set_option maxRecDepth 20000 in
set_option maxHeartbeats 4000000 in
theorem f_Lw_owe_b0_ok {l : Launch} {X : Nat × (Nat → Int32)} (hst : l.stackTraces = false) {d : Nat} (hd : 2 ≤ d)     {h : Hp} {x0 : Nat} {x1 : Int32} {x2 : Int32} {x3 : Int32} {x4 : Nat}  {r : Int32 × Hp} (E : f_Lw_owe_b0   h x0 x1 x2 x3 x4 = some r) : Rn l X mL_owe d 0 [(0, .ref x0), (1, .int x1), (2, .int x2), (3, .int x3), (4, .ref x4)] [] h (eI r) r.2 := by
  unfold f_Lw_owe_b0 at E
  refine Rn.aload (pc' := 2) dL_owe_0 4 rfl rfl ?_
  refine Rn.iconst (pc' := 3) (v := (0 : Int32)) (hv := by decide) dL_owe_2 rfl ?_
  refine Rn.aload_n (pc' := 4) dL_owe_3 rfl 0 rfl rfl ?_
  refine Rn.iload_n (pc' := 5) dL_owe_4 rfl 1 rfl rfl ?_
  refine Rn.iload_n (pc' := 6) dL_owe_5 rfl 2 rfl rfl ?_
  refine Rn.iload_n (pc' := 7) dL_owe_6 rfl 3 rfl rfl ?_
  obtain ⟨g1, E⟩ := gd_of E
  rcases bC_of E with ⟨v2, h3, e4, E⟩ | ⟨x_, h3, e4, E⟩
  · refine Rn.callV1 (pc' := 10) (As := [.int x1, .int x2, .int x3]) (rest := [.int (0 : Int32), .ref x4]) (f_Water_owe_ok hst e4) (Nat.le_trans (by decide) hd) rfl kb_L_80 ki_X10_owe rfl g1 rfl rfl (Nat.le_of_ble_eq_true rfl) dL_owe_7 rfl rfl ?_
    refine Rn.i2l (pc' := 11) dL_owe_10 rfl ?_
    obtain ⟨g5, E⟩ := gd_of E
    obtain ⟨g6, E⟩ := gd_of E
    refine Rn.last (pc' := 12) g5 g6 dL_owe_11 rfl ?_
    replace E := wr_of E
    generalize eh8 : sJ h3 x4 (ix (0 : Int32)) (Int32.toInt64 v2) = h7 at E ⊢
    refine Rn.goto (pc' := 27) dL_owe_12 (by decide) ?_
    refine Rn.iconst (pc' := 28) (v := (0 : Int32)) (hv := by decide) dL_owe_27 rfl ?_
    cases E
    exact Rn.zret rfl rfl dL_owe_28
  · refine Rn.callVX (As := [.int x1, .int x2, .int x3]) (rest := [.int (0 : Int32), .ref x4]) (f_Water_owe_ok hst e4) (Nat.le_trans (by decide) hd) rfl kb_L_80 ki_X10_owe rfl g1 rfl rfl (Nat.le_of_ble_eq_true rfl) dL_owe_7 ?_
    by_cases c9 : x_ = 1
    · replace E := (if_of E).1 c9
      subst c9
      refine RnX.catch (x := 1) (i := 5) (pch := 17) 0 rfl (pre0) (by decide) (by decide) kk_L_24 (by decide) (Or.inr ⟨dL_owe_15, rfl⟩) (by decide) ?_
      change Rn _ _ _ _ _ [(0, .ref x0), (1, .int x1), (2, .int x2), (3, .int x3), (4, .ref x4)] _ _ _ _
      refine Rn.iconst (pc' := 18) (v := (1 : Int32)) (hv := by decide) dL_owe_17 rfl ?_
      cases E
      exact Rn.zret rfl rfl dL_owe_18
    replace E := (if_of E).2 c9
    by_cases c10 : x_ = 2
    · replace E := (if_of E).1 c10
      subst c10
      refine RnX.catch (x := 2) (i := 5) (pch := 21) 1 rfl (pre1 (Or.inr ⟨by decide, _, kk_L_24, by decide⟩)) (by decide) (by decide) kk_L_13 (by decide) (Or.inr ⟨dL_owe_19, rfl⟩) (by decide) ?_
      change Rn _ _ _ _ _ [(0, .ref x0), (1, .int x1), (2, .int x2), (3, .int x3), (4, .ref x4)] _ _ _ _
      refine Rn.iconst (pc' := 22) (v := (2 : Int32)) (hv := by decide) dL_owe_21 rfl ?_
      cases E
      exact Rn.zret rfl rfl dL_owe_22
    replace E := (if_of E).2 c10
    by_cases c11 : x_ = 3
    · replace E := (if_of E).1 c11
      subst c11
      refine RnX.catch (x := 3) (i := 5) (pch := 25) 2 rfl (pre2 (Or.inr ⟨by decide, _, kk_L_24, by decide⟩) (Or.inr ⟨by decide, _, kk_L_13, by decide⟩)) (by decide) (by decide) kk_L_15 (by decide) (Or.inr ⟨dL_owe_23, rfl⟩) (by decide) ?_
      change Rn _ _ _ _ _ [(0, .ref x0), (1, .int x1), (2, .int x2), (3, .int x3), (4, .ref x4)] _ _ _ _
      refine Rn.iconst (pc' := 26) (v := (3 : Int32)) (hv := by decide) dL_owe_25 rfl ?_
      cases E
      exact Rn.zret rfl rfl dL_owe_26
    replace E := (if_of E).2 c11
    cases E
def f_Lw_owe (h : Hp) (x0 : Nat) (x1 : Int32) (x2 : Int32) (x3 : Int32) (x4 : Nat) : Option (Int32 × Hp) := f_Lw_owe_b0  h x0 x1 x2 x3 x4
theorem f_Lw_owe_ok {l : Launch} {X : Nat × (Nat → Int32)} (hst : l.stackTraces = false) {h : Hp} {x0 : Nat} {x1 : Int32} {x2 : Int32} {x3 : Int32} {x4 : Nat} {r : Int32 × Hp} (E : f_Lw_owe h x0 x1 x2 x3 x4 = some r) : MC l X yL_owe mL_owe 2 [.ref x0, .int x1, .int x2, .int x3, .ref x4] h (eI r) r.2 :=
  MC.body (by decide +kernel) rfl (by decide) hst (Nat.le_of_ble_eq_true rfl) (f_Lw_owe_b0_ok hst (Nat.le_refl _) E)
abbrev mX11_owe : MI := (RX11, cX11_owe, 5, (some Jvm.ClassFile.FieldType.int), [], false)
theorem ws_X11_owe : ∀ w ∈ wsM yX11_owe mX11_owe, w ∈ gw := List.forall_mem_cons.mpr ⟨gw_at 1901 (by decide +kernel) (by decide +kernel), fun _ h => h⟩
def f_Model_owe_b75   (h : Hp) (x0 : Nat) (x1 : Int32) (x2 : Int32) (x3 : Int32) (s0 : Nat) (s1 : Int32) : Option (Int32 × Hp) :=
if hS h s0 = 11 then (
bI (f_Model_throwsIf h s0 s1 (3 : Int32)) fun v2 h3 =>
if v2 = 0 then (
if hS h3 x0 = 11 then (
if hS h3 (hR h3 x0 1) = 20 then (
if ib (10 : Int32) (hL h3 (hR h3 x0 1)) = true then (
if ib ((11 : Int32) + ((3 : Int32) * (hI h3 (hR h3 x0 1) (ix (10 : Int32))))) (hL h3 (hR h3 x0 1)) = true then (
wr (sI h3 (hR h3 x0 1) (ix ((11 : Int32) + ((3 : Int32) * (hI h3 (hR h3 x0 1) (ix (10 : Int32)))))) x1) fun h10 =>
if hS h10 (hR h10 x0 1) = 20 then (
if ib (((11 : Int32) + ((3 : Int32) * (hI h3 (hR h3 x0 1) (ix (10 : Int32))))) + (1 : Int32)) (hL h10 (hR h10 x0 1)) = true then (
wr (sI h10 (hR h10 x0 1) (ix (((11 : Int32) + ((3 : Int32) * (hI h3 (hR h3 x0 1) (ix (10 : Int32))))) + (1 : Int32))) x2) fun h14 =>
if hS h14 (hR h14 x0 1) = 20 then (
if ib (((11 : Int32) + ((3 : Int32) * (hI h3 (hR h3 x0 1) (ix (10 : Int32))))) + (2 : Int32)) (hL h14 (hR h14 x0 1)) = true then (
wr (sI h14 (hR h14 x0 1) (ix (((11 : Int32) + ((3 : Int32) * (hI h3 (hR h3 x0 1) (ix (10 : Int32))))) + (2 : Int32))) x3) fun h18 =>
if hS h18 (hR h18 x0 1) = 20 then (
if ib (10 : Int32) (hL h18 (hR h18 x0 1)) = true then (
if ib (10 : Int32) (hL h18 (hR h18 x0 1)) = true then (
wr (sI h18 (hR h18 x0 1) (ix (10 : Int32)) ((hI h18 (hR h18 x0 1) (ix (10 : Int32))) + (1 : Int32))) fun h23 =>
if hS h23 (hR h23 x0 1) = 20 then (
if ib (10 : Int32) (hL h23 (hR h23 x0 1)) = true then (
some (((hI h23 (hR h23 x0 1) (ix (10 : Int32))) - (1 : Int32)), h23)
) else none) else none) else none) else none) else none) else none) else none) else none) else none) else none) else none) else none) else none
) else (
some ((0 : Int32), h3)

)
) else none
set_option maxRecDepth 20000 in
set_option maxHeartbeats 4000000 in
theorem f_Model_owe_b75_ok {l : Launch} {X : Nat × (Nat → Int32)} (hst : l.stackTraces = false) {d : Nat} (hd : 2 ≤ d)     {h : Hp} {x0 : Nat} {x1 : Int32} {x2 : Int32} {x3 : Int32} {s0 : Nat} {s1 : Int32} {r : Int32 × Hp} (E : f_Model_owe_b75   h x0 x1 x2 x3 s0 s1 = some r) : Rn l X mX11_owe d 75 [(0, .ref x0), (1, .int x1), (2, .int x2), (3, .int x3)] [.int s1, .ref s0] h (eI r) r.2 := by
  unfold f_Model_owe_b75 at E
  refine Rn.iconst (pc' := 76) (v := (3 : Int32)) (hv := by decide) dX11_owe_75 rfl ?_
  obtain ⟨g1, E⟩ := gd_of E
  obtain ⟨v2, h3, e4, E⟩ := bI_of E
  refine Rn.callV1 (pc' := 79) (As := [.int s1, .int (3 : Int32)]) (rest := []) (f_Model_throwsIf_ok hst e4) (Nat.le_trans (by decide) hd) rfl kb_X11_265 ki_X11_throwsIf rfl g1 rfl rfl (Nat.le_of_ble_eq_true rfl) dX11_owe_76 rfl rfl ?_
  refine Rn.if_eq (pc' := 82) (tgt := 84) dX11_owe_79 (by decide) rfl (fun c5 => ?_) (fun c5 => ?_)
  · replace E := (if_of E).1 c5
    refine Rn.bipush (pc' := 86) (v := (11 : Int32)) (hv := by decide) dX11_owe_84 rfl ?_
    refine Rn.iconst (pc' := 87) (v := (3 : Int32)) (hv := by decide) dX11_owe_86 rfl ?_
    refine Rn.aload_n (pc' := 88) dX11_owe_87 rfl 0 rfl rfl ?_
    obtain ⟨g6, E⟩ := gd_of E
    refine Rn.getR (pc' := 91) fl_X11_13_10 g6 rfl dX11_owe_88 rfl ?_
    refine Rn.bipush (pc' := 93) (v := (10 : Int32)) (hv := by decide) dX11_owe_91 rfl ?_
    obtain ⟨g7, E⟩ := gd_of E
    obtain ⟨g8, E⟩ := gd_of E
    refine Rn.iald (pc' := 94) g7 g8 dX11_owe_93 rfl ?_
    refine Rn.imul (pc' := 95) dX11_owe_94 rfl ?_
    refine Rn.iadd (pc' := 96) dX11_owe_95 rfl ?_
    refine Rn.istore (pc' := 98) (L' := [(4, .int ((11 : Int32) + ((3 : Int32) * (hI h3 (hR h3 x0 1) (ix (10 : Int32)))))), (0, .ref x0), (1, .int x1), (2, .int x2), (3, .int x3)]) dX11_owe_96 (by decide) rfl rfl ?_
    refine Rn.aload_n (pc' := 99) dX11_owe_98 rfl 1 rfl rfl ?_
    refine Rn.getR (pc' := 102) fl_X11_13_10 g6 rfl dX11_owe_99 rfl ?_
    refine Rn.iload (pc' := 104) dX11_owe_102 0 rfl rfl ?_
    refine Rn.iload_n (pc' := 105) dX11_owe_104 rfl 2 rfl rfl ?_
    obtain ⟨g9, E⟩ := gd_of E
    refine Rn.iast (pc' := 106) g7 g9 dX11_owe_105 rfl ?_
    replace E := wr_of E
    generalize eh11 : sI h3 (hR h3 x0 1) (ix ((11 : Int32) + ((3 : Int32) * (hI h3 (hR h3 x0 1) (ix (10 : Int32)))))) x1 = h10 at E ⊢
    refine Rn.aload_n (pc' := 107) dX11_owe_106 rfl 1 rfl rfl ?_
    refine Rn.getR (pc' := 110) fl_X11_13_10 (kp_sI eh11 g6) rfl dX11_owe_107 rfl ?_
    refine Rn.iload (pc' := 112) dX11_owe_110 0 rfl rfl ?_
    refine Rn.iconst (pc' := 113) (v := (1 : Int32)) (hv := by decide) dX11_owe_112 rfl ?_
    refine Rn.iadd (pc' := 114) dX11_owe_113 rfl ?_
    refine Rn.iload_n (pc' := 115) dX11_owe_114 rfl 3 rfl rfl ?_
    obtain ⟨g12, E⟩ := gd_of E
    obtain ⟨g13, E⟩ := gd_of E
    refine Rn.iast (pc' := 116) g12 g13 dX11_owe_115 rfl ?_
    replace E := wr_of E
    generalize eh15 : sI h10 (hR h10 x0 1) (ix (((11 : Int32) + ((3 : Int32) * (hI h3 (hR h3 x0 1) (ix (10 : Int32))))) + (1 : Int32))) x2 = h14 at E ⊢
    refine Rn.aload_n (pc' := 117) dX11_owe_116 rfl 1 rfl rfl ?_
    refine Rn.getR (pc' := 120) fl_X11_13_10 (kp_sI eh15 (kp_sI eh11 g6)) rfl dX11_owe_117 rfl ?_
    refine Rn.iload (pc' := 122) dX11_owe_120 0 rfl rfl ?_
    refine Rn.iconst (pc' := 123) (v := (2 : Int32)) (hv := by decide) dX11_owe_122 rfl ?_
    refine Rn.iadd (pc' := 124) dX11_owe_123 rfl ?_
    refine Rn.iload_n (pc' := 125) dX11_owe_124 rfl 4 rfl rfl ?_
    obtain ⟨g16, E⟩ := gd_of E
    obtain ⟨g17, E⟩ := gd_of E
    refine Rn.iast (pc' := 126) g16 g17 dX11_owe_125 rfl ?_
    replace E := wr_of E
    generalize eh19 : sI h14 (hR h14 x0 1) (ix (((11 : Int32) + ((3 : Int32) * (hI h3 (hR h3 x0 1) (ix (10 : Int32))))) + (2 : Int32))) x3 = h18 at E ⊢
    refine Rn.aload_n (pc' := 127) dX11_owe_126 rfl 1 rfl rfl ?_
    refine Rn.getR (pc' := 130) fl_X11_13_10 (kp_sI eh19 (kp_sI eh15 (kp_sI eh11 g6))) rfl dX11_owe_127 rfl ?_
    refine Rn.bipush (pc' := 132) (v := (10 : Int32)) (hv := by decide) dX11_owe_130 rfl ?_
    refine Rn.dup2 (pc' := 133) (hc := rfl) (hd := rfl) dX11_owe_132 rfl ?_
    obtain ⟨g20, E⟩ := gd_of E
    obtain ⟨g21, E⟩ := gd_of E
    refine Rn.iald (pc' := 134) g20 g21 dX11_owe_133 rfl ?_
    refine Rn.iconst (pc' := 135) (v := (1 : Int32)) (hv := by decide) dX11_owe_134 rfl ?_
    refine Rn.iadd (pc' := 136) dX11_owe_135 rfl ?_
    obtain ⟨g22, E⟩ := gd_of E
    refine Rn.iast (pc' := 137) g20 g22 dX11_owe_136 rfl ?_
    replace E := wr_of E
    generalize eh24 : sI h18 (hR h18 x0 1) (ix (10 : Int32)) ((hI h18 (hR h18 x0 1) (ix (10 : Int32))) + (1 : Int32)) = h23 at E ⊢
    refine Rn.aload_n (pc' := 138) dX11_owe_137 rfl 1 rfl rfl ?_
    refine Rn.getR (pc' := 141) fl_X11_13_10 (kp_sI eh24 (kp_sI eh19 (kp_sI eh15 (kp_sI eh11 g6)))) rfl dX11_owe_138 rfl ?_
    refine Rn.bipush (pc' := 143) (v := (10 : Int32)) (hv := by decide) dX11_owe_141 rfl ?_
    obtain ⟨g25, E⟩ := gd_of E
    obtain ⟨g26, E⟩ := gd_of E
    refine Rn.iald (pc' := 144) g25 g26 dX11_owe_143 rfl ?_
    refine Rn.iconst (pc' := 145) (v := (1 : Int32)) (hv := by decide) dX11_owe_144 rfl ?_
    refine Rn.isub (pc' := 146) dX11_owe_145 rfl ?_
    cases E
    exact Rn.zret rfl rfl dX11_owe_146
  · replace E := (if_of E).2 c5
    refine Rn.iconst (pc' := 83) (v := (0 : Int32)) (hv := by decide) dX11_owe_82 rfl ?_
    cases E
    exact Rn.zret rfl rfl dX11_owe_83
def f_Model_owe_b50   (h : Hp) (x0 : Nat) (x1 : Int32) (x2 : Int32) (x3 : Int32) (s0 : Nat) (s1 : Int32) : Option (Int32 × Hp) :=
if hS h s0 = 11 then (
bI (f_Model_throwsIf h s0 s1 (2 : Int32)) fun v2 h3 =>
if v2 = 0 then (
if hS h3 x0 = 11 then (
if hS h3 (hR h3 x0 1) = 20 then (
if ib (10 : Int32) (hL h3 (hR h3 x0 1)) = true then (
if (hI h3 (hR h3 x0 1) (ix (10 : Int32))) = (8 : Int32) then (
f_Model_owe_b75   h3 x0 x1 x2 x3 x0 (1 : Int32)

) else (
f_Model_owe_b75   h3 x0 x1 x2 x3 x0 (0 : Int32)

)
) else none) else none) else none
) else (
some ((0 : Int32), h3)

)
) else none
set_option maxRecDepth 20000 in
set_option maxHeartbeats 4000000 in
theorem f_Model_owe_b50_ok {l : Launch} {X : Nat × (Nat → Int32)} (hst : l.stackTraces = false) {d : Nat} (hd : 2 ≤ d)     {h : Hp} {x0 : Nat} {x1 : Int32} {x2 : Int32} {x3 : Int32} {s0 : Nat} {s1 : Int32} {r : Int32 × Hp} (E : f_Model_owe_b50   h x0 x1 x2 x3 s0 s1 = some r) : Rn l X mX11_owe d 50 [(0, .ref x0), (1, .int x1), (2, .int x2), (3, .int x3)] [.int s1, .ref s0] h (eI r) r.2 := by
  unfold f_Model_owe_b50 at E
  refine Rn.iconst (pc' := 51) (v := (2 : Int32)) (hv := by decide) dX11_owe_50 rfl ?_
  obtain ⟨g1, E⟩ := gd_of E
  obtain ⟨v2, h3, e4, E⟩ := bI_of E
  refine Rn.callV1 (pc' := 54) (As := [.int s1, .int (2 : Int32)]) (rest := []) (f_Model_throwsIf_ok hst e4) (Nat.le_trans (by decide) hd) rfl kb_X11_265 ki_X11_throwsIf rfl g1 rfl rfl (Nat.le_of_ble_eq_true rfl) dX11_owe_51 rfl rfl ?_
  refine Rn.if_ne (pc' := 57) (tgt := 82) dX11_owe_54 (by decide) rfl (fun c5 => ?_) (fun c5 => ?_)
  · replace E := (if_of E).2 c5
    refine Rn.iconst (pc' := 83) (v := (0 : Int32)) (hv := by decide) dX11_owe_82 rfl ?_
    cases E
    exact Rn.zret rfl rfl dX11_owe_83
  · replace E := (if_of E).1 c5
    refine Rn.aload_n (pc' := 58) dX11_owe_57 rfl 0 rfl rfl ?_
    refine Rn.aload_n (pc' := 59) dX11_owe_58 rfl 0 rfl rfl ?_
    obtain ⟨g6, E⟩ := gd_of E
    refine Rn.getR (pc' := 62) fl_X11_13_10 g6 rfl dX11_owe_59 rfl ?_
    refine Rn.bipush (pc' := 64) (v := (10 : Int32)) (hv := by decide) dX11_owe_62 rfl ?_
    obtain ⟨g7, E⟩ := gd_of E
    obtain ⟨g8, E⟩ := gd_of E
    refine Rn.iald (pc' := 65) g7 g8 dX11_owe_64 rfl ?_
    refine Rn.bipush (pc' := 67) (v := (8 : Int32)) (hv := by decide) dX11_owe_65 rfl ?_
    refine Rn.icmp_ne (pc' := 70) (tgt := 74) dX11_owe_67 (by decide) rfl (fun c9 => ?_) (fun c9 => ?_)
    · replace E := (if_of E).2 c9
      refine Rn.iconst (pc' := 75) (v := (0 : Int32)) (hv := by decide) dX11_owe_74 rfl ?_
      exact f_Model_owe_b75_ok hst hd   E
    · replace E := (if_of E).1 c9
      refine Rn.iconst (pc' := 71) (v := (1 : Int32)) (hv := by decide) dX11_owe_70 rfl ?_
      refine Rn.goto (pc' := 75) dX11_owe_71 (by decide) ?_
      exact f_Model_owe_b75_ok hst hd   E
def f_Model_owe_b26   (h : Hp) (x0 : Nat) (x1 : Int32) (x2 : Int32) (x3 : Int32) (s0 : Nat) (s1 : Int32) : Option (Int32 × Hp) :=
if hS h s0 = 11 then (
bI (f_Model_throwsIf h s0 s1 (1 : Int32)) fun v2 h3 =>
if v2 = 0 then (
bI (f_Model_in h3 x3 (1 : Int32) (999 : Int32)) fun v6 h7 =>
if v6 = 0 then (
f_Model_owe_b50   h7 x0 x1 x2 x3 x0 (1 : Int32)

) else (
f_Model_owe_b50   h7 x0 x1 x2 x3 x0 (0 : Int32)

)

) else (
some ((0 : Int32), h3)

)
) else none
set_option maxRecDepth 20000 in
set_option maxHeartbeats 4000000 in
theorem f_Model_owe_b26_ok {l : Launch} {X : Nat × (Nat → Int32)} (hst : l.stackTraces = false) {d : Nat} (hd : 2 ≤ d)     {h : Hp} {x0 : Nat} {x1 : Int32} {x2 : Int32} {x3 : Int32} {s0 : Nat} {s1 : Int32} {r : Int32 × Hp} (E : f_Model_owe_b26   h x0 x1 x2 x3 s0 s1 = some r) : Rn l X mX11_owe d 26 [(0, .ref x0), (1, .int x1), (2, .int x2), (3, .int x3)] [.int s1, .ref s0] h (eI r) r.2 := by
  unfold f_Model_owe_b26 at E
  refine Rn.iconst (pc' := 27) (v := (1 : Int32)) (hv := by decide) dX11_owe_26 rfl ?_
  obtain ⟨g1, E⟩ := gd_of E
  obtain ⟨v2, h3, e4, E⟩ := bI_of E
  refine Rn.callV1 (pc' := 30) (As := [.int s1, .int (1 : Int32)]) (rest := []) (f_Model_throwsIf_ok hst e4) (Nat.le_trans (by decide) hd) rfl kb_X11_265 ki_X11_throwsIf rfl g1 rfl rfl (Nat.le_of_ble_eq_true rfl) dX11_owe_27 rfl rfl ?_
  refine Rn.if_ne (pc' := 33) (tgt := 82) dX11_owe_30 (by decide) rfl (fun c5 => ?_) (fun c5 => ?_)
  · replace E := (if_of E).2 c5
    refine Rn.iconst (pc' := 83) (v := (0 : Int32)) (hv := by decide) dX11_owe_82 rfl ?_
    cases E
    exact Rn.zret rfl rfl dX11_owe_83
  · replace E := (if_of E).1 c5
    refine Rn.aload_n (pc' := 34) dX11_owe_33 rfl 0 rfl rfl ?_
    refine Rn.iload_n (pc' := 35) dX11_owe_34 rfl 3 rfl rfl ?_
    refine Rn.iconst (pc' := 36) (v := (1 : Int32)) (hv := by decide) dX11_owe_35 rfl ?_
    refine Rn.sipush (pc' := 39) (v := (999 : Int32)) (hv := by decide) dX11_owe_36 rfl ?_
    obtain ⟨v6, h7, e8, E⟩ := bI_of E
    refine Rn.callS1 (pc' := 42) (As := [.int x3, .int (1 : Int32), .int (999 : Int32)]) (rest := [.ref x0]) (f_Model_in_ok hst e8) (Nat.le_trans (by decide) hd) rfl kb_X11_56 ks_X11_in rfl rfl (Nat.le_of_ble_eq_true rfl) dX11_owe_39 rfl rfl ?_
    refine Rn.if_ne (pc' := 45) (tgt := 49) dX11_owe_42 (by decide) rfl (fun c9 => ?_) (fun c9 => ?_)
    · replace E := (if_of E).2 c9
      refine Rn.iconst (pc' := 50) (v := (0 : Int32)) (hv := by decide) dX11_owe_49 rfl ?_
      exact f_Model_owe_b50_ok hst hd   E
    · replace E := (if_of E).1 c9
      refine Rn.iconst (pc' := 46) (v := (1 : Int32)) (hv := by decide) dX11_owe_45 rfl ?_
      refine Rn.goto (pc' := 50) dX11_owe_46 (by decide) ?_
      exact f_Model_owe_b50_ok hst hd   E
def f_Model_owe_b21   (h : Hp) (x0 : Nat) (x1 : Int32) (x2 : Int32) (x3 : Int32) (s0 : Nat) : Option (Int32 × Hp) :=
f_Model_owe_b26   h x0 x1 x2 x3 s0 (1 : Int32)

set_option maxRecDepth 20000 in
set_option maxHeartbeats 4000000 in
theorem f_Model_owe_b21_ok {l : Launch} {X : Nat × (Nat → Int32)} (hst : l.stackTraces = false) {d : Nat} (hd : 2 ≤ d)     {h : Hp} {x0 : Nat} {x1 : Int32} {x2 : Int32} {x3 : Int32} {s0 : Nat} {r : Int32 × Hp} (E : f_Model_owe_b21   h x0 x1 x2 x3 s0 = some r) : Rn l X mX11_owe d 21 [(0, .ref x0), (1, .int x1), (2, .int x2), (3, .int x3)] [.ref s0] h (eI r) r.2 := by
  unfold f_Model_owe_b21 at E
  refine Rn.iconst (pc' := 22) (v := (1 : Int32)) (hv := by decide) dX11_owe_21 rfl ?_
  refine Rn.goto (pc' := 26) dX11_owe_22 (by decide) ?_
  exact f_Model_owe_b26_ok hst hd   E
def f_Model_owe_b0   (h : Hp) (x0 : Nat) (x1 : Int32) (x2 : Int32) (x3 : Int32)  : Option (Int32 × Hp) :=
if hS h x0 = 11 then (
wr (sI h x0 0 (0 : Int32)) fun h2 =>
bI (f_Model_noHouse h2 x0 x1) fun v4 h5 =>
if v4 = 0 then (
bI (f_Model_noYear h5 x2) fun v8 h9 =>
if v8 = 0 then (
f_Model_owe_b26   h9 x0 x1 x2 x3 x0 (0 : Int32)

) else (
f_Model_owe_b21   h9 x0 x1 x2 x3 x0

)

) else (
f_Model_owe_b21   h5 x0 x1 x2 x3 x0

)
) else none
set_option maxRecDepth 20000 in
set_option maxHeartbeats 4000000 in
theorem f_Model_owe_b0_ok {l : Launch} {X : Nat × (Nat → Int32)} (hst : l.stackTraces = false) {d : Nat} (hd : 2 ≤ d)     {h : Hp} {x0 : Nat} {x1 : Int32} {x2 : Int32} {x3 : Int32}  {r : Int32 × Hp} (E : f_Model_owe_b0   h x0 x1 x2 x3 = some r) : Rn l X mX11_owe d 0 [(0, .ref x0), (1, .int x1), (2, .int x2), (3, .int x3)] [] h (eI r) r.2 := by
  unfold f_Model_owe_b0 at E
  refine Rn.aload_n (pc' := 1) dX11_owe_0 rfl 0 rfl rfl ?_
  refine Rn.iconst (pc' := 2) (v := (0 : Int32)) (hv := by decide) dX11_owe_1 rfl ?_
  obtain ⟨g1, E⟩ := gd_of E
  refine Rn.putI (pc' := 5) fl_X11_3_10 (fun q hq => by cases hq; decide) g1 rfl rfl rfl dX11_owe_2 rfl ?_
  replace E := wr_of E
  generalize eh3 : sI h x0 0 (0 : Int32) = h2 at E ⊢
  refine Rn.aload_n (pc' := 6) dX11_owe_5 rfl 0 rfl rfl ?_
  refine Rn.aload_n (pc' := 7) dX11_owe_6 rfl 0 rfl rfl ?_
  refine Rn.iload_n (pc' := 8) dX11_owe_7 rfl 1 rfl rfl ?_
  obtain ⟨v4, h5, e6, E⟩ := bI_of E
  refine Rn.callV1 (pc' := 11) (As := [.int x1]) (rest := [.ref x0]) (f_Model_noHouse_ok hst e6) (Nat.le_trans (by decide) hd) rfl kb_X11_293 ki_X11_noHouse rfl (kp_sI eh3 g1) rfl rfl (Nat.le_of_ble_eq_true rfl) dX11_owe_8 rfl rfl ?_
  refine Rn.if_ne (pc' := 14) (tgt := 21) dX11_owe_11 (by decide) rfl (fun c7 => ?_) (fun c7 => ?_)
  · replace E := (if_of E).2 c7
    exact f_Model_owe_b21_ok hst hd   E
  · replace E := (if_of E).1 c7
    refine Rn.iload_n (pc' := 15) dX11_owe_14 rfl 2 rfl rfl ?_
    obtain ⟨v8, h9, e10, E⟩ := bI_of E
    refine Rn.callS1 (pc' := 18) (As := [.int x2]) (rest := [.ref x0]) (f_Model_noYear_ok hst e10) (Nat.le_trans (by decide) hd) rfl kb_X11_290 ks_X11_noYear rfl rfl (Nat.le_of_ble_eq_true rfl) dX11_owe_15 rfl rfl ?_
    refine Rn.if_eq (pc' := 21) (tgt := 25) dX11_owe_18 (by decide) rfl (fun c11 => ?_) (fun c11 => ?_)
    · replace E := (if_of E).1 c11
      refine Rn.iconst (pc' := 26) (v := (0 : Int32)) (hv := by decide) dX11_owe_25 rfl ?_
      exact f_Model_owe_b26_ok hst hd   E
    · replace E := (if_of E).2 c11
      exact f_Model_owe_b21_ok hst hd   E
def f_Model_owe (h : Hp) (x0 : Nat) (x1 : Int32) (x2 : Int32) (x3 : Int32) : Option (Int32 × Hp) := f_Model_owe_b0  h x0 x1 x2 x3
theorem f_Model_owe_ok {l : Launch} {X : Nat × (Nat → Int32)} (hst : l.stackTraces = false) {h : Hp} {x0 : Nat} {x1 : Int32} {x2 : Int32} {x3 : Int32} {r : Int32 × Hp} (E : f_Model_owe h x0 x1 x2 x3 = some r) : MC l X yX11_owe mX11_owe 2 [.ref x0, .int x1, .int x2, .int x3] h (eI r) r.2 :=
  MC.body (by decide +kernel) rfl (by decide) hst (Nat.le_of_ble_eq_true rfl) (f_Model_owe_b0_ok hst (Nat.le_refl _) E)
abbrev mJ6_bitCount_0f7a4 : MI := (RJ6, cJ6_bitCount_0f7a4, 1, (some Jvm.ClassFile.FieldType.int), [], false)
theorem ws_J6_bitCount_0f7a4 : ∀ w ∈ wsM yJ6_bitCount_0f7a4 mJ6_bitCount_0f7a4, w ∈ gw := List.forall_mem_cons.mpr ⟨gw_at 1347 (by decide +kernel) (by decide +kernel), fun _ h => h⟩
theorem kc_J6_265 : Jvm.Cond.constant RJ6 265 (1431655765 : Int32) ∈ gw := gw_at 1348 (by decide +kernel) (by decide +kernel)
theorem kc_J6_266 : Jvm.Cond.constant RJ6 266 (858993459 : Int32) ∈ gw := gw_at 1349 (by decide +kernel) (by decide +kernel)
theorem kc_J6_267 : Jvm.Cond.constant RJ6 267 (252645135 : Int32) ∈ gw := gw_at 1350 (by decide +kernel) (by decide +kernel)
def f_Integer_bitCount_b0   (h : Hp) (x0 : Int32)  : Option (Int32 × Hp) :=
some (((((((((x0 - ((jus x0 (1 : Int32)) &&& (1431655765 : Int32))) &&& (858993459 : Int32)) + ((jus (x0 - ((jus x0 (1 : Int32)) &&& (1431655765 : Int32))) (2 : Int32)) &&& (858993459 : Int32))) + (jus (((x0 - ((jus x0 (1 : Int32)) &&& (1431655765 : Int32))) &&& (858993459 : Int32)) + ((jus (x0 - ((jus x0 (1 : Int32)) &&& (1431655765 : Int32))) (2 : Int32)) &&& (858993459 : Int32))) (4 : Int32))) &&& (252645135 : Int32)) + (jus (((((x0 - ((jus x0 (1 : Int32)) &&& (1431655765 : Int32))) &&& (858993459 : Int32)) + ((jus (x0 - ((jus x0 (1 : Int32)) &&& (1431655765 : Int32))) (2 : Int32)) &&& (858993459 : Int32))) + (jus (((x0 - ((jus x0 (1 : Int32)) &&& (1431655765 : Int32))) &&& (858993459 : Int32)) + ((jus (x0 - ((jus x0 (1 : Int32)) &&& (1431655765 : Int32))) (2 : Int32)) &&& (858993459 : Int32))) (4 : Int32))) &&& (252645135 : Int32)) (8 : Int32))) + (jus ((((((x0 - ((jus x0 (1 : Int32)) &&& (1431655765 : Int32))) &&& (858993459 : Int32)) + ((jus (x0 - ((jus x0 (1 : Int32)) &&& (1431655765 : Int32))) (2 : Int32)) &&& (858993459 : Int32))) + (jus (((x0 - ((jus x0 (1 : Int32)) &&& (1431655765 : Int32))) &&& (858993459 : Int32)) + ((jus (x0 - ((jus x0 (1 : Int32)) &&& (1431655765 : Int32))) (2 : Int32)) &&& (858993459 : Int32))) (4 : Int32))) &&& (252645135 : Int32)) + (jus (((((x0 - ((jus x0 (1 : Int32)) &&& (1431655765 : Int32))) &&& (858993459 : Int32)) + ((jus (x0 - ((jus x0 (1 : Int32)) &&& (1431655765 : Int32))) (2 : Int32)) &&& (858993459 : Int32))) + (jus (((x0 - ((jus x0 (1 : Int32)) &&& (1431655765 : Int32))) &&& (858993459 : Int32)) + ((jus (x0 - ((jus x0 (1 : Int32)) &&& (1431655765 : Int32))) (2 : Int32)) &&& (858993459 : Int32))) (4 : Int32))) &&& (252645135 : Int32)) (8 : Int32))) (16 : Int32))) &&& (63 : Int32)), h)

set_option maxRecDepth 20000 in
set_option maxHeartbeats 4000000 in
theorem f_Integer_bitCount_b0_ok {l : Launch} {X : Nat × (Nat → Int32)} (hst : l.stackTraces = false) {d : Nat} (hd : 0 ≤ d)     {h : Hp} {x0 : Int32}  {r : Int32 × Hp} (E : f_Integer_bitCount_b0   h x0 = some r) : Rn l X mJ6_bitCount_0f7a4 d 0 [(0, .int x0)] [] h (eI r) r.2 := by
  unfold f_Integer_bitCount_b0 at E
  refine Rn.iload_n (pc' := 1) dJ6_bitCount_0f7a4_0 rfl 0 rfl rfl ?_
  refine Rn.iload_n (pc' := 2) dJ6_bitCount_0f7a4_1 rfl 0 rfl rfl ?_
  refine Rn.iconst (pc' := 3) (v := (1 : Int32)) (hv := by decide) dJ6_bitCount_0f7a4_2 rfl ?_
  refine Rn.iushr (pc' := 4) dJ6_bitCount_0f7a4_3 rfl ?_
  refine Rn.ldcwI (pc' := 7) kc_J6_265 dJ6_bitCount_0f7a4_4 rfl ?_
  refine Rn.iand (pc' := 8) dJ6_bitCount_0f7a4_7 rfl ?_
  refine Rn.isub (pc' := 9) dJ6_bitCount_0f7a4_8 rfl ?_
  refine Rn.istore_n (pc' := 10) (L' := [(0, .int (x0 - ((jus x0 (1 : Int32)) &&& (1431655765 : Int32))))]) dJ6_bitCount_0f7a4_9 rfl (by decide) rfl rfl ?_
  refine Rn.iload_n (pc' := 11) dJ6_bitCount_0f7a4_10 rfl 0 rfl rfl ?_
  refine Rn.ldcwI (pc' := 14) kc_J6_266 dJ6_bitCount_0f7a4_11 rfl ?_
  refine Rn.iand (pc' := 15) dJ6_bitCount_0f7a4_14 rfl ?_
  refine Rn.iload_n (pc' := 16) dJ6_bitCount_0f7a4_15 rfl 0 rfl rfl ?_
  refine Rn.iconst (pc' := 17) (v := (2 : Int32)) (hv := by decide) dJ6_bitCount_0f7a4_16 rfl ?_
  refine Rn.iushr (pc' := 18) dJ6_bitCount_0f7a4_17 rfl ?_
  refine Rn.ldcwI (pc' := 21) kc_J6_266 dJ6_bitCount_0f7a4_18 rfl ?_
  refine Rn.iand (pc' := 22) dJ6_bitCount_0f7a4_21 rfl ?_
  refine Rn.iadd (pc' := 23) dJ6_bitCount_0f7a4_22 rfl ?_
  refine Rn.istore_n (pc' := 24) (L' := [(0, .int (((x0 - ((jus x0 (1 : Int32)) &&& (1431655765 : Int32))) &&& (858993459 : Int32)) + ((jus (x0 - ((jus x0 (1 : Int32)) &&& (1431655765 : Int32))) (2 : Int32)) &&& (858993459 : Int32))))]) dJ6_bitCount_0f7a4_23 rfl (by decide) rfl rfl ?_
  refine Rn.iload_n (pc' := 25) dJ6_bitCount_0f7a4_24 rfl 0 rfl rfl ?_
  refine Rn.iload_n (pc' := 26) dJ6_bitCount_0f7a4_25 rfl 0 rfl rfl ?_
  refine Rn.iconst (pc' := 27) (v := (4 : Int32)) (hv := by decide) dJ6_bitCount_0f7a4_26 rfl ?_
  refine Rn.iushr (pc' := 28) dJ6_bitCount_0f7a4_27 rfl ?_
  refine Rn.iadd (pc' := 29) dJ6_bitCount_0f7a4_28 rfl ?_
  refine Rn.ldcwI (pc' := 32) kc_J6_267 dJ6_bitCount_0f7a4_29 rfl ?_
  refine Rn.iand (pc' := 33) dJ6_bitCount_0f7a4_32 rfl ?_
  refine Rn.istore_n (pc' := 34) (L' := [(0, .int (((((x0 - ((jus x0 (1 : Int32)) &&& (1431655765 : Int32))) &&& (858993459 : Int32)) + ((jus (x0 - ((jus x0 (1 : Int32)) &&& (1431655765 : Int32))) (2 : Int32)) &&& (858993459 : Int32))) + (jus (((x0 - ((jus x0 (1 : Int32)) &&& (1431655765 : Int32))) &&& (858993459 : Int32)) + ((jus (x0 - ((jus x0 (1 : Int32)) &&& (1431655765 : Int32))) (2 : Int32)) &&& (858993459 : Int32))) (4 : Int32))) &&& (252645135 : Int32)))]) dJ6_bitCount_0f7a4_33 rfl (by decide) rfl rfl ?_
  refine Rn.iload_n (pc' := 35) dJ6_bitCount_0f7a4_34 rfl 0 rfl rfl ?_
  refine Rn.iload_n (pc' := 36) dJ6_bitCount_0f7a4_35 rfl 0 rfl rfl ?_
  refine Rn.bipush (pc' := 38) (v := (8 : Int32)) (hv := by decide) dJ6_bitCount_0f7a4_36 rfl ?_
  refine Rn.iushr (pc' := 39) dJ6_bitCount_0f7a4_38 rfl ?_
  refine Rn.iadd (pc' := 40) dJ6_bitCount_0f7a4_39 rfl ?_
  refine Rn.istore_n (pc' := 41) (L' := [(0, .int ((((((x0 - ((jus x0 (1 : Int32)) &&& (1431655765 : Int32))) &&& (858993459 : Int32)) + ((jus (x0 - ((jus x0 (1 : Int32)) &&& (1431655765 : Int32))) (2 : Int32)) &&& (858993459 : Int32))) + (jus (((x0 - ((jus x0 (1 : Int32)) &&& (1431655765 : Int32))) &&& (858993459 : Int32)) + ((jus (x0 - ((jus x0 (1 : Int32)) &&& (1431655765 : Int32))) (2 : Int32)) &&& (858993459 : Int32))) (4 : Int32))) &&& (252645135 : Int32)) + (jus (((((x0 - ((jus x0 (1 : Int32)) &&& (1431655765 : Int32))) &&& (858993459 : Int32)) + ((jus (x0 - ((jus x0 (1 : Int32)) &&& (1431655765 : Int32))) (2 : Int32)) &&& (858993459 : Int32))) + (jus (((x0 - ((jus x0 (1 : Int32)) &&& (1431655765 : Int32))) &&& (858993459 : Int32)) + ((jus (x0 - ((jus x0 (1 : Int32)) &&& (1431655765 : Int32))) (2 : Int32)) &&& (858993459 : Int32))) (4 : Int32))) &&& (252645135 : Int32)) (8 : Int32))))]) dJ6_bitCount_0f7a4_40 rfl (by decide) rfl rfl ?_
  refine Rn.iload_n (pc' := 42) dJ6_bitCount_0f7a4_41 rfl 0 rfl rfl ?_
  refine Rn.iload_n (pc' := 43) dJ6_bitCount_0f7a4_42 rfl 0 rfl rfl ?_
  refine Rn.bipush (pc' := 45) (v := (16 : Int32)) (hv := by decide) dJ6_bitCount_0f7a4_43 rfl ?_
  refine Rn.iushr (pc' := 46) dJ6_bitCount_0f7a4_45 rfl ?_
  refine Rn.iadd (pc' := 47) dJ6_bitCount_0f7a4_46 rfl ?_
  refine Rn.istore_n (pc' := 48) (L' := [(0, .int (((((((x0 - ((jus x0 (1 : Int32)) &&& (1431655765 : Int32))) &&& (858993459 : Int32)) + ((jus (x0 - ((jus x0 (1 : Int32)) &&& (1431655765 : Int32))) (2 : Int32)) &&& (858993459 : Int32))) + (jus (((x0 - ((jus x0 (1 : Int32)) &&& (1431655765 : Int32))) &&& (858993459 : Int32)) + ((jus (x0 - ((jus x0 (1 : Int32)) &&& (1431655765 : Int32))) (2 : Int32)) &&& (858993459 : Int32))) (4 : Int32))) &&& (252645135 : Int32)) + (jus (((((x0 - ((jus x0 (1 : Int32)) &&& (1431655765 : Int32))) &&& (858993459 : Int32)) + ((jus (x0 - ((jus x0 (1 : Int32)) &&& (1431655765 : Int32))) (2 : Int32)) &&& (858993459 : Int32))) + (jus (((x0 - ((jus x0 (1 : Int32)) &&& (1431655765 : Int32))) &&& (858993459 : Int32)) + ((jus (x0 - ((jus x0 (1 : Int32)) &&& (1431655765 : Int32))) (2 : Int32)) &&& (858993459 : Int32))) (4 : Int32))) &&& (252645135 : Int32)) (8 : Int32))) + (jus ((((((x0 - ((jus x0 (1 : Int32)) &&& (1431655765 : Int32))) &&& (858993459 : Int32)) + ((jus (x0 - ((jus x0 (1 : Int32)) &&& (1431655765 : Int32))) (2 : Int32)) &&& (858993459 : Int32))) + (jus (((x0 - ((jus x0 (1 : Int32)) &&& (1431655765 : Int32))) &&& (858993459 : Int32)) + ((jus (x0 - ((jus x0 (1 : Int32)) &&& (1431655765 : Int32))) (2 : Int32)) &&& (858993459 : Int32))) (4 : Int32))) &&& (252645135 : Int32)) + (jus (((((x0 - ((jus x0 (1 : Int32)) &&& (1431655765 : Int32))) &&& (858993459 : Int32)) + ((jus (x0 - ((jus x0 (1 : Int32)) &&& (1431655765 : Int32))) (2 : Int32)) &&& (858993459 : Int32))) + (jus (((x0 - ((jus x0 (1 : Int32)) &&& (1431655765 : Int32))) &&& (858993459 : Int32)) + ((jus (x0 - ((jus x0 (1 : Int32)) &&& (1431655765 : Int32))) (2 : Int32)) &&& (858993459 : Int32))) (4 : Int32))) &&& (252645135 : Int32)) (8 : Int32))) (16 : Int32))))]) dJ6_bitCount_0f7a4_47 rfl (by decide) rfl rfl ?_
  refine Rn.iload_n (pc' := 49) dJ6_bitCount_0f7a4_48 rfl 0 rfl rfl ?_
  refine Rn.bipush (pc' := 51) (v := (63 : Int32)) (hv := by decide) dJ6_bitCount_0f7a4_49 rfl ?_
  refine Rn.iand (pc' := 52) dJ6_bitCount_0f7a4_51 rfl ?_
  cases E
  exact Rn.zret rfl rfl dJ6_bitCount_0f7a4_52
def f_Integer_bitCount (h : Hp) (x0 : Int32) : Option (Int32 × Hp) := f_Integer_bitCount_b0  h x0
theorem f_Integer_bitCount_ok {l : Launch} {X : Nat × (Nat → Int32)} (hst : l.stackTraces = false) {h : Hp} {x0 : Int32} {r : Int32 × Hp} (E : f_Integer_bitCount h x0 = some r) : MC l X yJ6_bitCount_0f7a4 mJ6_bitCount_0f7a4 0 [.int x0] h (eI r) r.2 :=
  MC.body (by decide +kernel) rfl (by decide) hst (Nat.le_of_ble_eq_true rfl) (f_Integer_bitCount_b0_ok hst (Nat.le_refl _) E)
abbrev mX3_measuresOf : MI := (RX3, cX3_measuresOf, 5, (some Jvm.ClassFile.FieldType.int), [], false)
theorem ws_X3_measuresOf : ∀ w ∈ wsM yX3_measuresOf mX3_measuresOf, w ∈ gw := List.forall_mem_cons.mpr ⟨gw_at 1354 (by decide +kernel) (by decide +kernel), fun _ h => h⟩
def f_Land_measuresOf_b49  (k5 : Hp → Nat → Int32 → Int32 → Int32 → Int32 → Option (Int32 × Hp)) (h : Hp) (x0 : Nat) (x1 : Int32) (x2 : Int32) (x3 : Int32) (x4 : Int32)  : Option (Int32 × Hp) :=
k5 h x0 x1 x2 x3 (x4 + (1 : Int32))

set_option maxRecDepth 20000 in
set_option maxHeartbeats 4000000 in
theorem f_Land_measuresOf_b49_ok {l : Launch} {X : Nat × (Nat → Int32)} (hst : l.stackTraces = false) {d : Nat} (hd : 0 ≤ d)   {k5 : Hp → Nat → Int32 → Int32 → Int32 → Int32 → Option (Int32 × Hp)} (hk5 : ∀ (h : Hp) (x0 : Nat) (x1 : Int32) (x2 : Int32) (x3 : Int32) (x4 : Int32)  (r : Int32 × Hp), k5 h x0 x1 x2 x3 x4 = some r → Rn l X mX3_measuresOf d 5 [(0, .ref x0), (1, .int x1), (2, .int x2), (3, .int x3), (4, .int x4)] [] h (eI r) r.2) {h : Hp} {x0 : Nat} {x1 : Int32} {x2 : Int32} {x3 : Int32} {x4 : Int32}  {r : Int32 × Hp} (E : f_Land_measuresOf_b49  k5 h x0 x1 x2 x3 x4 = some r) : Rn l X mX3_measuresOf d 49 [(0, .ref x0), (1, .int x1), (2, .int x2), (3, .int x3), (4, .int x4)] [] h (eI r) r.2 := by
  unfold f_Land_measuresOf_b49 at E
  refine Rn.iinc (pc' := 52) (v := (x4 + (1 : Int32))) (L' := [(4, .int (x4 + (1 : Int32))), (0, .ref x0), (1, .int x1), (2, .int x2), (3, .int x3)]) dX3_measuresOf_49 4 rfl rfl (by decide) rfl rfl ?_
  refine Rn.goto (pc' := 5) dX3_measuresOf_52 (by decide) ?_
  refine Rn.sub [1, 2, 3, 4, 0] rfl ?_
  exact hk5 _ _ _ _ _ _ _ E
def f_Land_measuresOf_b5  (k5 : Hp → Nat → Int32 → Int32 → Int32 → Int32 → Option (Int32 × Hp)) (h : Hp) (x0 : Nat) (x1 : Int32) (x2 : Int32) (x3 : Int32) (x4 : Int32)  : Option (Int32 × Hp) :=
if hS h x0 = 4 then (
if (hI h x0 0) ≤ x4 then (
some (x3, h)

) else (
if x1 < 0 then (
some (x3, h)

) else (
if (30 : Int32) ≤ x1 then (
some (x3, h)

) else (
if ((jshr x2 x4) &&& (1 : Int32)) = (1 : Int32) then (
if hS h (hR h x0 3) = 23 then (
if ib x4 (hL h (hR h x0 3)) = true then (
if hS h (hR h (hR h x0 3) (ix x4)) = 1 then (
if hS h (hR h (hR h (hR h x0 3) (ix x4)) 6) = 20 then (
if ib x1 (hL h (hR h (hR h (hR h x0 3) (ix x4)) 6)) = true then (
f_Land_measuresOf_b49  k5 h x0 x1 x2 (x3 + (hI h (hR h (hR h (hR h x0 3) (ix x4)) 6) (ix x1))) x4
) else none) else none) else none) else none) else none
) else (
f_Land_measuresOf_b49  k5 h x0 x1 x2 x3 x4

)

)

)

)
) else none
set_option maxRecDepth 20000 in
set_option maxHeartbeats 4000000 in
theorem f_Land_measuresOf_b5_ok {l : Launch} {X : Nat × (Nat → Int32)} (hst : l.stackTraces = false) {d : Nat} (hd : 0 ≤ d)   {k5 : Hp → Nat → Int32 → Int32 → Int32 → Int32 → Option (Int32 × Hp)} (hk5 : ∀ (h : Hp) (x0 : Nat) (x1 : Int32) (x2 : Int32) (x3 : Int32) (x4 : Int32)  (r : Int32 × Hp), k5 h x0 x1 x2 x3 x4 = some r → Rn l X mX3_measuresOf d 5 [(0, .ref x0), (1, .int x1), (2, .int x2), (3, .int x3), (4, .int x4)] [] h (eI r) r.2) {h : Hp} {x0 : Nat} {x1 : Int32} {x2 : Int32} {x3 : Int32} {x4 : Int32}  {r : Int32 × Hp} (E : f_Land_measuresOf_b5  k5 h x0 x1 x2 x3 x4 = some r) : Rn l X mX3_measuresOf d 5 [(0, .ref x0), (1, .int x1), (2, .int x2), (3, .int x3), (4, .int x4)] [] h (eI r) r.2 := by
  unfold f_Land_measuresOf_b5 at E
  refine Rn.iload (pc' := 7) dX3_measuresOf_5 4 rfl rfl ?_
  refine Rn.aload_n (pc' := 8) dX3_measuresOf_7 rfl 0 rfl rfl ?_
  obtain ⟨g1, E⟩ := gd_of E
  refine Rn.getI (pc' := 11) fl_X3_43_3 g1 rfl dX3_measuresOf_8 rfl ?_
  refine Rn.icmp_ge (pc' := 14) (tgt := 55) dX3_measuresOf_11 (by decide) rfl (fun c2 => ?_) (fun c2 => ?_)
  · replace E := (if_of E).1 c2
    refine Rn.iload_n (pc' := 56) dX3_measuresOf_55 rfl 3 rfl rfl ?_
    cases E
    exact Rn.zret rfl rfl dX3_measuresOf_56
  · replace E := (if_of E).2 c2
    refine Rn.iload_n (pc' := 15) dX3_measuresOf_14 rfl 1 rfl rfl ?_
    refine Rn.if_lt (pc' := 18) (tgt := 55) dX3_measuresOf_15 (by decide) rfl (fun c3 => ?_) (fun c3 => ?_)
    · replace E := (if_of E).1 c3
      refine Rn.iload_n (pc' := 56) dX3_measuresOf_55 rfl 3 rfl rfl ?_
      cases E
      exact Rn.zret rfl rfl dX3_measuresOf_56
    · replace E := (if_of E).2 c3
      refine Rn.iload_n (pc' := 19) dX3_measuresOf_18 rfl 1 rfl rfl ?_
      refine Rn.bipush (pc' := 21) (v := (30 : Int32)) (hv := by decide) dX3_measuresOf_19 rfl ?_
      refine Rn.icmp_ge (pc' := 24) (tgt := 55) dX3_measuresOf_21 (by decide) rfl (fun c4 => ?_) (fun c4 => ?_)
      · replace E := (if_of E).1 c4
        refine Rn.iload_n (pc' := 56) dX3_measuresOf_55 rfl 3 rfl rfl ?_
        cases E
        exact Rn.zret rfl rfl dX3_measuresOf_56
      · replace E := (if_of E).2 c4
        refine Rn.iload_n (pc' := 25) dX3_measuresOf_24 rfl 2 rfl rfl ?_
        refine Rn.iload (pc' := 27) dX3_measuresOf_25 4 rfl rfl ?_
        refine Rn.ishr (pc' := 28) dX3_measuresOf_27 rfl ?_
        refine Rn.iconst (pc' := 29) (v := (1 : Int32)) (hv := by decide) dX3_measuresOf_28 rfl ?_
        refine Rn.iand (pc' := 30) dX3_measuresOf_29 rfl ?_
        refine Rn.iconst (pc' := 31) (v := (1 : Int32)) (hv := by decide) dX3_measuresOf_30 rfl ?_
        refine Rn.icmp_ne (pc' := 34) (tgt := 49) dX3_measuresOf_31 (by decide) rfl (fun c5 => ?_) (fun c5 => ?_)
        · replace E := (if_of E).2 c5
          exact f_Land_measuresOf_b49_ok hst hd  hk5 E
        · replace E := (if_of E).1 c5
          refine Rn.iload_n (pc' := 35) dX3_measuresOf_34 rfl 3 rfl rfl ?_
          refine Rn.aload_n (pc' := 36) dX3_measuresOf_35 rfl 0 rfl rfl ?_
          refine Rn.getR (pc' := 39) fl_X3_11_3 g1 rfl dX3_measuresOf_36 rfl ?_
          refine Rn.iload (pc' := 41) dX3_measuresOf_39 4 rfl rfl ?_
          obtain ⟨g6, E⟩ := gd_of E
          obtain ⟨g7, E⟩ := gd_of E
          refine Rn.aald (pc' := 42) g6 (by decide) (by decide) g7 dX3_measuresOf_41 rfl ?_
          obtain ⟨g8, E⟩ := gd_of E
          refine Rn.getR (pc' := 45) fl_X3_190_0 g8 rfl dX3_measuresOf_42 rfl ?_
          refine Rn.iload_n (pc' := 46) dX3_measuresOf_45 rfl 1 rfl rfl ?_
          obtain ⟨g9, E⟩ := gd_of E
          obtain ⟨g10, E⟩ := gd_of E
          refine Rn.iald (pc' := 47) g9 g10 dX3_measuresOf_46 rfl ?_
          refine Rn.iadd (pc' := 48) dX3_measuresOf_47 rfl ?_
          refine Rn.istore_n (pc' := 49) (L' := [(3, .int (x3 + (hI h (hR h (hR h (hR h x0 3) (ix x4)) 6) (ix x1)))), (0, .ref x0), (1, .int x1), (2, .int x2), (4, .int x4)]) dX3_measuresOf_48 rfl (by decide) rfl rfl ?_
          refine Rn.sub [1, 2, 3, 0, 4] rfl ?_
          exact f_Land_measuresOf_b49_ok hst hd  hk5 E
def f_Land_measuresOf_L5   (n : Nat) : Hp → Nat → Int32 → Int32 → Int32 → Int32 → Option (Int32 × Hp) := Nat.rec (motive := fun _ => Hp → Nat → Int32 → Int32 → Int32 → Int32 → Option (Int32 × Hp)) (fun _ _ _ _ _ _ => none) (fun _ rec => f_Land_measuresOf_b5   rec) n
theorem f_Land_measuresOf_L5_ok {l : Launch} {X : Nat × (Nat → Int32)} (hst : l.stackTraces = false) {d : Nat} (hd : 0 ≤ d)     : ∀ (n : Nat) (h : Hp) (x0 : Nat) (x1 : Int32) (x2 : Int32) (x3 : Int32) (x4 : Int32)  (r : Int32 × Hp), f_Land_measuresOf_L5   n h x0 x1 x2 x3 x4 = some r → Rn l X mX3_measuresOf d 5 [(0, .ref x0), (1, .int x1), (2, .int x2), (3, .int x3), (4, .int x4)] [] h (eI r) r.2 := by
  intro n
  induction n with
  | zero => intro h x0 x1 x2 x3 x4 r E; cases E
  | succ n ih => intro h x0 x1 x2 x3 x4 r E; exact f_Land_measuresOf_b5_ok hst hd   ih E
def f_Land_measuresOf_b0   (h : Hp) (x0 : Nat) (x1 : Int32) (x2 : Int32)  : Option (Int32 × Hp) :=
f_Land_measuresOf_L5   FU h x0 x1 x2 (0 : Int32) (0 : Int32)

set_option maxRecDepth 20000 in
set_option maxHeartbeats 4000000 in
theorem f_Land_measuresOf_b0_ok {l : Launch} {X : Nat × (Nat → Int32)} (hst : l.stackTraces = false) {d : Nat} (hd : 0 ≤ d)     {h : Hp} {x0 : Nat} {x1 : Int32} {x2 : Int32}  {r : Int32 × Hp} (E : f_Land_measuresOf_b0   h x0 x1 x2 = some r) : Rn l X mX3_measuresOf d 0 [(0, .ref x0), (1, .int x1), (2, .int x2)] [] h (eI r) r.2 := by
  unfold f_Land_measuresOf_b0 at E
  refine Rn.iconst (pc' := 1) (v := (0 : Int32)) (hv := by decide) dX3_measuresOf_0 rfl ?_
  refine Rn.istore_n (pc' := 2) (L' := [(3, .int (0 : Int32)), (0, .ref x0), (1, .int x1), (2, .int x2)]) dX3_measuresOf_1 rfl (by decide) rfl rfl ?_
  refine Rn.iconst (pc' := 3) (v := (0 : Int32)) (hv := by decide) dX3_measuresOf_2 rfl ?_
  refine Rn.istore (pc' := 5) (L' := [(4, .int (0 : Int32)), (3, .int (0 : Int32)), (0, .ref x0), (1, .int x1), (2, .int x2)]) dX3_measuresOf_3 (by decide) rfl rfl ?_
  refine Rn.sub [2, 3, 4, 1, 0] rfl ?_
  exact f_Land_measuresOf_L5_ok hst hd   FU _ _ _ _ _ _ _ E
def f_Land_measuresOf (h : Hp) (x0 : Nat) (x1 : Int32) (x2 : Int32) : Option (Int32 × Hp) := f_Land_measuresOf_b0  h x0 x1 x2
theorem f_Land_measuresOf_ok {l : Launch} {X : Nat × (Nat → Int32)} (hst : l.stackTraces = false) {h : Hp} {x0 : Nat} {x1 : Int32} {x2 : Int32} {r : Int32 × Hp} (E : f_Land_measuresOf h x0 x1 x2 = some r) : MC l X yX3_measuresOf mX3_measuresOf 0 [.ref x0, .int x1, .int x2] h (eI r) r.2 :=
  MC.body (by decide +kernel) rfl (by decide) hst (Nat.le_of_ble_eq_true rfl) (f_Land_measuresOf_b0_ok hst (Nat.le_refl _) E)
abbrev mX10_owed : MI := (RX10, cX10_owed, 6, (some Jvm.ClassFile.FieldType.int), [], false)
theorem ws_X10_owed : ∀ w ∈ wsM yX10_owed mX10_owed, w ∈ gw := List.forall_mem_cons.mpr ⟨gw_at 1343 (by decide +kernel) (by decide +kernel), fun _ h => h⟩
def f_Water_owed_b16   (h : Hp)   : Option ((Int32 ⊕ Nat) × Hp) :=
some (.inr 2, hA h 0 0 6)

set_option maxRecDepth 20000 in
set_option maxHeartbeats 4000000 in
theorem f_Water_owed_b16_ok {l : Launch} {X : Nat × (Nat → Int32)} (hst : l.stackTraces = false) {d : Nat} (hd : 1 ≤ d)     {h : Hp}   {r : (Int32 ⊕ Nat) × Hp} (E : f_Water_owed_b16   h  = some r) : Rn l X mX10_owed d 16 [] [] h (xI r) r.2 := by
  unfold f_Water_owed_b16 at E
  cases E
  exact Rn.throwSW (x := 2) (i := 16) kt_X10_88_92 rfl rfl dX10_owed_16 dX10_owed_19 dX10_owed_20 dX10_owed_23 dX10_owed_26 (Nat.le_of_ble_eq_true rfl)
def f_Water_owed_b92  (k32 : Hp → Nat → Int32 → Int32 → Int32 → Int32 → Option ((Int32 ⊕ Nat) × Hp)) (h : Hp) (x0 : Nat) (x1 : Int32) (x2 : Int32) (x3 : Int32) (x4 : Int32)  : Option ((Int32 ⊕ Nat) × Hp) :=
k32 h x0 x1 x2 x3 (x4 + (1 : Int32))

set_option maxRecDepth 20000 in
set_option maxHeartbeats 4000000 in
theorem f_Water_owed_b92_ok {l : Launch} {X : Nat × (Nat → Int32)} (hst : l.stackTraces = false) {d : Nat} (hd : 1 ≤ d)   {k32 : Hp → Nat → Int32 → Int32 → Int32 → Int32 → Option ((Int32 ⊕ Nat) × Hp)} (hk32 : ∀ (h : Hp) (x0 : Nat) (x1 : Int32) (x2 : Int32) (x3 : Int32) (x4 : Int32)  (r : (Int32 ⊕ Nat) × Hp), k32 h x0 x1 x2 x3 x4 = some r → Rn l X mX10_owed d 32 [(0, .ref x0), (1, .int x1), (2, .int x2), (3, .int x3), (4, .int x4)] [] h (xI r) r.2) {h : Hp} {x0 : Nat} {x1 : Int32} {x2 : Int32} {x3 : Int32} {x4 : Int32}  {r : (Int32 ⊕ Nat) × Hp} (E : f_Water_owed_b92  k32 h x0 x1 x2 x3 x4 = some r) : Rn l X mX10_owed d 92 [(0, .ref x0), (1, .int x1), (2, .int x2), (3, .int x3), (4, .int x4)] [] h (xI r) r.2 := by
  unfold f_Water_owed_b92 at E
  refine Rn.iinc (pc' := 95) (v := (x4 + (1 : Int32))) (L' := [(4, .int (x4 + (1 : Int32))), (0, .ref x0), (1, .int x1), (2, .int x2), (3, .int x3)]) dX10_owed_92 4 rfl rfl (by decide) rfl rfl ?_
  refine Rn.goto (pc' := 32) dX10_owed_95 (by decide) ?_
  refine Rn.sub [1, 2, 3, 4, 0] rfl ?_
  exact hk32 _ _ _ _ _ _ _ E
theorem kb_X10_306 : KB RX10 306 yX3_measuresOf mX3_measuresOf 2 := ⟨gw_at 1351 (by decide +kernel) (by decide +kernel), gw_at 113 (by decide +kernel) (by decide +kernel), trivial, ws_X3_measuresOf, by decide +kernel, by decide +kernel, by decide +kernel, by decide⟩
theorem ki_X3_measuresOf : Cond.instanceMethod yX3_measuresOf ∈ gw ∧ Cond.selects yX3_measuresOf.cls yX3_measuresOf yX3_measuresOf ∈ gw := ⟨gw_at 1352 (by decide +kernel) (by decide +kernel), gw_at 1353 (by decide +kernel) (by decide +kernel)⟩
def f_Water_owed_b68  (k32 : Hp → Nat → Int32 → Int32 → Int32 → Int32 → Option ((Int32 ⊕ Nat) × Hp)) (h : Hp) (x0 : Nat) (x1 : Int32) (x2 : Int32) (x3 : Int32) (x4 : Int32) (s0 : Int32) : Option ((Int32 ⊕ Nat) × Hp) :=
if s0 = 0 then (
f_Water_owed_b92  k32 h x0 x1 x2 x3 x4

) else (
if hS h x0 = 10 then (
if hS h (hR h x0 4) = 4 then (
bI (f_Land_measuresOf h (hR h x0 4) x1 x4) fun v4 h5 =>
if v4 < x2 then (
f_Water_owed_b92  k32 h5 x0 x1 x2 x3 x4

) else (
f_Water_owed_b92  k32 h5 x0 x1 x2 x4 x4

)
) else none) else none
)

set_option maxRecDepth 20000 in
set_option maxHeartbeats 4000000 in
theorem f_Water_owed_b68_ok {l : Launch} {X : Nat × (Nat → Int32)} (hst : l.stackTraces = false) {d : Nat} (hd : 1 ≤ d)   {k32 : Hp → Nat → Int32 → Int32 → Int32 → Int32 → Option ((Int32 ⊕ Nat) × Hp)} (hk32 : ∀ (h : Hp) (x0 : Nat) (x1 : Int32) (x2 : Int32) (x3 : Int32) (x4 : Int32)  (r : (Int32 ⊕ Nat) × Hp), k32 h x0 x1 x2 x3 x4 = some r → Rn l X mX10_owed d 32 [(0, .ref x0), (1, .int x1), (2, .int x2), (3, .int x3), (4, .int x4)] [] h (xI r) r.2) {h : Hp} {x0 : Nat} {x1 : Int32} {x2 : Int32} {x3 : Int32} {x4 : Int32} {s0 : Int32} {r : (Int32 ⊕ Nat) × Hp} (E : f_Water_owed_b68  k32 h x0 x1 x2 x3 x4 s0 = some r) : Rn l X mX10_owed d 68 [(0, .ref x0), (1, .int x1), (2, .int x2), (3, .int x3), (4, .int x4)] [.int s0] h (xI r) r.2 := by
  unfold f_Water_owed_b68 at E
  refine Rn.istore (pc' := 70) (L' := [(5, .int s0), (0, .ref x0), (1, .int x1), (2, .int x2), (3, .int x3), (4, .int x4)]) dX10_owed_68 (by decide) rfl rfl ?_
  refine Rn.iload (pc' := 72) dX10_owed_70 0 rfl rfl ?_
  refine Rn.if_eq (pc' := 75) (tgt := 92) dX10_owed_72 (by decide) rfl (fun c1 => ?_) (fun c1 => ?_)
  · replace E := (if_of E).1 c1
    refine Rn.sub [1, 2, 3, 4, 5] rfl ?_
    exact f_Water_owed_b92_ok hst hd  hk32 E
  · replace E := (if_of E).2 c1
    refine Rn.aload_n (pc' := 76) dX10_owed_75 rfl 1 rfl rfl ?_
    obtain ⟨g2, E⟩ := gd_of E
    refine Rn.getR (pc' := 79) fl_X10_42_9 g2 rfl dX10_owed_76 rfl ?_
    refine Rn.iload_n (pc' := 80) dX10_owed_79 rfl 2 rfl rfl ?_
    refine Rn.iload (pc' := 82) dX10_owed_80 5 rfl rfl ?_
    obtain ⟨g3, E⟩ := gd_of E
    obtain ⟨v4, h5, e6, E⟩ := bI_of E
    refine Rn.callV1 (pc' := 85) (As := [.int x1, .int x4]) (rest := []) (f_Land_measuresOf_ok hst e6) (Nat.le_trans (by decide) hd) rfl kb_X10_306 ki_X3_measuresOf rfl g3 rfl rfl (Nat.le_of_ble_eq_true rfl) dX10_owed_82 rfl rfl ?_
    refine Rn.iload_n (pc' := 86) dX10_owed_85 rfl 3 rfl rfl ?_
    refine Rn.icmp_lt (pc' := 89) (tgt := 92) dX10_owed_86 (by decide) rfl (fun c7 => ?_) (fun c7 => ?_)
    · replace E := (if_of E).1 c7
      refine Rn.sub [1, 2, 3, 4, 5] rfl ?_
      exact f_Water_owed_b92_ok hst hd  hk32 E
    · replace E := (if_of E).2 c7
      refine Rn.iload (pc' := 91) dX10_owed_89 5 rfl rfl ?_
      refine Rn.istore_n (pc' := 92) (L' := [(3, .int x4), (5, .int s0), (0, .ref x0), (1, .int x1), (2, .int x2), (4, .int x4)]) dX10_owed_91 rfl (by decide) rfl rfl ?_
      refine Rn.sub [2, 3, 4, 0, 5] rfl ?_
      exact f_Water_owed_b92_ok hst hd  hk32 E
def f_Water_owed_b63  (k32 : Hp → Nat → Int32 → Int32 → Int32 → Int32 → Option ((Int32 ⊕ Nat) × Hp)) (h : Hp) (x0 : Nat) (x1 : Int32) (x2 : Int32) (x3 : Int32) (x4 : Int32)  : Option ((Int32 ⊕ Nat) × Hp) :=
f_Water_owed_b68  k32 h x0 x1 x2 x3 x4 (1 : Int32)

set_option maxRecDepth 20000 in
set_option maxHeartbeats 4000000 in
theorem f_Water_owed_b63_ok {l : Launch} {X : Nat × (Nat → Int32)} (hst : l.stackTraces = false) {d : Nat} (hd : 1 ≤ d)   {k32 : Hp → Nat → Int32 → Int32 → Int32 → Int32 → Option ((Int32 ⊕ Nat) × Hp)} (hk32 : ∀ (h : Hp) (x0 : Nat) (x1 : Int32) (x2 : Int32) (x3 : Int32) (x4 : Int32)  (r : (Int32 ⊕ Nat) × Hp), k32 h x0 x1 x2 x3 x4 = some r → Rn l X mX10_owed d 32 [(0, .ref x0), (1, .int x1), (2, .int x2), (3, .int x3), (4, .int x4)] [] h (xI r) r.2) {h : Hp} {x0 : Nat} {x1 : Int32} {x2 : Int32} {x3 : Int32} {x4 : Int32}  {r : (Int32 ⊕ Nat) × Hp} (E : f_Water_owed_b63  k32 h x0 x1 x2 x3 x4 = some r) : Rn l X mX10_owed d 63 [(0, .ref x0), (1, .int x1), (2, .int x2), (3, .int x3), (4, .int x4)] [] h (xI r) r.2 := by
  unfold f_Water_owed_b63 at E
  refine Rn.iconst (pc' := 64) (v := (1 : Int32)) (hv := by decide) dX10_owed_63 rfl ?_
  refine Rn.goto (pc' := 68) dX10_owed_64 (by decide) ?_
  exact f_Water_owed_b68_ok hst hd  hk32 E
theorem kb_X10_301 : KB RX10 301 yJ6_bitCount_0f7a4 mJ6_bitCount_0f7a4 1 := ⟨gw_at 1345 (by decide +kernel) (by decide +kernel), gw_at 133 (by decide +kernel) (by decide +kernel), trivial, ws_J6_bitCount_0f7a4, by decide +kernel, by decide +kernel, by decide +kernel, by decide⟩
theorem ks_J6_bitCount_0f7a4 : Cond.static yJ6_bitCount_0f7a4 ∈ gw := gw_at 1346 (by decide +kernel) (by decide +kernel)
def f_Water_owed_b32  (k32 : Hp → Nat → Int32 → Int32 → Int32 → Int32 → Option ((Int32 ⊕ Nat) × Hp)) (h : Hp) (x0 : Nat) (x1 : Int32) (x2 : Int32) (x3 : Int32) (x4 : Int32)  : Option ((Int32 ⊕ Nat) × Hp) :=
if hS h x0 = 10 then (
if hS h (hR h x0 4) = 4 then (
if (jshl (1 : Int32) (hI h (hR h x0 4) 0)) ≤ x4 then (
some (.inl x3, h)

) else (
if x3 = (-1 : Int32) then (
f_Water_owed_b63  k32 h x0 x1 x2 x3 x4

) else (
bI (f_Integer_bitCount h x4) fun v5 h6 =>
bI (f_Integer_bitCount h6 x3) fun v8 h9 =>
if v8 ≤ v5 then (
f_Water_owed_b68  k32 h9 x0 x1 x2 x3 x4 (0 : Int32)

) else (
f_Water_owed_b63  k32 h9 x0 x1 x2 x3 x4

)

)

)
) else none) else none
set_option maxRecDepth 20000 in
set_option maxHeartbeats 4000000 in
theorem f_Water_owed_b32_ok {l : Launch} {X : Nat × (Nat → Int32)} (hst : l.stackTraces = false) {d : Nat} (hd : 1 ≤ d)   {k32 : Hp → Nat → Int32 → Int32 → Int32 → Int32 → Option ((Int32 ⊕ Nat) × Hp)} (hk32 : ∀ (h : Hp) (x0 : Nat) (x1 : Int32) (x2 : Int32) (x3 : Int32) (x4 : Int32)  (r : (Int32 ⊕ Nat) × Hp), k32 h x0 x1 x2 x3 x4 = some r → Rn l X mX10_owed d 32 [(0, .ref x0), (1, .int x1), (2, .int x2), (3, .int x3), (4, .int x4)] [] h (xI r) r.2) {h : Hp} {x0 : Nat} {x1 : Int32} {x2 : Int32} {x3 : Int32} {x4 : Int32}  {r : (Int32 ⊕ Nat) × Hp} (E : f_Water_owed_b32  k32 h x0 x1 x2 x3 x4 = some r) : Rn l X mX10_owed d 32 [(0, .ref x0), (1, .int x1), (2, .int x2), (3, .int x3), (4, .int x4)] [] h (xI r) r.2 := by
  unfold f_Water_owed_b32 at E
  refine Rn.iload (pc' := 34) dX10_owed_32 4 rfl rfl ?_
  refine Rn.iconst (pc' := 35) (v := (1 : Int32)) (hv := by decide) dX10_owed_34 rfl ?_
  refine Rn.aload_n (pc' := 36) dX10_owed_35 rfl 0 rfl rfl ?_
  obtain ⟨g1, E⟩ := gd_of E
  refine Rn.getR (pc' := 39) fl_X10_42_9 g1 rfl dX10_owed_36 rfl ?_
  obtain ⟨g2, E⟩ := gd_of E
  refine Rn.getI (pc' := 42) fl_X10_73_3 g2 rfl dX10_owed_39 rfl ?_
  refine Rn.ishl (pc' := 43) dX10_owed_42 rfl ?_
  refine Rn.icmp_ge (pc' := 46) (tgt := 98) dX10_owed_43 (by decide) rfl (fun c3 => ?_) (fun c3 => ?_)
  · replace E := (if_of E).1 c3
    refine Rn.iload_n (pc' := 99) dX10_owed_98 rfl 3 rfl rfl ?_
    cases E
    exact Rn.zret rfl rfl dX10_owed_99
  · replace E := (if_of E).2 c3
    refine Rn.iload_n (pc' := 47) dX10_owed_46 rfl 3 rfl rfl ?_
    refine Rn.iconst (pc' := 48) (v := (-1 : Int32)) (hv := by decide) dX10_owed_47 rfl ?_
    refine Rn.icmp_eq (pc' := 51) (tgt := 63) dX10_owed_48 (by decide) rfl (fun c4 => ?_) (fun c4 => ?_)
    · replace E := (if_of E).1 c4
      exact f_Water_owed_b63_ok hst hd  hk32 E
    · replace E := (if_of E).2 c4
      refine Rn.iload (pc' := 53) dX10_owed_51 4 rfl rfl ?_
      obtain ⟨v5, h6, e7, E⟩ := bI_of E
      refine Rn.callS1 (pc' := 56) (As := [.int x4]) (rest := []) (f_Integer_bitCount_ok hst e7) (Nat.le_trans (by decide) hd) rfl kb_X10_301 ks_J6_bitCount_0f7a4 rfl rfl (Nat.le_of_ble_eq_true rfl) dX10_owed_53 rfl rfl ?_
      refine Rn.iload_n (pc' := 57) dX10_owed_56 rfl 3 rfl rfl ?_
      obtain ⟨v8, h9, e10, E⟩ := bI_of E
      refine Rn.callS1 (pc' := 60) (As := [.int x3]) (rest := [.int v5]) (f_Integer_bitCount_ok hst e10) (Nat.le_trans (by decide) hd) rfl kb_X10_301 ks_J6_bitCount_0f7a4 rfl rfl (Nat.le_of_ble_eq_true rfl) dX10_owed_57 rfl rfl ?_
      refine Rn.icmp_ge (pc' := 63) (tgt := 67) dX10_owed_60 (by decide) rfl (fun c11 => ?_) (fun c11 => ?_)
      · replace E := (if_of E).1 c11
        refine Rn.iconst (pc' := 68) (v := (0 : Int32)) (hv := by decide) dX10_owed_67 rfl ?_
        exact f_Water_owed_b68_ok hst hd  hk32 E
      · replace E := (if_of E).2 c11
        exact f_Water_owed_b63_ok hst hd  hk32 E
def f_Water_owed_L32   (n : Nat) : Hp → Nat → Int32 → Int32 → Int32 → Int32 → Option ((Int32 ⊕ Nat) × Hp) := Nat.rec (motive := fun _ => Hp → Nat → Int32 → Int32 → Int32 → Int32 → Option ((Int32 ⊕ Nat) × Hp)) (fun _ _ _ _ _ _ => none) (fun _ rec => f_Water_owed_b32   rec) n
theorem f_Water_owed_L32_ok {l : Launch} {X : Nat × (Nat → Int32)} (hst : l.stackTraces = false) {d : Nat} (hd : 1 ≤ d)     : ∀ (n : Nat) (h : Hp) (x0 : Nat) (x1 : Int32) (x2 : Int32) (x3 : Int32) (x4 : Int32)  (r : (Int32 ⊕ Nat) × Hp), f_Water_owed_L32   n h x0 x1 x2 x3 x4 = some r → Rn l X mX10_owed d 32 [(0, .ref x0), (1, .int x1), (2, .int x2), (3, .int x3), (4, .int x4)] [] h (xI r) r.2 := by
  intro n
  induction n with
  | zero => intro h x0 x1 x2 x3 x4 r E; cases E
  | succ n ih => intro h x0 x1 x2 x3 x4 r E; exact f_Water_owed_b32_ok hst hd   ih E
def f_Water_owed_b0   (h : Hp) (x0 : Nat) (x1 : Int32) (x2 : Int32)  : Option ((Int32 ⊕ Nat) × Hp) :=
if hS h x0 = 10 then (
bX (f_Water_needYear h x0 x1) fun _ h3 =>
if x2 < 0 then (
f_Water_owed_b16   h3

) else (
if x2 ≤ (999 : Int32) then (
f_Water_owed_L32   FU h3 x0 x1 x2 (-1 : Int32) (0 : Int32)

) else (
f_Water_owed_b16   h3

)

)
) else none
set_option maxRecDepth 20000 in
set_option maxHeartbeats 4000000 in
theorem f_Water_owed_b0_ok {l : Launch} {X : Nat × (Nat → Int32)} (hst : l.stackTraces = false) {d : Nat} (hd : 1 ≤ d)     {h : Hp} {x0 : Nat} {x1 : Int32} {x2 : Int32}  {r : (Int32 ⊕ Nat) × Hp} (E : f_Water_owed_b0   h x0 x1 x2 = some r) : Rn l X mX10_owed d 0 [(0, .ref x0), (1, .int x1), (2, .int x2)] [] h (xI r) r.2 := by
  unfold f_Water_owed_b0 at E
  refine Rn.aload_n (pc' := 1) dX10_owed_0 rfl 0 rfl rfl ?_
  refine Rn.iload_n (pc' := 2) dX10_owed_1 rfl 1 rfl rfl ?_
  obtain ⟨g1, E⟩ := gd_of E
  rcases bX_of E with ⟨u_, h3, e4, E⟩ | ⟨x_, h3, e4, rfl⟩
  rotate_left
  · exact Rn.callVX (As := [.int x1]) (rest := []) (f_Water_needYear_ok hst e4) (Nat.le_trans (by decide) hd) rfl kb_X10_160 ki_X10_needYear rfl g1 rfl rfl (Nat.le_of_ble_eq_true rfl) dX10_owed_2 (RnX.out (by decide))
  refine Rn.callV1 (pc' := 5) (As := [.int x1]) (rest := []) (f_Water_needYear_ok hst e4) (Nat.le_trans (by decide) hd) rfl kb_X10_160 ki_X10_needYear rfl g1 rfl rfl (Nat.le_of_ble_eq_true rfl) dX10_owed_2 rfl rfl ?_
  refine Rn.iload_n (pc' := 6) dX10_owed_5 rfl 2 rfl rfl ?_
  refine Rn.if_lt (pc' := 9) (tgt := 16) dX10_owed_6 (by decide) rfl (fun c5 => ?_) (fun c5 => ?_)
  · replace E := (if_of E).1 c5
    refine Rn.sub [] rfl ?_
    exact f_Water_owed_b16_ok hst hd   E
  · replace E := (if_of E).2 c5
    refine Rn.iload_n (pc' := 10) dX10_owed_9 rfl 2 rfl rfl ?_
    refine Rn.sipush (pc' := 13) (v := (999 : Int32)) (hv := by decide) dX10_owed_10 rfl ?_
    refine Rn.icmp_le (pc' := 16) (tgt := 27) dX10_owed_13 (by decide) rfl (fun c6 => ?_) (fun c6 => ?_)
    · replace E := (if_of E).1 c6
      refine Rn.iconst (pc' := 28) (v := (-1 : Int32)) (hv := by decide) dX10_owed_27 rfl ?_
      refine Rn.istore_n (pc' := 29) (L' := [(3, .int (-1 : Int32)), (0, .ref x0), (1, .int x1), (2, .int x2)]) dX10_owed_28 rfl (by decide) rfl rfl ?_
      refine Rn.iconst (pc' := 30) (v := (0 : Int32)) (hv := by decide) dX10_owed_29 rfl ?_
      refine Rn.istore (pc' := 32) (L' := [(4, .int (0 : Int32)), (3, .int (-1 : Int32)), (0, .ref x0), (1, .int x1), (2, .int x2)]) dX10_owed_30 (by decide) rfl rfl ?_
      refine Rn.sub [2, 3, 4, 1, 0] rfl ?_
      exact f_Water_owed_L32_ok hst hd   FU _ _ _ _ _ _ _ E
    · replace E := (if_of E).2 c6
      refine Rn.sub [] rfl ?_
      exact f_Water_owed_b16_ok hst hd   E
def f_Water_owed (h : Hp) (x0 : Nat) (x1 : Int32) (x2 : Int32) : Option ((Int32 ⊕ Nat) × Hp) := f_Water_owed_b0  h x0 x1 x2
theorem f_Water_owed_ok {l : Launch} {X : Nat × (Nat → Int32)} (hst : l.stackTraces = false) {h : Hp} {x0 : Nat} {x1 : Int32} {x2 : Int32} {r : (Int32 ⊕ Nat) × Hp} (E : f_Water_owed h x0 x1 x2 = some r) : MC l X yX10_owed mX10_owed 1 [.ref x0, .int x1, .int x2] h (xI r) r.2 :=
  MC.body (by decide +kernel) rfl (by decide) hst (Nat.le_of_ble_eq_true rfl) (f_Water_owed_b0_ok hst (Nat.le_refl _) E)
abbrev mL_owed : MI := (RL, cL_owed, 5, (some Jvm.ClassFile.FieldType.int), [(0, 10, 13, 24), (0, 10, 17, 13)], false)
theorem ws_L_owed : ∀ w ∈ wsM yL_owed mL_owed, w ∈ gw := List.forall_mem_cons.mpr ⟨gw_at 1339 (by decide +kernel) (by decide +kernel), fun _ h => h⟩
theorem kb_L_77 : KB RL 77 yX10_owed mX10_owed 2 := ⟨gw_at 1340 (by decide +kernel) (by decide +kernel), gw_at 107 (by decide +kernel) (by decide +kernel), trivial, ws_X10_owed, by decide +kernel, by decide +kernel, by decide +kernel, by decide⟩
theorem ki_X10_owed : Cond.instanceMethod yX10_owed ∈ gw ∧ Cond.selects yX10_owed.cls yX10_owed yX10_owed ∈ gw := ⟨gw_at 1341 (by decide +kernel) (by decide +kernel), gw_at 1342 (by decide +kernel) (by decide +kernel)⟩
def f_Lw_owed_b0   (h : Hp) (x0 : Nat) (x1 : Int32) (x2 : Int32) (x3 : Nat)  : Option (Int32 × Hp) :=
if hS h x0 = 10 then (
bC (f_Water_owed h x0 x1 x2) (fun v2 h3 =>
if hS h3 x3 = 22 then (
if ib (0 : Int32) (hL h3 x3) = true then (
wr (sJ h3 x3 (ix (0 : Int32)) (Int32.toInt64 v2)) fun h7 =>
some ((0 : Int32), h7)
) else none) else none
) (fun x_ h3 =>
if x_ = 1 then (
some ((1 : Int32), h3)

) else (
if x_ = 2 then (
some ((2 : Int32), h3)

) else (
none)))
) else none
set_option maxRecDepth 20000 in
set_option maxHeartbeats 4000000 in
theorem f_Lw_owed_b0_ok {l : Launch} {X : Nat × (Nat → Int32)} (hst : l.stackTraces = false) {d : Nat} (hd : 2 ≤ d)     {h : Hp} {x0 : Nat} {x1 : Int32} {x2 : Int32} {x3 : Nat}  {r : Int32 × Hp} (E : f_Lw_owed_b0   h x0 x1 x2 x3 = some r) : Rn l X mL_owed d 0 [(0, .ref x0), (1, .int x1), (2, .int x2), (3, .ref x3)] [] h (eI r) r.2 := by
  unfold f_Lw_owed_b0 at E
  refine Rn.aload_n (pc' := 1) dL_owed_0 rfl 3 rfl rfl ?_
  refine Rn.iconst (pc' := 2) (v := (0 : Int32)) (hv := by decide) dL_owed_1 rfl ?_
  refine Rn.aload_n (pc' := 3) dL_owed_2 rfl 0 rfl rfl ?_
  refine Rn.iload_n (pc' := 4) dL_owed_3 rfl 1 rfl rfl ?_
  refine Rn.iload_n (pc' := 5) dL_owed_4 rfl 2 rfl rfl ?_
  obtain ⟨g1, E⟩ := gd_of E
  rcases bC_of E with ⟨v2, h3, e4, E⟩ | ⟨x_, h3, e4, E⟩
  · refine Rn.callV1 (pc' := 8) (As := [.int x1, .int x2]) (rest := [.int (0 : Int32), .ref x3]) (f_Water_owed_ok hst e4) (Nat.le_trans (by decide) hd) rfl kb_L_77 ki_X10_owed rfl g1 rfl rfl (Nat.le_of_ble_eq_true rfl) dL_owed_5 rfl rfl ?_
    refine Rn.i2l (pc' := 9) dL_owed_8 rfl ?_
    obtain ⟨g5, E⟩ := gd_of E
    obtain ⟨g6, E⟩ := gd_of E
    refine Rn.last (pc' := 10) g5 g6 dL_owed_9 rfl ?_
    replace E := wr_of E
    generalize eh8 : sJ h3 x3 (ix (0 : Int32)) (Int32.toInt64 v2) = h7 at E ⊢
    refine Rn.goto (pc' := 21) dL_owed_10 (by decide) ?_
    refine Rn.iconst (pc' := 22) (v := (0 : Int32)) (hv := by decide) dL_owed_21 rfl ?_
    cases E
    exact Rn.zret rfl rfl dL_owed_22
  · refine Rn.callVX (As := [.int x1, .int x2]) (rest := [.int (0 : Int32), .ref x3]) (f_Water_owed_ok hst e4) (Nat.le_trans (by decide) hd) rfl kb_L_77 ki_X10_owed rfl g1 rfl rfl (Nat.le_of_ble_eq_true rfl) dL_owed_5 ?_
    by_cases c9 : x_ = 1
    · replace E := (if_of E).1 c9
      subst c9
      refine RnX.catch (x := 1) (i := 4) (pch := 15) 0 rfl (pre0) (by decide) (by decide) kk_L_24 (by decide) (Or.inr ⟨dL_owed_13, rfl⟩) (by decide) ?_
      change Rn _ _ _ _ _ [(0, .ref x0), (1, .int x1), (2, .int x2), (3, .ref x3)] _ _ _ _
      refine Rn.iconst (pc' := 16) (v := (1 : Int32)) (hv := by decide) dL_owed_15 rfl ?_
      cases E
      exact Rn.zret rfl rfl dL_owed_16
    replace E := (if_of E).2 c9
    by_cases c10 : x_ = 2
    · replace E := (if_of E).1 c10
      subst c10
      refine RnX.catch (x := 2) (i := 4) (pch := 19) 1 rfl (pre1 (Or.inr ⟨by decide, _, kk_L_24, by decide⟩)) (by decide) (by decide) kk_L_13 (by decide) (Or.inr ⟨dL_owed_17, rfl⟩) (by decide) ?_
      change Rn _ _ _ _ _ [(0, .ref x0), (1, .int x1), (2, .int x2), (3, .ref x3)] _ _ _ _
      refine Rn.iconst (pc' := 20) (v := (2 : Int32)) (hv := by decide) dL_owed_19 rfl ?_
      cases E
      exact Rn.zret rfl rfl dL_owed_20
    replace E := (if_of E).2 c10
    cases E
def f_Lw_owed (h : Hp) (x0 : Nat) (x1 : Int32) (x2 : Int32) (x3 : Nat) : Option (Int32 × Hp) := f_Lw_owed_b0  h x0 x1 x2 x3
theorem f_Lw_owed_ok {l : Launch} {X : Nat × (Nat → Int32)} (hst : l.stackTraces = false) {h : Hp} {x0 : Nat} {x1 : Int32} {x2 : Int32} {x3 : Nat} {r : Int32 × Hp} (E : f_Lw_owed h x0 x1 x2 x3 = some r) : MC l X yL_owed mL_owed 2 [.ref x0, .int x1, .int x2, .ref x3] h (eI r) r.2 :=
  MC.body (by decide +kernel) rfl (by decide) hst (Nat.le_of_ble_eq_true rfl) (f_Lw_owed_b0_ok hst (Nat.le_refl _) E)
abbrev mX11_owed : MI := (RX11, cX11_owed, 7, (some Jvm.ClassFile.FieldType.int), [], false)
theorem ws_X11_owed : ∀ w ∈ wsM yX11_owed mX11_owed, w ∈ gw := List.forall_mem_cons.mpr ⟨gw_at 1896 (by decide +kernel) (by decide +kernel), fun _ h => h⟩
def f_Model_owed_b98  (k65 : Hp → Nat → Int32 → Int32 → Int32 → Int32 → Int32 → Int32 → Option (Int32 × Hp)) (h : Hp) (x0 : Nat) (x1 : Int32) (x2 : Int32) (x3 : Int32) (x4 : Int32) (x6 : Int32) (s0 : Int32) (s1 : Int32) : Option (Int32 × Hp) :=
k65 h x0 x1 x2 x3 x4 (s0 + s1) (x6 + (1 : Int32))

set_option maxRecDepth 20000 in
set_option maxHeartbeats 4000000 in
theorem f_Model_owed_b98_ok {l : Launch} {X : Nat × (Nat → Int32)} (hst : l.stackTraces = false) {d : Nat} (hd : 2 ≤ d)   {k65 : Hp → Nat → Int32 → Int32 → Int32 → Int32 → Int32 → Int32 → Option (Int32 × Hp)} (hk65 : ∀ (h : Hp) (x0 : Nat) (x1 : Int32) (x2 : Int32) (x3 : Int32) (x4 : Int32) (x5 : Int32) (x6 : Int32)  (r : Int32 × Hp), k65 h x0 x1 x2 x3 x4 x5 x6 = some r → Rn l X mX11_owed d 65 [(0, .ref x0), (1, .int x1), (2, .int x2), (3, .int x3), (4, .int x4), (5, .int x5), (6, .int x6)] [] h (eI r) r.2) {h : Hp} {x0 : Nat} {x1 : Int32} {x2 : Int32} {x3 : Int32} {x4 : Int32} {x6 : Int32} {s0 : Int32} {s1 : Int32} {r : Int32 × Hp} (E : f_Model_owed_b98  k65 h x0 x1 x2 x3 x4 x6 s0 s1 = some r) : Rn l X mX11_owed d 98 [(0, .ref x0), (1, .int x1), (2, .int x2), (3, .int x3), (4, .int x4), (6, .int x6)] [.int s1, .int s0] h (eI r) r.2 := by
  unfold f_Model_owed_b98 at E
  refine Rn.iadd (pc' := 99) dX11_owed_98 rfl ?_
  refine Rn.istore (pc' := 101) (L' := [(5, .int (s0 + s1)), (0, .ref x0), (1, .int x1), (2, .int x2), (3, .int x3), (4, .int x4), (6, .int x6)]) dX11_owed_99 (by decide) rfl rfl ?_
  refine Rn.iinc (pc' := 104) (v := (x6 + (1 : Int32))) (L' := [(6, .int (x6 + (1 : Int32))), (5, .int (s0 + s1)), (0, .ref x0), (1, .int x1), (2, .int x2), (3, .int x3), (4, .int x4)]) dX11_owed_101 6 rfl rfl (by decide) rfl rfl ?_
  refine Rn.goto (pc' := 65) dX11_owed_104 (by decide) ?_
  refine Rn.sub [2, 3, 4, 5, 6, 1, 0] rfl ?_
  exact hk65 _ _ _ _ _ _ _ _ _ E
def f_Model_owed_b132  (k48 : Hp → Nat → Int32 → Int32 → Int32 → Int32 → Option (Int32 × Hp)) (h : Hp) (x0 : Nat) (x1 : Int32) (x2 : Int32) (x3 : Int32) (x4 : Int32)  : Option (Int32 × Hp) :=
k48 h x0 x1 x2 x3 (x4 + (1 : Int32))

set_option maxRecDepth 20000 in
set_option maxHeartbeats 4000000 in
theorem f_Model_owed_b132_ok {l : Launch} {X : Nat × (Nat → Int32)} (hst : l.stackTraces = false) {d : Nat} (hd : 2 ≤ d)   {k48 : Hp → Nat → Int32 → Int32 → Int32 → Int32 → Option (Int32 × Hp)} (hk48 : ∀ (h : Hp) (x0 : Nat) (x1 : Int32) (x2 : Int32) (x3 : Int32) (x4 : Int32)  (r : Int32 × Hp), k48 h x0 x1 x2 x3 x4 = some r → Rn l X mX11_owed d 48 [(0, .ref x0), (1, .int x1), (2, .int x2), (3, .int x3), (4, .int x4)] [] h (eI r) r.2) {h : Hp} {x0 : Nat} {x1 : Int32} {x2 : Int32} {x3 : Int32} {x4 : Int32}  {r : Int32 × Hp} (E : f_Model_owed_b132  k48 h x0 x1 x2 x3 x4 = some r) : Rn l X mX11_owed d 132 [(0, .ref x0), (1, .int x1), (2, .int x2), (3, .int x3), (4, .int x4)] [] h (eI r) r.2 := by
  unfold f_Model_owed_b132 at E
  refine Rn.iinc (pc' := 135) (v := (x4 + (1 : Int32))) (L' := [(4, .int (x4 + (1 : Int32))), (0, .ref x0), (1, .int x1), (2, .int x2), (3, .int x3)]) dX11_owed_132 4 rfl rfl (by decide) rfl rfl ?_
  refine Rn.goto (pc' := 48) dX11_owed_135 (by decide) ?_
  refine Rn.sub [1, 2, 3, 4, 0] rfl ?_
  exact hk48 _ _ _ _ _ _ _ E
def f_Model_owed_b129  (k48 : Hp → Nat → Int32 → Int32 → Int32 → Int32 → Option (Int32 × Hp)) (h : Hp) (x0 : Nat) (x1 : Int32) (x2 : Int32) (x4 : Int32)  : Option (Int32 × Hp) :=
f_Model_owed_b132  k48 h x0 x1 x2 x4 x4

set_option maxRecDepth 20000 in
set_option maxHeartbeats 4000000 in
theorem f_Model_owed_b129_ok {l : Launch} {X : Nat × (Nat → Int32)} (hst : l.stackTraces = false) {d : Nat} (hd : 2 ≤ d)   {k48 : Hp → Nat → Int32 → Int32 → Int32 → Int32 → Option (Int32 × Hp)} (hk48 : ∀ (h : Hp) (x0 : Nat) (x1 : Int32) (x2 : Int32) (x3 : Int32) (x4 : Int32)  (r : Int32 × Hp), k48 h x0 x1 x2 x3 x4 = some r → Rn l X mX11_owed d 48 [(0, .ref x0), (1, .int x1), (2, .int x2), (3, .int x3), (4, .int x4)] [] h (eI r) r.2) {h : Hp} {x0 : Nat} {x1 : Int32} {x2 : Int32} {x4 : Int32}  {r : Int32 × Hp} (E : f_Model_owed_b129  k48 h x0 x1 x2 x4 = some r) : Rn l X mX11_owed d 129 [(0, .ref x0), (1, .int x1), (2, .int x2), (4, .int x4)] [] h (eI r) r.2 := by
  unfold f_Model_owed_b129 at E
  refine Rn.iload (pc' := 131) dX11_owed_129 3 rfl rfl ?_
  refine Rn.istore_n (pc' := 132) (L' := [(3, .int x4), (0, .ref x0), (1, .int x1), (2, .int x2), (4, .int x4)]) dX11_owed_131 rfl (by decide) rfl rfl ?_
  refine Rn.sub [1, 2, 3, 0, 4] rfl ?_
  exact f_Model_owed_b132_ok hst hd  hk48 E
theorem kb_X11_351 : KB RX11 351 yJ6_bitCount_0f7a4 mJ6_bitCount_0f7a4 1 := ⟨gw_at 1897 (by decide +kernel) (by decide +kernel), gw_at 133 (by decide +kernel) (by decide +kernel), trivial, ws_J6_bitCount_0f7a4, by decide +kernel, by decide +kernel, by decide +kernel, by decide⟩
def f_Model_owed_b65  (k48 : Hp → Nat → Int32 → Int32 → Int32 → Int32 → Option (Int32 × Hp)) (k65 : Hp → Nat → Int32 → Int32 → Int32 → Int32 → Int32 → Int32 → Option (Int32 × Hp)) (h : Hp) (x0 : Nat) (x1 : Int32) (x2 : Int32) (x3 : Int32) (x4 : Int32) (x5 : Int32) (x6 : Int32)  : Option (Int32 × Hp) :=
if hS h x0 = 11 then (
bI (f_Model_cisterns h x0) fun v2 h3 =>
if v2 ≤ x6 then (
if x5 < x2 then (
f_Model_owed_b132  k48 h3 x0 x1 x2 x3 x4

) else (
if x3 < 0 then (
f_Model_owed_b129  k48 h3 x0 x1 x2 x4

) else (
bI (f_Integer_bitCount h3 x4) fun v8 h9 =>
bI (f_Integer_bitCount h9 x3) fun v11 h12 =>
if v11 ≤ v8 then (
f_Model_owed_b132  k48 h12 x0 x1 x2 x3 x4

) else (
f_Model_owed_b129  k48 h12 x0 x1 x2 x4

)

)

)

) else (
if ((jshr x4 x6) &&& (1 : Int32)) = (1 : Int32) then (
if hS h3 x0 = 11 then (
bI (f_Model_layerOf h3 x0 x6 x1) fun v17 h18 =>
f_Model_owed_b98  k65 h18 x0 x1 x2 x3 x4 x6 x5 v17
) else none
) else (
f_Model_owed_b98  k65 h3 x0 x1 x2 x3 x4 x6 x5 (0 : Int32)

)

)
) else none
set_option maxRecDepth 20000 in
set_option maxHeartbeats 4000000 in
theorem f_Model_owed_b65_ok {l : Launch} {X : Nat × (Nat → Int32)} (hst : l.stackTraces = false) {d : Nat} (hd : 2 ≤ d)   {k48 : Hp → Nat → Int32 → Int32 → Int32 → Int32 → Option (Int32 × Hp)} {k65 : Hp → Nat → Int32 → Int32 → Int32 → Int32 → Int32 → Int32 → Option (Int32 × Hp)} (hk48 : ∀ (h : Hp) (x0 : Nat) (x1 : Int32) (x2 : Int32) (x3 : Int32) (x4 : Int32)  (r : Int32 × Hp), k48 h x0 x1 x2 x3 x4 = some r → Rn l X mX11_owed d 48 [(0, .ref x0), (1, .int x1), (2, .int x2), (3, .int x3), (4, .int x4)] [] h (eI r) r.2) (hk65 : ∀ (h : Hp) (x0 : Nat) (x1 : Int32) (x2 : Int32) (x3 : Int32) (x4 : Int32) (x5 : Int32) (x6 : Int32)  (r : Int32 × Hp), k65 h x0 x1 x2 x3 x4 x5 x6 = some r → Rn l X mX11_owed d 65 [(0, .ref x0), (1, .int x1), (2, .int x2), (3, .int x3), (4, .int x4), (5, .int x5), (6, .int x6)] [] h (eI r) r.2) {h : Hp} {x0 : Nat} {x1 : Int32} {x2 : Int32} {x3 : Int32} {x4 : Int32} {x5 : Int32} {x6 : Int32}  {r : Int32 × Hp} (E : f_Model_owed_b65  k48 k65 h x0 x1 x2 x3 x4 x5 x6 = some r) : Rn l X mX11_owed d 65 [(0, .ref x0), (1, .int x1), (2, .int x2), (3, .int x3), (4, .int x4), (5, .int x5), (6, .int x6)] [] h (eI r) r.2 := by
  unfold f_Model_owed_b65 at E
  refine Rn.iload (pc' := 67) dX11_owed_65 6 rfl rfl ?_
  refine Rn.aload_n (pc' := 68) dX11_owed_67 rfl 0 rfl rfl ?_
  obtain ⟨g1, E⟩ := gd_of E
  obtain ⟨v2, h3, e4, E⟩ := bI_of E
  refine Rn.callV1 (pc' := 71) (As := []) (rest := [.int x6]) (f_Model_cisterns_ok hst e4) (Nat.le_trans (by decide) hd) rfl kb_X11_52 ki_X11_cisterns rfl g1 rfl rfl (Nat.le_of_ble_eq_true rfl) dX11_owed_68 rfl rfl ?_
  refine Rn.icmp_ge (pc' := 74) (tgt := 107) dX11_owed_71 (by decide) rfl (fun c5 => ?_) (fun c5 => ?_)
  · replace E := (if_of E).1 c5
    refine Rn.iload (pc' := 109) dX11_owed_107 5 rfl rfl ?_
    refine Rn.iload_n (pc' := 110) dX11_owed_109 rfl 2 rfl rfl ?_
    refine Rn.icmp_lt (pc' := 113) (tgt := 132) dX11_owed_110 (by decide) rfl (fun c6 => ?_) (fun c6 => ?_)
    · replace E := (if_of E).1 c6
      refine Rn.sub [0, 1, 2, 3, 4] rfl ?_
      exact f_Model_owed_b132_ok hst hd  hk48 E
    · replace E := (if_of E).2 c6
      refine Rn.iload_n (pc' := 114) dX11_owed_113 rfl 3 rfl rfl ?_
      refine Rn.if_lt (pc' := 117) (tgt := 129) dX11_owed_114 (by decide) rfl (fun c7 => ?_) (fun c7 => ?_)
      · replace E := (if_of E).1 c7
        refine Rn.sub [0, 1, 2, 4] rfl ?_
        exact f_Model_owed_b129_ok hst hd  hk48 E
      · replace E := (if_of E).2 c7
        refine Rn.iload (pc' := 119) dX11_owed_117 4 rfl rfl ?_
        obtain ⟨v8, h9, e10, E⟩ := bI_of E
        refine Rn.callS1 (pc' := 122) (As := [.int x4]) (rest := []) (f_Integer_bitCount_ok hst e10) (Nat.le_trans (by decide) hd) rfl kb_X11_351 ks_J6_bitCount_0f7a4 rfl rfl (Nat.le_of_ble_eq_true rfl) dX11_owed_119 rfl rfl ?_
        refine Rn.iload_n (pc' := 123) dX11_owed_122 rfl 3 rfl rfl ?_
        obtain ⟨v11, h12, e13, E⟩ := bI_of E
        refine Rn.callS1 (pc' := 126) (As := [.int x3]) (rest := [.int v8]) (f_Integer_bitCount_ok hst e13) (Nat.le_trans (by decide) hd) rfl kb_X11_351 ks_J6_bitCount_0f7a4 rfl rfl (Nat.le_of_ble_eq_true rfl) dX11_owed_123 rfl rfl ?_
        refine Rn.icmp_ge (pc' := 129) (tgt := 132) dX11_owed_126 (by decide) rfl (fun c14 => ?_) (fun c14 => ?_)
        · replace E := (if_of E).1 c14
          refine Rn.sub [0, 1, 2, 3, 4] rfl ?_
          exact f_Model_owed_b132_ok hst hd  hk48 E
        · replace E := (if_of E).2 c14
          refine Rn.sub [0, 1, 2, 4] rfl ?_
          exact f_Model_owed_b129_ok hst hd  hk48 E
  · replace E := (if_of E).2 c5
    refine Rn.iload (pc' := 76) dX11_owed_74 5 rfl rfl ?_
    refine Rn.iload (pc' := 78) dX11_owed_76 4 rfl rfl ?_
    refine Rn.iload (pc' := 80) dX11_owed_78 6 rfl rfl ?_
    refine Rn.ishr (pc' := 81) dX11_owed_80 rfl ?_
    refine Rn.iconst (pc' := 82) (v := (1 : Int32)) (hv := by decide) dX11_owed_81 rfl ?_
    refine Rn.iand (pc' := 83) dX11_owed_82 rfl ?_
    refine Rn.iconst (pc' := 84) (v := (1 : Int32)) (hv := by decide) dX11_owed_83 rfl ?_
    refine Rn.icmp_ne (pc' := 87) (tgt := 97) dX11_owed_84 (by decide) rfl (fun c15 => ?_) (fun c15 => ?_)
    · replace E := (if_of E).2 c15
      refine Rn.iconst (pc' := 98) (v := (0 : Int32)) (hv := by decide) dX11_owed_97 rfl ?_
      refine Rn.sub [0, 1, 2, 3, 4, 6] rfl ?_
      exact f_Model_owed_b98_ok hst hd  hk65 E
    · replace E := (if_of E).1 c15
      refine Rn.aload_n (pc' := 88) dX11_owed_87 rfl 0 rfl rfl ?_
      refine Rn.iload (pc' := 90) dX11_owed_88 6 rfl rfl ?_
      refine Rn.iload_n (pc' := 91) dX11_owed_90 rfl 1 rfl rfl ?_
      obtain ⟨g16, E⟩ := gd_of E
      obtain ⟨v17, h18, e19, E⟩ := bI_of E
      refine Rn.callV1 (pc' := 94) (As := [.int x6, .int x1]) (rest := [.int x5]) (f_Model_layerOf_ok hst e19) (Nat.le_trans (by decide) hd) rfl kb_X11_72 ki_X11_layerOf rfl g16 rfl rfl (Nat.le_of_ble_eq_true rfl) dX11_owed_91 rfl rfl ?_
      refine Rn.goto (pc' := 98) dX11_owed_94 (by decide) ?_
      refine Rn.sub [0, 1, 2, 3, 4, 6] rfl ?_
      exact f_Model_owed_b98_ok hst hd  hk65 E
def f_Model_owed_L65  (k48 : Hp → Nat → Int32 → Int32 → Int32 → Int32 → Option (Int32 × Hp)) (n : Nat) : Hp → Nat → Int32 → Int32 → Int32 → Int32 → Int32 → Int32 → Option (Int32 × Hp) := Nat.rec (motive := fun _ => Hp → Nat → Int32 → Int32 → Int32 → Int32 → Int32 → Int32 → Option (Int32 × Hp)) (fun _ _ _ _ _ _ _ _ => none) (fun _ rec => f_Model_owed_b65  k48 rec) n
theorem f_Model_owed_L65_ok {l : Launch} {X : Nat × (Nat → Int32)} (hst : l.stackTraces = false) {d : Nat} (hd : 2 ≤ d)   {k48 : Hp → Nat → Int32 → Int32 → Int32 → Int32 → Option (Int32 × Hp)} (hk48 : ∀ (h : Hp) (x0 : Nat) (x1 : Int32) (x2 : Int32) (x3 : Int32) (x4 : Int32)  (r : Int32 × Hp), k48 h x0 x1 x2 x3 x4 = some r → Rn l X mX11_owed d 48 [(0, .ref x0), (1, .int x1), (2, .int x2), (3, .int x3), (4, .int x4)] [] h (eI r) r.2) : ∀ (n : Nat) (h : Hp) (x0 : Nat) (x1 : Int32) (x2 : Int32) (x3 : Int32) (x4 : Int32) (x5 : Int32) (x6 : Int32)  (r : Int32 × Hp), f_Model_owed_L65  k48 n h x0 x1 x2 x3 x4 x5 x6 = some r → Rn l X mX11_owed d 65 [(0, .ref x0), (1, .int x1), (2, .int x2), (3, .int x3), (4, .int x4), (5, .int x5), (6, .int x6)] [] h (eI r) r.2 := by
  intro n
  induction n with
  | zero => intro h x0 x1 x2 x3 x4 x5 x6 r E; cases E
  | succ n ih => intro h x0 x1 x2 x3 x4 x5 x6 r E; exact f_Model_owed_b65_ok hst hd  hk48 ih E
def f_Model_owed_b48  (k48 : Hp → Nat → Int32 → Int32 → Int32 → Int32 → Option (Int32 × Hp)) (h : Hp) (x0 : Nat) (x1 : Int32) (x2 : Int32) (x3 : Int32) (x4 : Int32)  : Option (Int32 × Hp) :=
if hS h x0 = 11 then (
bI (f_Model_cisterns h x0) fun v2 h3 =>
if (jshl (1 : Int32) v2) ≤ x4 then (
some (x3, h3)

) else (
f_Model_owed_L65  k48 FU h3 x0 x1 x2 x3 x4 (0 : Int32) (0 : Int32)

)
) else none
set_option maxRecDepth 20000 in
set_option maxHeartbeats 4000000 in
theorem f_Model_owed_b48_ok {l : Launch} {X : Nat × (Nat → Int32)} (hst : l.stackTraces = false) {d : Nat} (hd : 2 ≤ d)   {k48 : Hp → Nat → Int32 → Int32 → Int32 → Int32 → Option (Int32 × Hp)} (hk48 : ∀ (h : Hp) (x0 : Nat) (x1 : Int32) (x2 : Int32) (x3 : Int32) (x4 : Int32)  (r : Int32 × Hp), k48 h x0 x1 x2 x3 x4 = some r → Rn l X mX11_owed d 48 [(0, .ref x0), (1, .int x1), (2, .int x2), (3, .int x3), (4, .int x4)] [] h (eI r) r.2) {h : Hp} {x0 : Nat} {x1 : Int32} {x2 : Int32} {x3 : Int32} {x4 : Int32}  {r : Int32 × Hp} (E : f_Model_owed_b48  k48 h x0 x1 x2 x3 x4 = some r) : Rn l X mX11_owed d 48 [(0, .ref x0), (1, .int x1), (2, .int x2), (3, .int x3), (4, .int x4)] [] h (eI r) r.2 := by
  unfold f_Model_owed_b48 at E
  refine Rn.iload (pc' := 50) dX11_owed_48 4 rfl rfl ?_
  refine Rn.iconst (pc' := 51) (v := (1 : Int32)) (hv := by decide) dX11_owed_50 rfl ?_
  refine Rn.aload_n (pc' := 52) dX11_owed_51 rfl 0 rfl rfl ?_
  obtain ⟨g1, E⟩ := gd_of E
  obtain ⟨v2, h3, e4, E⟩ := bI_of E
  refine Rn.callV1 (pc' := 55) (As := []) (rest := [.int (1 : Int32), .int x4]) (f_Model_cisterns_ok hst e4) (Nat.le_trans (by decide) hd) rfl kb_X11_52 ki_X11_cisterns rfl g1 rfl rfl (Nat.le_of_ble_eq_true rfl) dX11_owed_52 rfl rfl ?_
  refine Rn.ishl (pc' := 56) dX11_owed_55 rfl ?_
  refine Rn.icmp_ge (pc' := 59) (tgt := 138) dX11_owed_56 (by decide) rfl (fun c5 => ?_) (fun c5 => ?_)
  · replace E := (if_of E).1 c5
    refine Rn.iload_n (pc' := 139) dX11_owed_138 rfl 3 rfl rfl ?_
    cases E
    exact Rn.zret rfl rfl dX11_owed_139
  · replace E := (if_of E).2 c5
    refine Rn.iconst (pc' := 60) (v := (0 : Int32)) (hv := by decide) dX11_owed_59 rfl ?_
    refine Rn.istore (pc' := 62) (L' := [(5, .int (0 : Int32)), (0, .ref x0), (1, .int x1), (2, .int x2), (3, .int x3), (4, .int x4)]) dX11_owed_60 (by decide) rfl rfl ?_
    refine Rn.iconst (pc' := 63) (v := (0 : Int32)) (hv := by decide) dX11_owed_62 rfl ?_
    refine Rn.istore (pc' := 65) (L' := [(6, .int (0 : Int32)), (5, .int (0 : Int32)), (0, .ref x0), (1, .int x1), (2, .int x2), (3, .int x3), (4, .int x4)]) dX11_owed_63 (by decide) rfl rfl ?_
    refine Rn.sub [2, 3, 4, 5, 6, 1, 0] rfl ?_
    exact f_Model_owed_L65_ok hst hd  hk48 FU _ _ _ _ _ _ _ _ _ E
def f_Model_owed_L48   (n : Nat) : Hp → Nat → Int32 → Int32 → Int32 → Int32 → Option (Int32 × Hp) := Nat.rec (motive := fun _ => Hp → Nat → Int32 → Int32 → Int32 → Int32 → Option (Int32 × Hp)) (fun _ _ _ _ _ _ => none) (fun _ rec => f_Model_owed_b48   rec) n
theorem f_Model_owed_L48_ok {l : Launch} {X : Nat × (Nat → Int32)} (hst : l.stackTraces = false) {d : Nat} (hd : 2 ≤ d)     : ∀ (n : Nat) (h : Hp) (x0 : Nat) (x1 : Int32) (x2 : Int32) (x3 : Int32) (x4 : Int32)  (r : Int32 × Hp), f_Model_owed_L48   n h x0 x1 x2 x3 x4 = some r → Rn l X mX11_owed d 48 [(0, .ref x0), (1, .int x1), (2, .int x2), (3, .int x3), (4, .int x4)] [] h (eI r) r.2 := by
  intro n
  induction n with
  | zero => intro h x0 x1 x2 x3 x4 r E; cases E
  | succ n ih => intro h x0 x1 x2 x3 x4 r E; exact f_Model_owed_b48_ok hst hd   ih E
def f_Model_owed_b34   (h : Hp) (x0 : Nat) (x1 : Int32) (x2 : Int32) (s0 : Nat) (s1 : Int32) : Option (Int32 × Hp) :=
if hS h s0 = 11 then (
bI (f_Model_throwsIf h s0 s1 (2 : Int32)) fun v2 h3 =>
if v2 = 0 then (
f_Model_owed_L48   FU h3 x0 x1 x2 (-1 : Int32) (0 : Int32)

) else (
some ((0 : Int32), h3)

)
) else none
set_option maxRecDepth 20000 in
set_option maxHeartbeats 4000000 in
theorem f_Model_owed_b34_ok {l : Launch} {X : Nat × (Nat → Int32)} (hst : l.stackTraces = false) {d : Nat} (hd : 2 ≤ d)     {h : Hp} {x0 : Nat} {x1 : Int32} {x2 : Int32} {s0 : Nat} {s1 : Int32} {r : Int32 × Hp} (E : f_Model_owed_b34   h x0 x1 x2 s0 s1 = some r) : Rn l X mX11_owed d 34 [(0, .ref x0), (1, .int x1), (2, .int x2)] [.int s1, .ref s0] h (eI r) r.2 := by
  unfold f_Model_owed_b34 at E
  refine Rn.iconst (pc' := 35) (v := (2 : Int32)) (hv := by decide) dX11_owed_34 rfl ?_
  obtain ⟨g1, E⟩ := gd_of E
  obtain ⟨v2, h3, e4, E⟩ := bI_of E
  refine Rn.callV1 (pc' := 38) (As := [.int s1, .int (2 : Int32)]) (rest := []) (f_Model_throwsIf_ok hst e4) (Nat.le_trans (by decide) hd) rfl kb_X11_265 ki_X11_throwsIf rfl g1 rfl rfl (Nat.le_of_ble_eq_true rfl) dX11_owed_35 rfl rfl ?_
  refine Rn.if_eq (pc' := 41) (tgt := 43) dX11_owed_38 (by decide) rfl (fun c5 => ?_) (fun c5 => ?_)
  · replace E := (if_of E).1 c5
    refine Rn.iconst (pc' := 44) (v := (-1 : Int32)) (hv := by decide) dX11_owed_43 rfl ?_
    refine Rn.istore_n (pc' := 45) (L' := [(3, .int (-1 : Int32)), (0, .ref x0), (1, .int x1), (2, .int x2)]) dX11_owed_44 rfl (by decide) rfl rfl ?_
    refine Rn.iconst (pc' := 46) (v := (0 : Int32)) (hv := by decide) dX11_owed_45 rfl ?_
    refine Rn.istore (pc' := 48) (L' := [(4, .int (0 : Int32)), (3, .int (-1 : Int32)), (0, .ref x0), (1, .int x1), (2, .int x2)]) dX11_owed_46 (by decide) rfl rfl ?_
    refine Rn.sub [2, 3, 4, 1, 0] rfl ?_
    exact f_Model_owed_L48_ok hst hd   FU _ _ _ _ _ _ _ E
  · replace E := (if_of E).2 c5
    refine Rn.iconst (pc' := 42) (v := (0 : Int32)) (hv := by decide) dX11_owed_41 rfl ?_
    cases E
    exact Rn.zret rfl rfl dX11_owed_42
def f_Model_owed_b0   (h : Hp) (x0 : Nat) (x1 : Int32) (x2 : Int32)  : Option (Int32 × Hp) :=
if hS h x0 = 11 then (
wr (sI h x0 0 (0 : Int32)) fun h2 =>
bI (f_Model_noYear h2 x1) fun v4 h5 =>
if hS h5 x0 = 11 then (
bI (f_Model_throwsIf h5 x0 v4 (1 : Int32)) fun v8 h9 =>
if v8 = 0 then (
bI (f_Model_in h9 x2 (0 : Int32) (999 : Int32)) fun v12 h13 =>
if v12 = 0 then (
f_Model_owed_b34   h13 x0 x1 x2 x0 (1 : Int32)

) else (
f_Model_owed_b34   h13 x0 x1 x2 x0 (0 : Int32)

)

) else (
some ((0 : Int32), h9)

)
) else none) else none
set_option maxRecDepth 20000 in
set_option maxHeartbeats 4000000 in
theorem f_Model_owed_b0_ok {l : Launch} {X : Nat × (Nat → Int32)} (hst : l.stackTraces = false) {d : Nat} (hd : 2 ≤ d)     {h : Hp} {x0 : Nat} {x1 : Int32} {x2 : Int32}  {r : Int32 × Hp} (E : f_Model_owed_b0   h x0 x1 x2 = some r) : Rn l X mX11_owed d 0 [(0, .ref x0), (1, .int x1), (2, .int x2)] [] h (eI r) r.2 := by
  unfold f_Model_owed_b0 at E
  refine Rn.aload_n (pc' := 1) dX11_owed_0 rfl 0 rfl rfl ?_
  refine Rn.iconst (pc' := 2) (v := (0 : Int32)) (hv := by decide) dX11_owed_1 rfl ?_
  obtain ⟨g1, E⟩ := gd_of E
  refine Rn.putI (pc' := 5) fl_X11_3_10 (fun q hq => by cases hq; decide) g1 rfl rfl rfl dX11_owed_2 rfl ?_
  replace E := wr_of E
  generalize eh3 : sI h x0 0 (0 : Int32) = h2 at E ⊢
  refine Rn.aload_n (pc' := 6) dX11_owed_5 rfl 0 rfl rfl ?_
  refine Rn.iload_n (pc' := 7) dX11_owed_6 rfl 1 rfl rfl ?_
  obtain ⟨v4, h5, e6, E⟩ := bI_of E
  refine Rn.callS1 (pc' := 10) (As := [.int x1]) (rest := [.ref x0]) (f_Model_noYear_ok hst e6) (Nat.le_trans (by decide) hd) rfl kb_X11_290 ks_X11_noYear rfl rfl (Nat.le_of_ble_eq_true rfl) dX11_owed_7 rfl rfl ?_
  refine Rn.iconst (pc' := 11) (v := (1 : Int32)) (hv := by decide) dX11_owed_10 rfl ?_
  obtain ⟨g7, E⟩ := gd_of E
  obtain ⟨v8, h9, e10, E⟩ := bI_of E
  refine Rn.callV1 (pc' := 14) (As := [.int v4, .int (1 : Int32)]) (rest := []) (f_Model_throwsIf_ok hst e10) (Nat.le_trans (by decide) hd) rfl kb_X11_265 ki_X11_throwsIf rfl g7 rfl rfl (Nat.le_of_ble_eq_true rfl) dX11_owed_11 rfl rfl ?_
  refine Rn.if_ne (pc' := 17) (tgt := 41) dX11_owed_14 (by decide) rfl (fun c11 => ?_) (fun c11 => ?_)
  · replace E := (if_of E).2 c11
    refine Rn.iconst (pc' := 42) (v := (0 : Int32)) (hv := by decide) dX11_owed_41 rfl ?_
    cases E
    exact Rn.zret rfl rfl dX11_owed_42
  · replace E := (if_of E).1 c11
    refine Rn.aload_n (pc' := 18) dX11_owed_17 rfl 0 rfl rfl ?_
    refine Rn.iload_n (pc' := 19) dX11_owed_18 rfl 2 rfl rfl ?_
    refine Rn.iconst (pc' := 20) (v := (0 : Int32)) (hv := by decide) dX11_owed_19 rfl ?_
    refine Rn.sipush (pc' := 23) (v := (999 : Int32)) (hv := by decide) dX11_owed_20 rfl ?_
    obtain ⟨v12, h13, e14, E⟩ := bI_of E
    refine Rn.callS1 (pc' := 26) (As := [.int x2, .int (0 : Int32), .int (999 : Int32)]) (rest := [.ref x0]) (f_Model_in_ok hst e14) (Nat.le_trans (by decide) hd) rfl kb_X11_56 ks_X11_in rfl rfl (Nat.le_of_ble_eq_true rfl) dX11_owed_23 rfl rfl ?_
    refine Rn.if_ne (pc' := 29) (tgt := 33) dX11_owed_26 (by decide) rfl (fun c15 => ?_) (fun c15 => ?_)
    · replace E := (if_of E).2 c15
      refine Rn.iconst (pc' := 34) (v := (0 : Int32)) (hv := by decide) dX11_owed_33 rfl ?_
      exact f_Model_owed_b34_ok hst hd   E
    · replace E := (if_of E).1 c15
      refine Rn.iconst (pc' := 30) (v := (1 : Int32)) (hv := by decide) dX11_owed_29 rfl ?_
      refine Rn.goto (pc' := 34) dX11_owed_30 (by decide) ?_
      exact f_Model_owed_b34_ok hst hd   E
def f_Model_owed (h : Hp) (x0 : Nat) (x1 : Int32) (x2 : Int32) : Option (Int32 × Hp) := f_Model_owed_b0  h x0 x1 x2
theorem f_Model_owed_ok {l : Launch} {X : Nat × (Nat → Int32)} (hst : l.stackTraces = false) {h : Hp} {x0 : Nat} {x1 : Int32} {x2 : Int32} {r : Int32 × Hp} (E : f_Model_owed h x0 x1 x2 = some r) : MC l X yX11_owed mX11_owed 2 [.ref x0, .int x1, .int x2] h (eI r) r.2 :=
  MC.body (by decide +kernel) rfl (by decide) hst (Nat.le_of_ble_eq_true rfl) (f_Model_owed_b0_ok hst (Nat.le_refl _) E)
abbrev mJ7_fill_53178 : MI := (RJ7, cJ7_fill_53178, 4, none, [], false)
theorem ws_J7_fill_53178 : ∀ w ∈ wsM yJ7_fill_53178 mJ7_fill_53178, w ∈ gw := List.forall_mem_cons.mpr ⟨gw_at 1014 (by decide +kernel) (by decide +kernel), fun _ h => h⟩
def f_Arrays_fill_b5  (k5 : Hp → Nat → Int32 → Int32 → Int32 → Option (Hp)) (h : Hp) (x0 : Nat) (x1 : Int32) (x2 : Int32) (x3 : Int32)  : Option (Hp) :=
if x3 ≤ x2 then (
some h

) else (
if hS h x0 = 20 then (
if ib x2 (hL h x0) = true then (
wr (sI h x0 (ix x2) x1) fun h4 =>
k5 h4 x0 x1 (x2 + (1 : Int32)) x3
) else none) else none
)

set_option maxRecDepth 20000 in
set_option maxHeartbeats 4000000 in
theorem f_Arrays_fill_b5_ok {l : Launch} {X : Nat × (Nat → Int32)} (hst : l.stackTraces = false) {d : Nat} (hd : 0 ≤ d)   {k5 : Hp → Nat → Int32 → Int32 → Int32 → Option (Hp)} (hk5 : ∀ (h : Hp) (x0 : Nat) (x1 : Int32) (x2 : Int32) (x3 : Int32)  (r : Hp), k5 h x0 x1 x2 x3 = some r → Rn l X mJ7_fill_53178 d 5 [(0, .ref x0), (1, .int x1), (2, .int x2), (3, .int x3)] [] h (eV r) r) {h : Hp} {x0 : Nat} {x1 : Int32} {x2 : Int32} {x3 : Int32}  {r : Hp} (E : f_Arrays_fill_b5  k5 h x0 x1 x2 x3 = some r) : Rn l X mJ7_fill_53178 d 5 [(0, .ref x0), (1, .int x1), (2, .int x2), (3, .int x3)] [] h (eV r) r := by
  unfold f_Arrays_fill_b5 at E
  refine Rn.iload_n (pc' := 6) dJ7_fill_53178_5 rfl 2 rfl rfl ?_
  refine Rn.iload_n (pc' := 7) dJ7_fill_53178_6 rfl 3 rfl rfl ?_
  refine Rn.icmp_ge (pc' := 10) (tgt := 20) dJ7_fill_53178_7 (by decide) rfl (fun c1 => ?_) (fun c1 => ?_)
  · replace E := (if_of E).1 c1
    cases E
    exact Rn.vret rfl dJ7_fill_53178_20
  · replace E := (if_of E).2 c1
    refine Rn.aload_n (pc' := 11) dJ7_fill_53178_10 rfl 0 rfl rfl ?_
    refine Rn.iload_n (pc' := 12) dJ7_fill_53178_11 rfl 2 rfl rfl ?_
    refine Rn.iload_n (pc' := 13) dJ7_fill_53178_12 rfl 1 rfl rfl ?_
    obtain ⟨g2, E⟩ := gd_of E
    obtain ⟨g3, E⟩ := gd_of E
    refine Rn.iast (pc' := 14) g2 g3 dJ7_fill_53178_13 rfl ?_
    replace E := wr_of E
    generalize eh5 : sI h x0 (ix x2) x1 = h4 at E ⊢
    refine Rn.iinc (pc' := 17) (v := (x2 + (1 : Int32))) (L' := [(2, .int (x2 + (1 : Int32))), (0, .ref x0), (1, .int x1), (3, .int x3)]) dJ7_fill_53178_14 2 rfl rfl (by decide) rfl rfl ?_
    refine Rn.goto (pc' := 5) dJ7_fill_53178_17 (by decide) ?_
    refine Rn.sub [1, 2, 0, 3] rfl ?_
    exact hk5 _ _ _ _ _ _ E
def f_Arrays_fill_L5   (n : Nat) : Hp → Nat → Int32 → Int32 → Int32 → Option (Hp) := Nat.rec (motive := fun _ => Hp → Nat → Int32 → Int32 → Int32 → Option (Hp)) (fun _ _ _ _ _ => none) (fun _ rec => f_Arrays_fill_b5   rec) n
theorem f_Arrays_fill_L5_ok {l : Launch} {X : Nat × (Nat → Int32)} (hst : l.stackTraces = false) {d : Nat} (hd : 0 ≤ d)     : ∀ (n : Nat) (h : Hp) (x0 : Nat) (x1 : Int32) (x2 : Int32) (x3 : Int32)  (r : Hp), f_Arrays_fill_L5   n h x0 x1 x2 x3 = some r → Rn l X mJ7_fill_53178 d 5 [(0, .ref x0), (1, .int x1), (2, .int x2), (3, .int x3)] [] h (eV r) r := by
  intro n
  induction n with
  | zero => intro h x0 x1 x2 x3 r E; cases E
  | succ n ih => intro h x0 x1 x2 x3 r E; exact f_Arrays_fill_b5_ok hst hd   ih E
def f_Arrays_fill_b0   (h : Hp) (x0 : Nat) (x1 : Int32)  : Option (Hp) :=
if hS h x0 = 20 then (
f_Arrays_fill_L5   FU h x0 x1 (0 : Int32) (Int32.ofNat (hL h x0))
) else none
set_option maxRecDepth 20000 in
set_option maxHeartbeats 4000000 in
theorem f_Arrays_fill_b0_ok {l : Launch} {X : Nat × (Nat → Int32)} (hst : l.stackTraces = false) {d : Nat} (hd : 0 ≤ d)     {h : Hp} {x0 : Nat} {x1 : Int32}  {r : Hp} (E : f_Arrays_fill_b0   h x0 x1 = some r) : Rn l X mJ7_fill_53178 d 0 [(0, .ref x0), (1, .int x1)] [] h (eV r) r := by
  unfold f_Arrays_fill_b0 at E
  refine Rn.iconst (pc' := 1) (v := (0 : Int32)) (hv := by decide) dJ7_fill_53178_0 rfl ?_
  refine Rn.istore_n (pc' := 2) (L' := [(2, .int (0 : Int32)), (0, .ref x0), (1, .int x1)]) dJ7_fill_53178_1 rfl (by decide) rfl rfl ?_
  refine Rn.aload_n (pc' := 3) dJ7_fill_53178_2 rfl 1 rfl rfl ?_
  obtain ⟨g1, E⟩ := gd_of E
  refine Rn.alen (pc' := 4) g1 (by decide) (by decide) dJ7_fill_53178_3 rfl ?_
  refine Rn.istore_n (pc' := 5) (L' := [(3, .int (Int32.ofNat (hL h x0))), (2, .int (0 : Int32)), (0, .ref x0), (1, .int x1)]) dJ7_fill_53178_4 rfl (by decide) rfl rfl ?_
  refine Rn.sub [2, 3, 1, 0] rfl ?_
  exact f_Arrays_fill_L5_ok hst hd   FU _ _ _ _ _ _ E
def f_Arrays_fill (h : Hp) (x0 : Nat) (x1 : Int32) : Option (Hp) := f_Arrays_fill_b0  h x0 x1
theorem f_Arrays_fill_ok {l : Launch} {X : Nat × (Nat → Int32)} (hst : l.stackTraces = false) {h : Hp} {x0 : Nat} {x1 : Int32} {r : Hp} (E : f_Arrays_fill h x0 x1 = some r) : MC l X yJ7_fill_53178 mJ7_fill_53178 0 [.ref x0, .int x1] h (eV r) r :=
  MC.body (by decide +kernel) rfl (by decide) hst (Nat.le_of_ble_eq_true rfl) (f_Arrays_fill_b0_ok hst (Nat.le_refl _) E)
abbrev mX0_begin : MI := (RX0, cX0_begin, 3, none, [], false)
theorem ws_X0_begin : ∀ w ∈ wsM yX0_begin mX0_begin, w ∈ gw := List.forall_mem_cons.mpr ⟨gw_at 1011 (by decide +kernel) (by decide +kernel), fun _ h => h⟩
theorem kb_X0_35 : KB RX0 35 yJ7_fill_53178 mJ7_fill_53178 2 := ⟨gw_at 1012 (by decide +kernel) (by decide +kernel), gw_at 127 (by decide +kernel) (by decide +kernel), trivial, ws_J7_fill_53178, by decide +kernel, by decide +kernel, by decide +kernel, by decide⟩
theorem ks_J7_fill_53178 : Cond.static yJ7_fill_53178 ∈ gw := gw_at 1013 (by decide +kernel) (by decide +kernel)
def f_Cistern_begin_b0   (h : Hp) (x0 : Nat) (x1 : Int32) (x2 : Int32)  : Option (Hp) :=
if hS h x0 = 1 then (
wr (sI h x0 0 x1) fun h2 =>
wr (sI h2 x0 1 x2) fun h4 =>
wr (sI h4 x0 2 (0 : Int32)) fun h6 =>
wr (sI h6 x0 3 (0 : Int32)) fun h8 =>
wr (sI h8 x0 4 (-1 : Int32)) fun h10 =>
wr (sI h10 x0 5 (0 : Int32)) fun h12 =>
bV (f_Arrays_fill h12 (hR h12 x0 6) (0 : Int32)) fun h15 =>
some h15
) else none
set_option maxRecDepth 20000 in
set_option maxHeartbeats 4000000 in
theorem f_Cistern_begin_b0_ok {l : Launch} {X : Nat × (Nat → Int32)} (hst : l.stackTraces = false) {d : Nat} (hd : 1 ≤ d)     {h : Hp} {x0 : Nat} {x1 : Int32} {x2 : Int32}  {r : Hp} (E : f_Cistern_begin_b0   h x0 x1 x2 = some r) : Rn l X mX0_begin d 0 [(0, .ref x0), (1, .int x1), (2, .int x2)] [] h (eV r) r := by
  unfold f_Cistern_begin_b0 at E
  refine Rn.aload_n (pc' := 1) dX0_begin_0 rfl 0 rfl rfl ?_
  refine Rn.iload_n (pc' := 2) dX0_begin_1 rfl 1 rfl rfl ?_
  obtain ⟨g1, E⟩ := gd_of E
  refine Rn.putI (pc' := 5) fl_X0_15_0 (fun q hq => by cases hq; decide) g1 rfl rfl rfl dX0_begin_2 rfl ?_
  replace E := wr_of E
  generalize eh3 : sI h x0 0 x1 = h2 at E ⊢
  refine Rn.aload_n (pc' := 6) dX0_begin_5 rfl 0 rfl rfl ?_
  refine Rn.iload_n (pc' := 7) dX0_begin_6 rfl 2 rfl rfl ?_
  refine Rn.putI (pc' := 10) fl_X0_19_0 (fun q hq => by cases hq; decide) (kp_sI eh3 g1) rfl rfl rfl dX0_begin_7 rfl ?_
  replace E := wr_of E
  generalize eh5 : sI h2 x0 1 x2 = h4 at E ⊢
  refine Rn.aload_n (pc' := 11) dX0_begin_10 rfl 0 rfl rfl ?_
  refine Rn.iconst (pc' := 12) (v := (0 : Int32)) (hv := by decide) dX0_begin_11 rfl ?_
  refine Rn.putI (pc' := 15) fl_X0_22_0 (fun q hq => by cases hq; decide) (kp_sI eh5 (kp_sI eh3 g1)) rfl rfl rfl dX0_begin_12 rfl ?_
  replace E := wr_of E
  generalize eh7 : sI h4 x0 2 (0 : Int32) = h6 at E ⊢
  refine Rn.aload_n (pc' := 16) dX0_begin_15 rfl 0 rfl rfl ?_
  refine Rn.iconst (pc' := 17) (v := (0 : Int32)) (hv := by decide) dX0_begin_16 rfl ?_
  refine Rn.putI (pc' := 20) fl_X0_26_0 (fun q hq => by cases hq; decide) (kp_sI eh7 (kp_sI eh5 (kp_sI eh3 g1))) rfl rfl rfl dX0_begin_17 rfl ?_
  replace E := wr_of E
  generalize eh9 : sI h6 x0 3 (0 : Int32) = h8 at E ⊢
  refine Rn.aload_n (pc' := 21) dX0_begin_20 rfl 0 rfl rfl ?_
  refine Rn.iconst (pc' := 22) (v := (-1 : Int32)) (hv := by decide) dX0_begin_21 rfl ?_
  refine Rn.putI (pc' := 25) fl_X0_29_0 (fun q hq => by cases hq; decide) (kp_sI eh9 (kp_sI eh7 (kp_sI eh5 (kp_sI eh3 g1)))) rfl rfl rfl dX0_begin_22 rfl ?_
  replace E := wr_of E
  generalize eh11 : sI h8 x0 4 (-1 : Int32) = h10 at E ⊢
  refine Rn.aload_n (pc' := 26) dX0_begin_25 rfl 0 rfl rfl ?_
  refine Rn.iconst (pc' := 27) (v := (0 : Int32)) (hv := by decide) dX0_begin_26 rfl ?_
  refine Rn.putI (pc' := 30) fl_X0_32_0 (fun q hq => by cases hq; decide) (kp_sI eh11 (kp_sI eh9 (kp_sI eh7 (kp_sI eh5 (kp_sI eh3 g1))))) rfl rfl rfl dX0_begin_27 rfl ?_
  replace E := wr_of E
  generalize eh13 : sI h10 x0 5 (0 : Int32) = h12 at E ⊢
  refine Rn.aload_n (pc' := 31) dX0_begin_30 rfl 0 rfl rfl ?_
  refine Rn.getR (pc' := 34) fl_X0_9_0 (kp_sI eh13 (kp_sI eh11 (kp_sI eh9 (kp_sI eh7 (kp_sI eh5 (kp_sI eh3 g1)))))) rfl dX0_begin_31 rfl ?_
  refine Rn.iconst (pc' := 35) (v := (0 : Int32)) (hv := by decide) dX0_begin_34 rfl ?_
  obtain ⟨h15, e16, E⟩ := bV_of E
  refine Rn.callS1 (pc' := 38) (As := [.ref (hR h12 x0 6), .int (0 : Int32)]) (rest := []) (f_Arrays_fill_ok hst e16) (Nat.le_trans (by decide) hd) rfl kb_X0_35 ks_J7_fill_53178 rfl rfl (Nat.le_of_ble_eq_true rfl) dX0_begin_35 rfl rfl ?_
  cases E
  exact Rn.vret rfl dX0_begin_38
def f_Cistern_begin (h : Hp) (x0 : Nat) (x1 : Int32) (x2 : Int32) : Option (Hp) := f_Cistern_begin_b0  h x0 x1 x2
theorem f_Cistern_begin_ok {l : Launch} {X : Nat × (Nat → Int32)} (hst : l.stackTraces = false) {h : Hp} {x0 : Nat} {x1 : Int32} {x2 : Int32} {r : Hp} (E : f_Cistern_begin h x0 x1 x2 = some r) : MC l X yX0_begin mX0_begin 1 [.ref x0, .int x1, .int x2] h (eV r) r :=
  MC.body (by decide +kernel) rfl (by decide) hst (Nat.le_of_ble_eq_true rfl) (f_Cistern_begin_b0_ok hst (Nat.le_refl _) E)
abbrev mX3_addCistern : MI := (RX3, cX3_addCistern, 3, none, [], false)
theorem ws_X3_addCistern : ∀ w ∈ wsM yX3_addCistern mX3_addCistern, w ∈ gw := List.forall_mem_cons.mpr ⟨gw_at 1007 (by decide +kernel) (by decide +kernel), fun _ h => h⟩
theorem kb_X3_90 : KB RX3 90 yX0_begin mX0_begin 2 := ⟨gw_at 1008 (by decide +kernel) (by decide +kernel), gw_at 114 (by decide +kernel) (by decide +kernel), trivial, ws_X0_begin, by decide +kernel, by decide +kernel, by decide +kernel, by decide⟩
theorem ki_X0_begin : Cond.instanceMethod yX0_begin ∈ gw ∧ Cond.selects yX0_begin.cls yX0_begin yX0_begin ∈ gw := ⟨gw_at 1009 (by decide +kernel) (by decide +kernel), gw_at 1010 (by decide +kernel) (by decide +kernel)⟩
def f_Land_addCistern_b0   (h : Hp) (x0 : Nat) (x1 : Int32) (x2 : Int32)  : Option (Hp) :=
if hS h x0 = 4 then (
if (8 : Int32) ≤ (hI h x0 0) then (
some h

) else (
if hS h (hR h x0 3) = 23 then (
if ib (hI h x0 0) (hL h (hR h x0 3)) = true then (
if hS h (hR h (hR h x0 3) (ix (hI h x0 0))) = 1 then (
bV (f_Cistern_begin h (hR h (hR h x0 3) (ix (hI h x0 0))) x1 x2) fun h7 =>
if hS h7 x0 = 4 then (
wr (sI h7 x0 0 ((hI h7 x0 0) + (1 : Int32))) fun h10 =>
some h10
) else none) else none) else none) else none
)
) else none
set_option maxRecDepth 20000 in
set_option maxHeartbeats 4000000 in
theorem f_Land_addCistern_b0_ok {l : Launch} {X : Nat × (Nat → Int32)} (hst : l.stackTraces = false) {d : Nat} (hd : 2 ≤ d)     {h : Hp} {x0 : Nat} {x1 : Int32} {x2 : Int32}  {r : Hp} (E : f_Land_addCistern_b0   h x0 x1 x2 = some r) : Rn l X mX3_addCistern d 0 [(0, .ref x0), (1, .int x1), (2, .int x2)] [] h (eV r) r := by
  unfold f_Land_addCistern_b0 at E
  refine Rn.aload_n (pc' := 1) dX3_addCistern_0 rfl 0 rfl rfl ?_
  obtain ⟨g1, E⟩ := gd_of E
  refine Rn.getI (pc' := 4) fl_X3_43_3 g1 rfl dX3_addCistern_1 rfl ?_
  refine Rn.bipush (pc' := 6) (v := (8 : Int32)) (hv := by decide) dX3_addCistern_4 rfl ?_
  refine Rn.icmp_ge (pc' := 9) (tgt := 33) dX3_addCistern_6 (by decide) rfl (fun c2 => ?_) (fun c2 => ?_)
  · replace E := (if_of E).1 c2
    cases E
    exact Rn.vret rfl dX3_addCistern_33
  · replace E := (if_of E).2 c2
    refine Rn.aload_n (pc' := 10) dX3_addCistern_9 rfl 0 rfl rfl ?_
    refine Rn.getR (pc' := 13) fl_X3_11_3 g1 rfl dX3_addCistern_10 rfl ?_
    refine Rn.aload_n (pc' := 14) dX3_addCistern_13 rfl 0 rfl rfl ?_
    refine Rn.getI (pc' := 17) fl_X3_43_3 g1 rfl dX3_addCistern_14 rfl ?_
    obtain ⟨g3, E⟩ := gd_of E
    obtain ⟨g4, E⟩ := gd_of E
    refine Rn.aald (pc' := 18) g3 (by decide) (by decide) g4 dX3_addCistern_17 rfl ?_
    refine Rn.iload_n (pc' := 19) dX3_addCistern_18 rfl 1 rfl rfl ?_
    refine Rn.iload_n (pc' := 20) dX3_addCistern_19 rfl 2 rfl rfl ?_
    obtain ⟨g5, E⟩ := gd_of E
    obtain ⟨h7, e8, E⟩ := bV_of E
    refine Rn.callV1 (pc' := 23) (As := [.int x1, .int x2]) (rest := []) (f_Cistern_begin_ok hst e8) (Nat.le_trans (by decide) hd) rfl kb_X3_90 ki_X0_begin rfl g5 rfl rfl (Nat.le_of_ble_eq_true rfl) dX3_addCistern_20 rfl rfl ?_
    refine Rn.aload_n (pc' := 24) dX3_addCistern_23 rfl 0 rfl rfl ?_
    refine Rn.dup (pc' := 25) (hc := rfl) dX3_addCistern_24 rfl ?_
    obtain ⟨g9, E⟩ := gd_of E
    refine Rn.getI (pc' := 28) fl_X3_43_3 g9 rfl dX3_addCistern_25 rfl ?_
    refine Rn.iconst (pc' := 29) (v := (1 : Int32)) (hv := by decide) dX3_addCistern_28 rfl ?_
    refine Rn.iadd (pc' := 30) dX3_addCistern_29 rfl ?_
    refine Rn.putI (pc' := 33) fl_X3_43_3 (fun q hq => by cases hq; decide) g9 rfl rfl rfl dX3_addCistern_30 rfl ?_
    replace E := wr_of E
    generalize eh11 : sI h7 x0 0 ((hI h7 x0 0) + (1 : Int32)) = h10 at E ⊢
    cases E
    exact Rn.vret rfl dX3_addCistern_33
def f_Land_addCistern (h : Hp) (x0 : Nat) (x1 : Int32) (x2 : Int32) : Option (Hp) := f_Land_addCistern_b0  h x0 x1 x2
theorem f_Land_addCistern_ok {l : Launch} {X : Nat × (Nat → Int32)} (hst : l.stackTraces = false) {h : Hp} {x0 : Nat} {x1 : Int32} {x2 : Int32} {r : Hp} (E : f_Land_addCistern h x0 x1 x2 = some r) : MC l X yX3_addCistern mX3_addCistern 2 [.ref x0, .int x1, .int x2] h (eV r) r :=
  MC.body (by decide +kernel) rfl (by decide) hst (Nat.le_of_ble_eq_true rfl) (f_Land_addCistern_b0_ok hst (Nat.le_refl _) E)
abbrev mX10_lostBySite : MI := (RX10, cX10_lostBySite, 6, (some Jvm.ClassFile.FieldType.int), [], false)
theorem ws_X10_lostBySite : ∀ w ∈ wsM yX10_lostBySite mX10_lostBySite, w ∈ gw := List.forall_mem_cons.mpr ⟨gw_at 1335 (by decide +kernel) (by decide +kernel), fun _ h => h⟩
def f_Water_lostBySite_b62  (k62 : Hp → Nat → Int32 → Int32 → Option (Int32 × Hp)) (h : Hp) (x0 : Nat) (x4 : Int32) (x5 : Int32)  : Option (Int32 × Hp) :=
if (12 : Int32) ≤ x5 then (
if hS h x0 = 10 then (
if hS h (hR h x0 5) = 4 then (
some (((hI h (hR h x0 5) 12) - x4), h)
) else none) else none
) else (
if hS h x0 = 10 then (
if hS h (hR h x0 5) = 4 then (
bV (f_Land_leakAll h (hR h x0 5)) fun h7 =>
k62 h7 x0 x4 (x5 + (1 : Int32))
) else none) else none
)

set_option maxRecDepth 20000 in
set_option maxHeartbeats 4000000 in
theorem f_Water_lostBySite_b62_ok {l : Launch} {X : Nat × (Nat → Int32)} (hst : l.stackTraces = false) {d : Nat} (hd : 5 ≤ d)   {k62 : Hp → Nat → Int32 → Int32 → Option (Int32 × Hp)} (hk62 : ∀ (h : Hp) (x0 : Nat) (x4 : Int32) (x5 : Int32)  (r : Int32 × Hp), k62 h x0 x4 x5 = some r → Rn l X mX10_lostBySite d 62 [(0, .ref x0), (4, .int x4), (5, .int x5)] [] h (eI r) r.2) {h : Hp} {x0 : Nat} {x4 : Int32} {x5 : Int32}  {r : Int32 × Hp} (E : f_Water_lostBySite_b62  k62 h x0 x4 x5 = some r) : Rn l X mX10_lostBySite d 62 [(0, .ref x0), (4, .int x4), (5, .int x5)] [] h (eI r) r.2 := by
  unfold f_Water_lostBySite_b62 at E
  refine Rn.iload (pc' := 64) dX10_lostBySite_62 2 rfl rfl ?_
  refine Rn.bipush (pc' := 66) (v := (12 : Int32)) (hv := by decide) dX10_lostBySite_64 rfl ?_
  refine Rn.icmp_ge (pc' := 69) (tgt := 82) dX10_lostBySite_66 (by decide) rfl (fun c1 => ?_) (fun c1 => ?_)
  · replace E := (if_of E).1 c1
    refine Rn.aload_n (pc' := 83) dX10_lostBySite_82 rfl 0 rfl rfl ?_
    obtain ⟨g2, E⟩ := gd_of E
    refine Rn.getR (pc' := 86) fl_X10_46_9 g2 rfl dX10_lostBySite_83 rfl ?_
    obtain ⟨g3, E⟩ := gd_of E
    refine Rn.getI (pc' := 89) fl_X10_372_3 g3 rfl dX10_lostBySite_86 rfl ?_
    refine Rn.iload (pc' := 91) dX10_lostBySite_89 1 rfl rfl ?_
    refine Rn.isub (pc' := 92) dX10_lostBySite_91 rfl ?_
    cases E
    exact Rn.zret rfl rfl dX10_lostBySite_92
  · replace E := (if_of E).2 c1
    refine Rn.aload_n (pc' := 70) dX10_lostBySite_69 rfl 0 rfl rfl ?_
    obtain ⟨g4, E⟩ := gd_of E
    refine Rn.getR (pc' := 73) fl_X10_46_9 g4 rfl dX10_lostBySite_70 rfl ?_
    obtain ⟨g5, E⟩ := gd_of E
    obtain ⟨h7, e8, E⟩ := bV_of E
    refine Rn.callV1 (pc' := 76) (As := []) (rest := []) (f_Land_leakAll_ok hst e8) (Nat.le_trans (by decide) hd) rfl kb_X10_345 ki_X3_leakAll rfl g5 rfl rfl (Nat.le_of_ble_eq_true rfl) dX10_lostBySite_73 rfl rfl ?_
    refine Rn.iinc (pc' := 79) (v := (x5 + (1 : Int32))) (L' := [(5, .int (x5 + (1 : Int32))), (0, .ref x0), (4, .int x4)]) dX10_lostBySite_76 2 rfl rfl (by decide) rfl rfl ?_
    refine Rn.goto (pc' := 62) dX10_lostBySite_79 (by decide) ?_
    refine Rn.sub [1, 2, 0] rfl ?_
    exact hk62 _ _ _ _ _ E
def f_Water_lostBySite_L62   (n : Nat) : Hp → Nat → Int32 → Int32 → Option (Int32 × Hp) := Nat.rec (motive := fun _ => Hp → Nat → Int32 → Int32 → Option (Int32 × Hp)) (fun _ _ _ _ => none) (fun _ rec => f_Water_lostBySite_b62   rec) n
theorem f_Water_lostBySite_L62_ok {l : Launch} {X : Nat × (Nat → Int32)} (hst : l.stackTraces = false) {d : Nat} (hd : 5 ≤ d)     : ∀ (n : Nat) (h : Hp) (x0 : Nat) (x4 : Int32) (x5 : Int32)  (r : Int32 × Hp), f_Water_lostBySite_L62   n h x0 x4 x5 = some r → Rn l X mX10_lostBySite d 62 [(0, .ref x0), (4, .int x4), (5, .int x5)] [] h (eI r) r.2 := by
  intro n
  induction n with
  | zero => intro h x0 x4 x5 r E; cases E
  | succ n ih => intro h x0 x4 x5 r E; exact f_Water_lostBySite_b62_ok hst hd   ih E
def f_Water_lostBySite_b50   (h : Hp) (x0 : Nat)  : Option (Int32 × Hp) :=
if hS h x0 = 10 then (
if hS h (hR h x0 5) = 4 then (
f_Water_lostBySite_L62   FU h x0 (hI h (hR h x0 5) 12) (0 : Int32)
) else none) else none
set_option maxRecDepth 20000 in
set_option maxHeartbeats 4000000 in
theorem f_Water_lostBySite_b50_ok {l : Launch} {X : Nat × (Nat → Int32)} (hst : l.stackTraces = false) {d : Nat} (hd : 5 ≤ d)     {h : Hp} {x0 : Nat}  {r : Int32 × Hp} (E : f_Water_lostBySite_b50   h x0 = some r) : Rn l X mX10_lostBySite d 50 [(0, .ref x0)] [] h (eI r) r.2 := by
  unfold f_Water_lostBySite_b50 at E
  refine Rn.aload_n (pc' := 51) dX10_lostBySite_50 rfl 0 rfl rfl ?_
  obtain ⟨g1, E⟩ := gd_of E
  refine Rn.getR (pc' := 54) fl_X10_46_9 g1 rfl dX10_lostBySite_51 rfl ?_
  obtain ⟨g2, E⟩ := gd_of E
  refine Rn.getI (pc' := 57) fl_X10_372_3 g2 rfl dX10_lostBySite_54 rfl ?_
  refine Rn.istore (pc' := 59) (L' := [(4, .int (hI h (hR h x0 5) 12)), (0, .ref x0)]) dX10_lostBySite_57 (by decide) rfl rfl ?_
  refine Rn.iconst (pc' := 60) (v := (0 : Int32)) (hv := by decide) dX10_lostBySite_59 rfl ?_
  refine Rn.istore (pc' := 62) (L' := [(5, .int (0 : Int32)), (4, .int (hI h (hR h x0 5) 12)), (0, .ref x0)]) dX10_lostBySite_60 (by decide) rfl rfl ?_
  refine Rn.sub [2, 1, 0] rfl ?_
  exact f_Water_lostBySite_L62_ok hst hd   FU _ _ _ _ _ E
theorem kb_X10_402 : KB RX10 402 yX3_addCistern mX3_addCistern 2 := ⟨gw_at 1336 (by decide +kernel) (by decide +kernel), gw_at 113 (by decide +kernel) (by decide +kernel), trivial, ws_X3_addCistern, by decide +kernel, by decide +kernel, by decide +kernel, by decide⟩
theorem ki_X3_addCistern : Cond.instanceMethod yX3_addCistern ∈ gw ∧ Cond.selects yX3_addCistern.cls yX3_addCistern yX3_addCistern ∈ gw := ⟨gw_at 1005 (by decide +kernel) (by decide +kernel), gw_at 1006 (by decide +kernel) (by decide +kernel)⟩
theorem fl_X10_145_0 : FL RX10 145 0 4 := ⟨_, rfl, by decide, "VintageWater$Cistern", gw_at 282 (by decide +kernel) (by decide +kernel), Or.inl rfl⟩
def f_Water_lostBySite_b0   (h : Hp) (x0 : Nat) (x1 : Int32) (x2 : Int32)  : Option (Int32 × Hp) :=
if hS h x0 = 10 then (
if hS h (hR h x0 5) = 4 then (
bV (f_Land_copyFrom h (hR h x0 5) (hR h x0 4)) fun h4 =>
if hS h4 x0 = 10 then (
if hS h4 (hR h4 x0 5) = 4 then (
bV (f_Land_addCistern h4 (hR h4 x0 5) x2 (0 : Int32)) fun h9 =>
if x1 < 0 then (
f_Water_lostBySite_b50   h9 x0

) else (
if (hI h4 (hR h4 x0 5) 0) ≤ x1 then (
f_Water_lostBySite_b50   h9 x0

) else (
if hS h9 x0 = 10 then (
if hS h9 (hR h9 x0 5) = 4 then (
if hS h9 (hR h9 (hR h9 x0 5) 3) = 23 then (
if ib x1 (hL h9 (hR h9 (hR h9 x0 5) 3)) = true then (
if hS h9 (hR h9 (hR h9 (hR h9 x0 5) 3) (ix x1)) = 1 then (
wr (sI h9 (hR h9 (hR h9 (hR h9 x0 5) 3) (ix x1)) 4 (hI h4 (hR h4 x0 5) 0)) fun h18 =>
f_Water_lostBySite_b50   h18 x0
) else none) else none) else none) else none) else none
)

)
) else none) else none) else none) else none
set_option maxRecDepth 20000 in
set_option maxHeartbeats 4000000 in
theorem f_Water_lostBySite_b0_ok {l : Launch} {X : Nat × (Nat → Int32)} (hst : l.stackTraces = false) {d : Nat} (hd : 5 ≤ d)     {h : Hp} {x0 : Nat} {x1 : Int32} {x2 : Int32}  {r : Int32 × Hp} (E : f_Water_lostBySite_b0   h x0 x1 x2 = some r) : Rn l X mX10_lostBySite d 0 [(0, .ref x0), (1, .int x1), (2, .int x2)] [] h (eI r) r.2 := by
  unfold f_Water_lostBySite_b0 at E
  refine Rn.aload_n (pc' := 1) dX10_lostBySite_0 rfl 0 rfl rfl ?_
  obtain ⟨g1, E⟩ := gd_of E
  refine Rn.getR (pc' := 4) fl_X10_46_9 g1 rfl dX10_lostBySite_1 rfl ?_
  refine Rn.aload_n (pc' := 5) dX10_lostBySite_4 rfl 0 rfl rfl ?_
  refine Rn.getR (pc' := 8) fl_X10_42_9 g1 rfl dX10_lostBySite_5 rfl ?_
  obtain ⟨g2, E⟩ := gd_of E
  obtain ⟨h4, e5, E⟩ := bV_of E
  refine Rn.callV1 (pc' := 11) (As := [.ref (hR h x0 4)]) (rest := []) (f_Land_copyFrom_ok hst e5) (Nat.le_trans (by decide) hd) rfl kb_X10_219 ki_X3_copyFrom rfl g2 rfl rfl (Nat.le_of_ble_eq_true rfl) dX10_lostBySite_8 rfl rfl ?_
  refine Rn.aload_n (pc' := 12) dX10_lostBySite_11 rfl 0 rfl rfl ?_
  obtain ⟨g6, E⟩ := gd_of E
  refine Rn.getR (pc' := 15) fl_X10_46_9 g6 rfl dX10_lostBySite_12 rfl ?_
  obtain ⟨g7, E⟩ := gd_of E
  refine Rn.getI (pc' := 18) fl_X10_73_3 g7 rfl dX10_lostBySite_15 rfl ?_
  refine Rn.istore_n (pc' := 19) (L' := [(3, .int (hI h4 (hR h4 x0 5) 0)), (0, .ref x0), (1, .int x1), (2, .int x2)]) dX10_lostBySite_18 rfl (by decide) rfl rfl ?_
  refine Rn.aload_n (pc' := 20) dX10_lostBySite_19 rfl 1 rfl rfl ?_
  refine Rn.getR (pc' := 23) fl_X10_46_9 g6 rfl dX10_lostBySite_20 rfl ?_
  refine Rn.iload_n (pc' := 24) dX10_lostBySite_23 rfl 3 rfl rfl ?_
  refine Rn.iconst (pc' := 25) (v := (0 : Int32)) (hv := by decide) dX10_lostBySite_24 rfl ?_
  obtain ⟨h9, e10, E⟩ := bV_of E
  refine Rn.callV1 (pc' := 28) (As := [.int x2, .int (0 : Int32)]) (rest := []) (f_Land_addCistern_ok hst e10) (Nat.le_trans (by decide) hd) rfl kb_X10_402 ki_X3_addCistern rfl g7 rfl rfl (Nat.le_of_ble_eq_true rfl) dX10_lostBySite_25 rfl rfl ?_
  refine Rn.iload_n (pc' := 29) dX10_lostBySite_28 rfl 2 rfl rfl ?_
  refine Rn.if_lt (pc' := 32) (tgt := 50) dX10_lostBySite_29 (by decide) rfl (fun c11 => ?_) (fun c11 => ?_)
  · replace E := (if_of E).1 c11
    refine Rn.sub [1] rfl ?_
    exact f_Water_lostBySite_b50_ok hst hd   E
  · replace E := (if_of E).2 c11
    refine Rn.iload_n (pc' := 33) dX10_lostBySite_32 rfl 2 rfl rfl ?_
    refine Rn.iload_n (pc' := 34) dX10_lostBySite_33 rfl 0 rfl rfl ?_
    refine Rn.icmp_ge (pc' := 37) (tgt := 50) dX10_lostBySite_34 (by decide) rfl (fun c12 => ?_) (fun c12 => ?_)
    · replace E := (if_of E).1 c12
      refine Rn.sub [1] rfl ?_
      exact f_Water_lostBySite_b50_ok hst hd   E
    · replace E := (if_of E).2 c12
      refine Rn.aload_n (pc' := 38) dX10_lostBySite_37 rfl 1 rfl rfl ?_
      obtain ⟨g13, E⟩ := gd_of E
      refine Rn.getR (pc' := 41) fl_X10_46_9 g13 rfl dX10_lostBySite_38 rfl ?_
      obtain ⟨g14, E⟩ := gd_of E
      refine Rn.getR (pc' := 44) fl_X10_126_3 g14 rfl dX10_lostBySite_41 rfl ?_
      refine Rn.iload_n (pc' := 45) dX10_lostBySite_44 rfl 2 rfl rfl ?_
      obtain ⟨g15, E⟩ := gd_of E
      obtain ⟨g16, E⟩ := gd_of E
      refine Rn.aald (pc' := 46) g15 (by decide) (by decide) g16 dX10_lostBySite_45 rfl ?_
      refine Rn.iload_n (pc' := 47) dX10_lostBySite_46 rfl 0 rfl rfl ?_
      obtain ⟨g17, E⟩ := gd_of E
      refine Rn.putI (pc' := 50) fl_X10_145_0 (fun q hq => by cases hq; decide) g17 rfl rfl rfl dX10_lostBySite_47 rfl ?_
      replace E := wr_of E
      generalize eh19 : sI h9 (hR h9 (hR h9 (hR h9 x0 5) 3) (ix x1)) 4 (hI h4 (hR h4 x0 5) 0) = h18 at E ⊢
      refine Rn.sub [1] rfl ?_
      exact f_Water_lostBySite_b50_ok hst hd   E
def f_Water_lostBySite (h : Hp) (x0 : Nat) (x1 : Int32) (x2 : Int32) : Option (Int32 × Hp) := f_Water_lostBySite_b0  h x0 x1 x2
theorem f_Water_lostBySite_ok {l : Launch} {X : Nat × (Nat → Int32)} (hst : l.stackTraces = false) {h : Hp} {x0 : Nat} {x1 : Int32} {x2 : Int32} {r : Int32 × Hp} (E : f_Water_lostBySite h x0 x1 x2 = some r) : MC l X yX10_lostBySite mX10_lostBySite 5 [.ref x0, .int x1, .int x2] h (eI r) r.2 :=
  MC.body (by decide +kernel) rfl (by decide) hst (Nat.le_of_ble_eq_true rfl) (f_Water_lostBySite_b0_ok hst (Nat.le_refl _) E)
abbrev mX10_site : MI := (RX10, cX10_site, 6, (some Jvm.ClassFile.FieldType.int), [], false)
theorem ws_X10_site : ∀ w ∈ wsM yX10_site mX10_site, w ∈ gw := List.forall_mem_cons.mpr ⟨gw_at 1330 (by decide +kernel) (by decide +kernel), fun _ h => h⟩
def f_Water_site_b12   (h : Hp)   : Option ((Int32 ⊕ Nat) × Hp) :=
some (.inr 2, hA h 0 0 6)

set_option maxRecDepth 20000 in
set_option maxHeartbeats 4000000 in
theorem f_Water_site_b12_ok {l : Launch} {X : Nat × (Nat → Int32)} (hst : l.stackTraces = false) {d : Nat} (hd : 6 ≤ d)     {h : Hp}   {r : (Int32 ⊕ Nat) × Hp} (E : f_Water_site_b12   h  = some r) : Rn l X mX10_site d 12 [] [] h (xI r) r.2 := by
  unfold f_Water_site_b12 at E
  cases E
  exact Rn.throwSW (x := 2) (i := 15) kt_X10_88_92 rfl rfl dX10_site_12 dX10_site_15 dX10_site_16 dX10_site_19 dX10_site_22 (Nat.le_of_ble_eq_true rfl)
def f_Water_site_b82  (k44 : Hp → Nat → Int32 → Int32 → Int32 → Int32 → Option ((Int32 ⊕ Nat) × Hp)) (h : Hp) (x0 : Nat) (x1 : Int32) (x2 : Int32) (x3 : Int32) (x4 : Int32)  : Option ((Int32 ⊕ Nat) × Hp) :=
k44 h x0 x1 x2 x3 (x4 + (1 : Int32))

set_option maxRecDepth 20000 in
set_option maxHeartbeats 4000000 in
theorem f_Water_site_b82_ok {l : Launch} {X : Nat × (Nat → Int32)} (hst : l.stackTraces = false) {d : Nat} (hd : 6 ≤ d)   {k44 : Hp → Nat → Int32 → Int32 → Int32 → Int32 → Option ((Int32 ⊕ Nat) × Hp)} (hk44 : ∀ (h : Hp) (x0 : Nat) (x1 : Int32) (x2 : Int32) (x3 : Int32) (x4 : Int32)  (r : (Int32 ⊕ Nat) × Hp), k44 h x0 x1 x2 x3 x4 = some r → Rn l X mX10_site d 44 [(0, .ref x0), (1, .int x1), (2, .int x2), (3, .int x3), (4, .int x4)] [] h (xI r) r.2) {h : Hp} {x0 : Nat} {x1 : Int32} {x2 : Int32} {x3 : Int32} {x4 : Int32}  {r : (Int32 ⊕ Nat) × Hp} (E : f_Water_site_b82  k44 h x0 x1 x2 x3 x4 = some r) : Rn l X mX10_site d 82 [(0, .ref x0), (1, .int x1), (2, .int x2), (3, .int x3), (4, .int x4)] [] h (xI r) r.2 := by
  unfold f_Water_site_b82 at E
  refine Rn.iinc (pc' := 85) (v := (x4 + (1 : Int32))) (L' := [(4, .int (x4 + (1 : Int32))), (0, .ref x0), (1, .int x1), (2, .int x2), (3, .int x3)]) dX10_site_82 4 rfl rfl (by decide) rfl rfl ?_
  refine Rn.goto (pc' := 44) dX10_site_85 (by decide) ?_
  refine Rn.sub [1, 2, 3, 4, 0] rfl ?_
  exact hk44 _ _ _ _ _ _ _ E
def f_Water_site_b76  (k44 : Hp → Nat → Int32 → Int32 → Int32 → Int32 → Option ((Int32 ⊕ Nat) × Hp)) (h : Hp) (x0 : Nat) (x1 : Int32) (x4 : Int32) (x5 : Int32)  : Option ((Int32 ⊕ Nat) × Hp) :=
f_Water_site_b82  k44 h x0 x1 x4 x5 x4

set_option maxRecDepth 20000 in
set_option maxHeartbeats 4000000 in
theorem f_Water_site_b76_ok {l : Launch} {X : Nat × (Nat → Int32)} (hst : l.stackTraces = false) {d : Nat} (hd : 6 ≤ d)   {k44 : Hp → Nat → Int32 → Int32 → Int32 → Int32 → Option ((Int32 ⊕ Nat) × Hp)} (hk44 : ∀ (h : Hp) (x0 : Nat) (x1 : Int32) (x2 : Int32) (x3 : Int32) (x4 : Int32)  (r : (Int32 ⊕ Nat) × Hp), k44 h x0 x1 x2 x3 x4 = some r → Rn l X mX10_site d 44 [(0, .ref x0), (1, .int x1), (2, .int x2), (3, .int x3), (4, .int x4)] [] h (xI r) r.2) {h : Hp} {x0 : Nat} {x1 : Int32} {x4 : Int32} {x5 : Int32}  {r : (Int32 ⊕ Nat) × Hp} (E : f_Water_site_b76  k44 h x0 x1 x4 x5 = some r) : Rn l X mX10_site d 76 [(0, .ref x0), (1, .int x1), (4, .int x4), (5, .int x5)] [] h (xI r) r.2 := by
  unfold f_Water_site_b76 at E
  refine Rn.iload (pc' := 78) dX10_site_76 2 rfl rfl ?_
  refine Rn.istore_n (pc' := 79) (L' := [(2, .int x4), (0, .ref x0), (1, .int x1), (4, .int x4), (5, .int x5)]) dX10_site_78 rfl (by decide) rfl rfl ?_
  refine Rn.iload (pc' := 81) dX10_site_79 4 rfl rfl ?_
  refine Rn.istore_n (pc' := 82) (L' := [(3, .int x5), (2, .int x4), (0, .ref x0), (1, .int x1), (4, .int x4), (5, .int x5)]) dX10_site_81 rfl (by decide) rfl rfl ?_
  refine Rn.sub [2, 3, 1, 0, 4] rfl ?_
  exact f_Water_site_b82_ok hst hd  hk44 E
theorem kb_X10_296 : KB RX10 296 yX10_lostBySite mX10_lostBySite 2 := ⟨gw_at 1332 (by decide +kernel) (by decide +kernel), gw_at 107 (by decide +kernel) (by decide +kernel), trivial, ws_X10_lostBySite, by decide +kernel, by decide +kernel, by decide +kernel, by decide⟩
theorem ki_X10_lostBySite : Cond.instanceMethod yX10_lostBySite ∈ gw ∧ Cond.selects yX10_lostBySite.cls yX10_lostBySite yX10_lostBySite ∈ gw := ⟨gw_at 1334 (by decide +kernel) (by decide +kernel), gw_at 38 (by decide +kernel) (by decide +kernel)⟩
def f_Water_site_b44  (k44 : Hp → Nat → Int32 → Int32 → Int32 → Int32 → Option ((Int32 ⊕ Nat) × Hp)) (h : Hp) (x0 : Nat) (x1 : Int32) (x2 : Int32) (x3 : Int32) (x4 : Int32)  : Option ((Int32 ⊕ Nat) × Hp) :=
if hS h x0 = 10 then (
if hS h (hR h x0 4) = 4 then (
if (hI h (hR h x0 4) 0) ≤ x4 then (
some (.inl x2, h)

) else (
bI (f_Water_lostBySite h x0 x4 x1) fun v4 h5 =>
if x2 = (-1 : Int32) then (
f_Water_site_b76  k44 h5 x0 x1 x4 v4

) else (
if x3 ≤ v4 then (
f_Water_site_b82  k44 h5 x0 x1 x2 x3 x4

) else (
f_Water_site_b76  k44 h5 x0 x1 x4 v4

)

)

)
) else none) else none
set_option maxRecDepth 20000 in
set_option maxHeartbeats 4000000 in
theorem f_Water_site_b44_ok {l : Launch} {X : Nat × (Nat → Int32)} (hst : l.stackTraces = false) {d : Nat} (hd : 6 ≤ d)   {k44 : Hp → Nat → Int32 → Int32 → Int32 → Int32 → Option ((Int32 ⊕ Nat) × Hp)} (hk44 : ∀ (h : Hp) (x0 : Nat) (x1 : Int32) (x2 : Int32) (x3 : Int32) (x4 : Int32)  (r : (Int32 ⊕ Nat) × Hp), k44 h x0 x1 x2 x3 x4 = some r → Rn l X mX10_site d 44 [(0, .ref x0), (1, .int x1), (2, .int x2), (3, .int x3), (4, .int x4)] [] h (xI r) r.2) {h : Hp} {x0 : Nat} {x1 : Int32} {x2 : Int32} {x3 : Int32} {x4 : Int32}  {r : (Int32 ⊕ Nat) × Hp} (E : f_Water_site_b44  k44 h x0 x1 x2 x3 x4 = some r) : Rn l X mX10_site d 44 [(0, .ref x0), (1, .int x1), (2, .int x2), (3, .int x3), (4, .int x4)] [] h (xI r) r.2 := by
  unfold f_Water_site_b44 at E
  refine Rn.iload (pc' := 46) dX10_site_44 4 rfl rfl ?_
  refine Rn.aload_n (pc' := 47) dX10_site_46 rfl 0 rfl rfl ?_
  obtain ⟨g1, E⟩ := gd_of E
  refine Rn.getR (pc' := 50) fl_X10_42_9 g1 rfl dX10_site_47 rfl ?_
  obtain ⟨g2, E⟩ := gd_of E
  refine Rn.getI (pc' := 53) fl_X10_73_3 g2 rfl dX10_site_50 rfl ?_
  refine Rn.icmp_ge (pc' := 56) (tgt := 88) dX10_site_53 (by decide) rfl (fun c3 => ?_) (fun c3 => ?_)
  · replace E := (if_of E).1 c3
    refine Rn.iload_n (pc' := 89) dX10_site_88 rfl 2 rfl rfl ?_
    cases E
    exact Rn.zret rfl rfl dX10_site_89
  · replace E := (if_of E).2 c3
    refine Rn.aload_n (pc' := 57) dX10_site_56 rfl 0 rfl rfl ?_
    refine Rn.iload (pc' := 59) dX10_site_57 4 rfl rfl ?_
    refine Rn.iload_n (pc' := 60) dX10_site_59 rfl 1 rfl rfl ?_
    obtain ⟨v4, h5, e6, E⟩ := bI_of E
    refine Rn.callV1 (pc' := 63) (As := [.int x4, .int x1]) (rest := []) (f_Water_lostBySite_ok hst e6) (Nat.le_trans (by decide) hd) rfl kb_X10_296 ki_X10_lostBySite rfl g1 rfl rfl (Nat.le_of_ble_eq_true rfl) dX10_site_60 rfl rfl ?_
    refine Rn.istore (pc' := 65) (L' := [(5, .int v4), (0, .ref x0), (1, .int x1), (2, .int x2), (3, .int x3), (4, .int x4)]) dX10_site_63 (by decide) rfl rfl ?_
    refine Rn.iload_n (pc' := 66) dX10_site_65 rfl 3 rfl rfl ?_
    refine Rn.iconst (pc' := 67) (v := (-1 : Int32)) (hv := by decide) dX10_site_66 rfl ?_
    refine Rn.icmp_eq (pc' := 70) (tgt := 76) dX10_site_67 (by decide) rfl (fun c7 => ?_) (fun c7 => ?_)
    · replace E := (if_of E).1 c7
      refine Rn.sub [1, 2, 5, 0] rfl ?_
      exact f_Water_site_b76_ok hst hd  hk44 E
    · replace E := (if_of E).2 c7
      refine Rn.iload (pc' := 72) dX10_site_70 0 rfl rfl ?_
      refine Rn.iload_n (pc' := 73) dX10_site_72 rfl 4 rfl rfl ?_
      refine Rn.icmp_ge (pc' := 76) (tgt := 82) dX10_site_73 (by decide) rfl (fun c8 => ?_) (fun c8 => ?_)
      · replace E := (if_of E).1 c8
        refine Rn.sub [1, 2, 3, 4, 5] rfl ?_
        exact f_Water_site_b82_ok hst hd  hk44 E
      · replace E := (if_of E).2 c8
        refine Rn.sub [1, 2, 5, 0] rfl ?_
        exact f_Water_site_b76_ok hst hd  hk44 E
def f_Water_site_L44   (n : Nat) : Hp → Nat → Int32 → Int32 → Int32 → Int32 → Option ((Int32 ⊕ Nat) × Hp) := Nat.rec (motive := fun _ => Hp → Nat → Int32 → Int32 → Int32 → Int32 → Option ((Int32 ⊕ Nat) × Hp)) (fun _ _ _ _ _ _ => none) (fun _ rec => f_Water_site_b44   rec) n
theorem f_Water_site_L44_ok {l : Launch} {X : Nat × (Nat → Int32)} (hst : l.stackTraces = false) {d : Nat} (hd : 6 ≤ d)     : ∀ (n : Nat) (h : Hp) (x0 : Nat) (x1 : Int32) (x2 : Int32) (x3 : Int32) (x4 : Int32)  (r : (Int32 ⊕ Nat) × Hp), f_Water_site_L44   n h x0 x1 x2 x3 x4 = some r → Rn l X mX10_site d 44 [(0, .ref x0), (1, .int x1), (2, .int x2), (3, .int x3), (4, .int x4)] [] h (xI r) r.2 := by
  intro n
  induction n with
  | zero => intro h x0 x1 x2 x3 x4 r E; cases E
  | succ n ih => intro h x0 x1 x2 x3 x4 r E; exact f_Water_site_b44_ok hst hd   ih E
def f_Water_site_b0   (h : Hp) (x0 : Nat) (x1 : Int32)  : Option ((Int32 ⊕ Nat) × Hp) :=
if x1 < (1 : Int32) then (
f_Water_site_b12   h

) else (
if x1 ≤ (999 : Int32) then (
if hS h x0 = 10 then (
if hS h (hR h x0 4) = 4 then (
if (hI h (hR h x0 4) 0) < (8 : Int32) then (
f_Water_site_L44   FU h x0 x1 (-1 : Int32) (0 : Int32) (0 : Int32)

) else (
some (.inl (-1 : Int32), h)

)
) else none) else none
) else (
f_Water_site_b12   h

)

)

set_option maxRecDepth 20000 in
set_option maxHeartbeats 4000000 in
theorem f_Water_site_b0_ok {l : Launch} {X : Nat × (Nat → Int32)} (hst : l.stackTraces = false) {d : Nat} (hd : 6 ≤ d)     {h : Hp} {x0 : Nat} {x1 : Int32}  {r : (Int32 ⊕ Nat) × Hp} (E : f_Water_site_b0   h x0 x1 = some r) : Rn l X mX10_site d 0 [(0, .ref x0), (1, .int x1)] [] h (xI r) r.2 := by
  unfold f_Water_site_b0 at E
  refine Rn.iload_n (pc' := 1) dX10_site_0 rfl 1 rfl rfl ?_
  refine Rn.iconst (pc' := 2) (v := (1 : Int32)) (hv := by decide) dX10_site_1 rfl ?_
  refine Rn.icmp_lt (pc' := 5) (tgt := 12) dX10_site_2 (by decide) rfl (fun c1 => ?_) (fun c1 => ?_)
  · replace E := (if_of E).1 c1
    refine Rn.sub [] rfl ?_
    exact f_Water_site_b12_ok hst hd   E
  · replace E := (if_of E).2 c1
    refine Rn.iload_n (pc' := 6) dX10_site_5 rfl 1 rfl rfl ?_
    refine Rn.sipush (pc' := 9) (v := (999 : Int32)) (hv := by decide) dX10_site_6 rfl ?_
    refine Rn.icmp_le (pc' := 12) (tgt := 23) dX10_site_9 (by decide) rfl (fun c2 => ?_) (fun c2 => ?_)
    · replace E := (if_of E).1 c2
      refine Rn.aload_n (pc' := 24) dX10_site_23 rfl 0 rfl rfl ?_
      obtain ⟨g3, E⟩ := gd_of E
      refine Rn.getR (pc' := 27) fl_X10_42_9 g3 rfl dX10_site_24 rfl ?_
      obtain ⟨g4, E⟩ := gd_of E
      refine Rn.getI (pc' := 30) fl_X10_73_3 g4 rfl dX10_site_27 rfl ?_
      refine Rn.bipush (pc' := 32) (v := (8 : Int32)) (hv := by decide) dX10_site_30 rfl ?_
      refine Rn.icmp_lt (pc' := 35) (tgt := 37) dX10_site_32 (by decide) rfl (fun c5 => ?_) (fun c5 => ?_)
      · replace E := (if_of E).1 c5
        refine Rn.iconst (pc' := 38) (v := (-1 : Int32)) (hv := by decide) dX10_site_37 rfl ?_
        refine Rn.istore_n (pc' := 39) (L' := [(2, .int (-1 : Int32)), (0, .ref x0), (1, .int x1)]) dX10_site_38 rfl (by decide) rfl rfl ?_
        refine Rn.iconst (pc' := 40) (v := (0 : Int32)) (hv := by decide) dX10_site_39 rfl ?_
        refine Rn.istore_n (pc' := 41) (L' := [(3, .int (0 : Int32)), (2, .int (-1 : Int32)), (0, .ref x0), (1, .int x1)]) dX10_site_40 rfl (by decide) rfl rfl ?_
        refine Rn.iconst (pc' := 42) (v := (0 : Int32)) (hv := by decide) dX10_site_41 rfl ?_
        refine Rn.istore (pc' := 44) (L' := [(4, .int (0 : Int32)), (3, .int (0 : Int32)), (2, .int (-1 : Int32)), (0, .ref x0), (1, .int x1)]) dX10_site_42 (by decide) rfl rfl ?_
        refine Rn.sub [3, 4, 2, 1, 0] rfl ?_
        exact f_Water_site_L44_ok hst hd   FU _ _ _ _ _ _ _ E
      · replace E := (if_of E).2 c5
        refine Rn.iconst (pc' := 36) (v := (-1 : Int32)) (hv := by decide) dX10_site_35 rfl ?_
        cases E
        exact Rn.zret rfl rfl dX10_site_36
    · replace E := (if_of E).2 c2
      refine Rn.sub [] rfl ?_
      exact f_Water_site_b12_ok hst hd   E
def f_Water_site (h : Hp) (x0 : Nat) (x1 : Int32) : Option ((Int32 ⊕ Nat) × Hp) := f_Water_site_b0  h x0 x1
theorem f_Water_site_ok {l : Launch} {X : Nat × (Nat → Int32)} (hst : l.stackTraces = false) {h : Hp} {x0 : Nat} {x1 : Int32} {r : (Int32 ⊕ Nat) × Hp} (E : f_Water_site h x0 x1 = some r) : MC l X yX10_site mX10_site 6 [.ref x0, .int x1] h (xI r) r.2 :=
  MC.body (by decide +kernel) rfl (by decide) hst (Nat.le_of_ble_eq_true rfl) (f_Water_site_b0_ok hst (Nat.le_refl _) E)
abbrev mL_site : MI := (RL, cL_site, 4, (some Jvm.ClassFile.FieldType.int), [(0, 9, 12, 13)], false)
theorem ws_L_site : ∀ w ∈ wsM yL_site mL_site, w ∈ gw := List.forall_mem_cons.mpr ⟨gw_at 1326 (by decide +kernel) (by decide +kernel), fun _ h => h⟩
theorem kb_L_74 : KB RL 74 yX10_site mX10_site 1 := ⟨gw_at 1327 (by decide +kernel) (by decide +kernel), gw_at 107 (by decide +kernel) (by decide +kernel), trivial, ws_X10_site, by decide +kernel, by decide +kernel, by decide +kernel, by decide⟩
theorem ki_X10_site : Cond.instanceMethod yX10_site ∈ gw ∧ Cond.selects yX10_site.cls yX10_site yX10_site ∈ gw := ⟨gw_at 1328 (by decide +kernel) (by decide +kernel), gw_at 1329 (by decide +kernel) (by decide +kernel)⟩
def f_Lw_site_b0   (h : Hp) (x0 : Nat) (x1 : Int32) (x2 : Nat)  : Option (Int32 × Hp) :=
if hS h x0 = 10 then (
bC (f_Water_site h x0 x1) (fun v2 h3 =>
if hS h3 x2 = 22 then (
if ib (0 : Int32) (hL h3 x2) = true then (
wr (sJ h3 x2 (ix (0 : Int32)) (Int32.toInt64 v2)) fun h7 =>
some ((0 : Int32), h7)
) else none) else none
) (fun x_ h3 =>
if x_ = 2 then (
some ((1 : Int32), h3)

) else (
none))
) else none
set_option maxRecDepth 20000 in
set_option maxHeartbeats 4000000 in
theorem f_Lw_site_b0_ok {l : Launch} {X : Nat × (Nat → Int32)} (hst : l.stackTraces = false) {d : Nat} (hd : 7 ≤ d)     {h : Hp} {x0 : Nat} {x1 : Int32} {x2 : Nat}  {r : Int32 × Hp} (E : f_Lw_site_b0   h x0 x1 x2 = some r) : Rn l X mL_site d 0 [(0, .ref x0), (1, .int x1), (2, .ref x2)] [] h (eI r) r.2 := by
  unfold f_Lw_site_b0 at E
  refine Rn.aload_n (pc' := 1) dL_site_0 rfl 2 rfl rfl ?_
  refine Rn.iconst (pc' := 2) (v := (0 : Int32)) (hv := by decide) dL_site_1 rfl ?_
  refine Rn.aload_n (pc' := 3) dL_site_2 rfl 0 rfl rfl ?_
  refine Rn.iload_n (pc' := 4) dL_site_3 rfl 1 rfl rfl ?_
  obtain ⟨g1, E⟩ := gd_of E
  rcases bC_of E with ⟨v2, h3, e4, E⟩ | ⟨x_, h3, e4, E⟩
  · refine Rn.callV1 (pc' := 7) (As := [.int x1]) (rest := [.int (0 : Int32), .ref x2]) (f_Water_site_ok hst e4) (Nat.le_trans (by decide) hd) rfl kb_L_74 ki_X10_site rfl g1 rfl rfl (Nat.le_of_ble_eq_true rfl) dL_site_4 rfl rfl ?_
    refine Rn.i2l (pc' := 8) dL_site_7 rfl ?_
    obtain ⟨g5, E⟩ := gd_of E
    obtain ⟨g6, E⟩ := gd_of E
    refine Rn.last (pc' := 9) g5 g6 dL_site_8 rfl ?_
    replace E := wr_of E
    generalize eh8 : sJ h3 x2 (ix (0 : Int32)) (Int32.toInt64 v2) = h7 at E ⊢
    refine Rn.goto (pc' := 15) dL_site_9 (by decide) ?_
    refine Rn.iconst (pc' := 16) (v := (0 : Int32)) (hv := by decide) dL_site_15 rfl ?_
    cases E
    exact Rn.zret rfl rfl dL_site_16
  · refine Rn.callVX (As := [.int x1]) (rest := [.int (0 : Int32), .ref x2]) (f_Water_site_ok hst e4) (Nat.le_trans (by decide) hd) rfl kb_L_74 ki_X10_site rfl g1 rfl rfl (Nat.le_of_ble_eq_true rfl) dL_site_4 ?_
    by_cases c9 : x_ = 2
    · replace E := (if_of E).1 c9
      subst c9
      refine RnX.catch (x := 2) (i := 3) (pch := 13) 0 rfl (pre0) (by decide) (by decide) kk_L_13 (by decide) (Or.inl ⟨3, rfl, dL_site_12, rfl⟩) (by decide) ?_
      change Rn _ _ _ _ _ [(0, .ref x0), (1, .int x1), (2, .ref x2)] _ _ _ _
      refine Rn.iconst (pc' := 14) (v := (1 : Int32)) (hv := by decide) dL_site_13 rfl ?_
      cases E
      exact Rn.zret rfl rfl dL_site_14
    replace E := (if_of E).2 c9
    cases E
def f_Lw_site (h : Hp) (x0 : Nat) (x1 : Int32) (x2 : Nat) : Option (Int32 × Hp) := f_Lw_site_b0  h x0 x1 x2
theorem f_Lw_site_ok {l : Launch} {X : Nat × (Nat → Int32)} (hst : l.stackTraces = false) {h : Hp} {x0 : Nat} {x1 : Int32} {x2 : Nat} {r : Int32 × Hp} (E : f_Lw_site h x0 x1 x2 = some r) : MC l X yL_site mL_site 7 [.ref x0, .int x1, .ref x2] h (eI r) r.2 :=
  MC.body (by decide +kernel) rfl (by decide) hst (Nat.le_of_ble_eq_true rfl) (f_Lw_site_b0_ok hst (Nat.le_refl _) E)
abbrev mX11_site : MI := (RX11, cX11_site, 8, (some Jvm.ClassFile.FieldType.int), [], false)
theorem ws_X11_site : ∀ w ∈ wsM yX11_site mX11_site, w ∈ gw := List.forall_mem_cons.mpr ⟨gw_at 1892 (by decide +kernel) (by decide +kernel), fun _ h => h⟩
def f_Model_site_b184  (k56 : Hp → Nat → Int32 → Int32 → Int32 → Int32 → Int32 → Option (Int32 × Hp)) (h : Hp) (x0 : Nat) (x1 : Int32) (x2 : Int32) (x3 : Int32) (x4 : Int32) (x5 : Int32)  : Option (Int32 × Hp) :=
k56 h x0 x1 x2 x3 x4 (x5 + (1 : Int32))

set_option maxRecDepth 20000 in
set_option maxHeartbeats 4000000 in
theorem f_Model_site_b184_ok {l : Launch} {X : Nat × (Nat → Int32)} (hst : l.stackTraces = false) {d : Nat} (hd : 5 ≤ d)   {k56 : Hp → Nat → Int32 → Int32 → Int32 → Int32 → Int32 → Option (Int32 × Hp)} (hk56 : ∀ (h : Hp) (x0 : Nat) (x1 : Int32) (x2 : Int32) (x3 : Int32) (x4 : Int32) (x5 : Int32)  (r : Int32 × Hp), k56 h x0 x1 x2 x3 x4 x5 = some r → Rn l X mX11_site d 56 [(0, .ref x0), (1, .int x1), (2, .int x2), (3, .int x3), (4, .int x4), (5, .int x5)] [] h (eI r) r.2) {h : Hp} {x0 : Nat} {x1 : Int32} {x2 : Int32} {x3 : Int32} {x4 : Int32} {x5 : Int32}  {r : Int32 × Hp} (E : f_Model_site_b184  k56 h x0 x1 x2 x3 x4 x5 = some r) : Rn l X mX11_site d 184 [(0, .ref x0), (1, .int x1), (2, .int x2), (3, .int x3), (4, .int x4), (5, .int x5)] [] h (eI r) r.2 := by
  unfold f_Model_site_b184 at E
  refine Rn.iinc (pc' := 187) (v := (x5 + (1 : Int32))) (L' := [(5, .int (x5 + (1 : Int32))), (0, .ref x0), (1, .int x1), (2, .int x2), (3, .int x3), (4, .int x4)]) dX11_site_184 5 rfl rfl (by decide) rfl rfl ?_
  refine Rn.goto (pc' := 56) dX11_site_187 (by decide) ?_
  refine Rn.sub [1, 2, 3, 4, 5, 0] rfl ?_
  exact hk56 _ _ _ _ _ _ _ _ E
def f_Model_site_b177  (k56 : Hp → Nat → Int32 → Int32 → Int32 → Int32 → Int32 → Option (Int32 × Hp)) (h : Hp) (x0 : Nat) (x1 : Int32) (x2 : Int32) (x5 : Int32) (x7 : Int32)  : Option (Int32 × Hp) :=
f_Model_site_b184  k56 h x0 x1 x2 x5 x7 x5

set_option maxRecDepth 20000 in
set_option maxHeartbeats 4000000 in
theorem f_Model_site_b177_ok {l : Launch} {X : Nat × (Nat → Int32)} (hst : l.stackTraces = false) {d : Nat} (hd : 5 ≤ d)   {k56 : Hp → Nat → Int32 → Int32 → Int32 → Int32 → Int32 → Option (Int32 × Hp)} (hk56 : ∀ (h : Hp) (x0 : Nat) (x1 : Int32) (x2 : Int32) (x3 : Int32) (x4 : Int32) (x5 : Int32)  (r : Int32 × Hp), k56 h x0 x1 x2 x3 x4 x5 = some r → Rn l X mX11_site d 56 [(0, .ref x0), (1, .int x1), (2, .int x2), (3, .int x3), (4, .int x4), (5, .int x5)] [] h (eI r) r.2) {h : Hp} {x0 : Nat} {x1 : Int32} {x2 : Int32} {x5 : Int32} {x7 : Int32}  {r : Int32 × Hp} (E : f_Model_site_b177  k56 h x0 x1 x2 x5 x7 = some r) : Rn l X mX11_site d 177 [(0, .ref x0), (1, .int x1), (2, .int x2), (5, .int x5), (7, .int x7)] [] h (eI r) r.2 := by
  unfold f_Model_site_b177 at E
  refine Rn.iload (pc' := 179) dX11_site_177 3 rfl rfl ?_
  refine Rn.istore_n (pc' := 180) (L' := [(3, .int x5), (0, .ref x0), (1, .int x1), (2, .int x2), (5, .int x5), (7, .int x7)]) dX11_site_179 rfl (by decide) rfl rfl ?_
  refine Rn.iload (pc' := 182) dX11_site_180 5 rfl rfl ?_
  refine Rn.istore (pc' := 184) (L' := [(4, .int x7), (3, .int x5), (0, .ref x0), (1, .int x1), (2, .int x2), (5, .int x5), (7, .int x7)]) dX11_site_182 (by decide) rfl rfl ?_
  refine Rn.sub [2, 3, 4, 1, 0, 5] rfl ?_
  exact f_Model_site_b184_ok hst hd  hk56 E
def f_Model_site_b130  (k56 : Hp → Nat → Int32 → Int32 → Int32 → Int32 → Int32 → Option (Int32 × Hp)) (k130 : Hp → Nat → Int32 → Int32 → Int32 → Int32 → Int32 → Int32 → Int32 → Option (Int32 × Hp)) (h : Hp) (x0 : Nat) (x1 : Int32) (x2 : Int32) (x3 : Int32) (x4 : Int32) (x5 : Int32) (x6 : Int32) (x7 : Int32)  : Option (Int32 × Hp) :=
if (12 : Int32) ≤ x7 then (
if hS h x0 = 11 then (
if hS h (hR h x0 1) = 20 then (
if ib (6 : Int32) (hL h (hR h x0 1)) = true then (
bV (f_Model_laysBack h x0) fun h6 =>
if x3 < 0 then (
f_Model_site_b177  k56 h6 x0 x1 x2 x5 ((hI h (hR h x0 1) (ix (6 : Int32))) - x6)

) else (
if ((hI h (hR h x0 1) (ix (6 : Int32))) - x6) < x4 then (
f_Model_site_b177  k56 h6 x0 x1 x2 x5 ((hI h (hR h x0 1) (ix (6 : Int32))) - x6)

) else (
f_Model_site_b184  k56 h6 x0 x1 x2 x3 x4 x5

)

)
) else none) else none) else none
) else (
if hS h x0 = 11 then (
bV (f_Model_leaks h x0) fun h12 =>
k130 h12 x0 x1 x2 x3 x4 x5 x6 (x7 + (1 : Int32))
) else none
)

set_option maxRecDepth 20000 in
set_option maxHeartbeats 4000000 in
theorem f_Model_site_b130_ok {l : Launch} {X : Nat × (Nat → Int32)} (hst : l.stackTraces = false) {d : Nat} (hd : 5 ≤ d)   {k56 : Hp → Nat → Int32 → Int32 → Int32 → Int32 → Int32 → Option (Int32 × Hp)} {k130 : Hp → Nat → Int32 → Int32 → Int32 → Int32 → Int32 → Int32 → Int32 → Option (Int32 × Hp)} (hk56 : ∀ (h : Hp) (x0 : Nat) (x1 : Int32) (x2 : Int32) (x3 : Int32) (x4 : Int32) (x5 : Int32)  (r : Int32 × Hp), k56 h x0 x1 x2 x3 x4 x5 = some r → Rn l X mX11_site d 56 [(0, .ref x0), (1, .int x1), (2, .int x2), (3, .int x3), (4, .int x4), (5, .int x5)] [] h (eI r) r.2) (hk130 : ∀ (h : Hp) (x0 : Nat) (x1 : Int32) (x2 : Int32) (x3 : Int32) (x4 : Int32) (x5 : Int32) (x6 : Int32) (x7 : Int32)  (r : Int32 × Hp), k130 h x0 x1 x2 x3 x4 x5 x6 x7 = some r → Rn l X mX11_site d 130 [(0, .ref x0), (1, .int x1), (2, .int x2), (3, .int x3), (4, .int x4), (5, .int x5), (6, .int x6), (7, .int x7)] [] h (eI r) r.2) {h : Hp} {x0 : Nat} {x1 : Int32} {x2 : Int32} {x3 : Int32} {x4 : Int32} {x5 : Int32} {x6 : Int32} {x7 : Int32}  {r : Int32 × Hp} (E : f_Model_site_b130  k56 k130 h x0 x1 x2 x3 x4 x5 x6 x7 = some r) : Rn l X mX11_site d 130 [(0, .ref x0), (1, .int x1), (2, .int x2), (3, .int x3), (4, .int x4), (5, .int x5), (6, .int x6), (7, .int x7)] [] h (eI r) r.2 := by
  unfold f_Model_site_b130 at E
  refine Rn.iload (pc' := 132) dX11_site_130 7 rfl rfl ?_
  refine Rn.bipush (pc' := 134) (v := (12 : Int32)) (hv := by decide) dX11_site_132 rfl ?_
  refine Rn.icmp_ge (pc' := 137) (tgt := 147) dX11_site_134 (by decide) rfl (fun c1 => ?_) (fun c1 => ?_)
  · replace E := (if_of E).1 c1
    refine Rn.aload_n (pc' := 148) dX11_site_147 rfl 0 rfl rfl ?_
    obtain ⟨g2, E⟩ := gd_of E
    refine Rn.getR (pc' := 151) fl_X11_13_10 g2 rfl dX11_site_148 rfl ?_
    refine Rn.bipush (pc' := 153) (v := (6 : Int32)) (hv := by decide) dX11_site_151 rfl ?_
    obtain ⟨g3, E⟩ := gd_of E
    obtain ⟨g4, E⟩ := gd_of E
    refine Rn.iald (pc' := 154) g3 g4 dX11_site_153 rfl ?_
    refine Rn.iload (pc' := 156) dX11_site_154 6 rfl rfl ?_
    refine Rn.isub (pc' := 157) dX11_site_156 rfl ?_
    refine Rn.istore (pc' := 159) (L' := [(7, .int ((hI h (hR h x0 1) (ix (6 : Int32))) - x6)), (0, .ref x0), (1, .int x1), (2, .int x2), (3, .int x3), (4, .int x4), (5, .int x5), (6, .int x6)]) dX11_site_157 (by decide) rfl rfl ?_
    refine Rn.aload_n (pc' := 160) dX11_site_159 rfl 1 rfl rfl ?_
    obtain ⟨h6, e7, E⟩ := bV_of E
    refine Rn.callV1 (pc' := 163) (As := []) (rest := []) (f_Model_laysBack_ok hst e7) (Nat.le_trans (by decide) hd) rfl kb_X11_335 ki_X11_laysBack rfl g2 rfl rfl (Nat.le_of_ble_eq_true rfl) dX11_site_160 rfl rfl ?_
    refine Rn.iload_n (pc' := 164) dX11_site_163 rfl 4 rfl rfl ?_
    refine Rn.if_lt (pc' := 167) (tgt := 177) dX11_site_164 (by decide) rfl (fun c8 => ?_) (fun c8 => ?_)
    · replace E := (if_of E).1 c8
      refine Rn.sub [1, 2, 3, 6, 0] rfl ?_
      exact f_Model_site_b177_ok hst hd  hk56 E
    · replace E := (if_of E).2 c8
      refine Rn.iload (pc' := 169) dX11_site_167 0 rfl rfl ?_
      refine Rn.iload (pc' := 171) dX11_site_169 5 rfl rfl ?_
      refine Rn.icmp_lt (pc' := 174) (tgt := 177) dX11_site_171 (by decide) rfl (fun c9 => ?_) (fun c9 => ?_)
      · replace E := (if_of E).1 c9
        refine Rn.sub [1, 2, 3, 6, 0] rfl ?_
        exact f_Model_site_b177_ok hst hd  hk56 E
      · replace E := (if_of E).2 c9
        refine Rn.goto (pc' := 184) dX11_site_174 (by decide) ?_
        refine Rn.sub [1, 2, 3, 4, 5, 6] rfl ?_
        exact f_Model_site_b184_ok hst hd  hk56 E
  · replace E := (if_of E).2 c1
    refine Rn.aload_n (pc' := 138) dX11_site_137 rfl 0 rfl rfl ?_
    obtain ⟨g10, E⟩ := gd_of E
    obtain ⟨h12, e13, E⟩ := bV_of E
    refine Rn.callV1 (pc' := 141) (As := []) (rest := []) (f_Model_leaks_ok hst e13) (Nat.le_trans (by decide) hd) rfl kb_X11_312 ki_X11_leaks rfl g10 rfl rfl (Nat.le_of_ble_eq_true rfl) dX11_site_138 rfl rfl ?_
    refine Rn.iinc (pc' := 144) (v := (x7 + (1 : Int32))) (L' := [(7, .int (x7 + (1 : Int32))), (0, .ref x0), (1, .int x1), (2, .int x2), (3, .int x3), (4, .int x4), (5, .int x5), (6, .int x6)]) dX11_site_141 7 rfl rfl (by decide) rfl rfl ?_
    refine Rn.goto (pc' := 130) dX11_site_144 (by decide) ?_
    refine Rn.sub [1, 2, 3, 4, 5, 6, 7, 0] rfl ?_
    exact hk130 _ _ _ _ _ _ _ _ _ _ E
def f_Model_site_L130  (k56 : Hp → Nat → Int32 → Int32 → Int32 → Int32 → Int32 → Option (Int32 × Hp)) (n : Nat) : Hp → Nat → Int32 → Int32 → Int32 → Int32 → Int32 → Int32 → Int32 → Option (Int32 × Hp) := Nat.rec (motive := fun _ => Hp → Nat → Int32 → Int32 → Int32 → Int32 → Int32 → Int32 → Int32 → Option (Int32 × Hp)) (fun _ _ _ _ _ _ _ _ _ => none) (fun _ rec => f_Model_site_b130  k56 rec) n
theorem f_Model_site_L130_ok {l : Launch} {X : Nat × (Nat → Int32)} (hst : l.stackTraces = false) {d : Nat} (hd : 5 ≤ d)   {k56 : Hp → Nat → Int32 → Int32 → Int32 → Int32 → Int32 → Option (Int32 × Hp)} (hk56 : ∀ (h : Hp) (x0 : Nat) (x1 : Int32) (x2 : Int32) (x3 : Int32) (x4 : Int32) (x5 : Int32)  (r : Int32 × Hp), k56 h x0 x1 x2 x3 x4 x5 = some r → Rn l X mX11_site d 56 [(0, .ref x0), (1, .int x1), (2, .int x2), (3, .int x3), (4, .int x4), (5, .int x5)] [] h (eI r) r.2) : ∀ (n : Nat) (h : Hp) (x0 : Nat) (x1 : Int32) (x2 : Int32) (x3 : Int32) (x4 : Int32) (x5 : Int32) (x6 : Int32) (x7 : Int32)  (r : Int32 × Hp), f_Model_site_L130  k56 n h x0 x1 x2 x3 x4 x5 x6 x7 = some r → Rn l X mX11_site d 130 [(0, .ref x0), (1, .int x1), (2, .int x2), (3, .int x3), (4, .int x4), (5, .int x5), (6, .int x6), (7, .int x7)] [] h (eI r) r.2 := by
  intro n
  induction n with
  | zero => intro h x0 x1 x2 x3 x4 x5 x6 x7 r E; cases E
  | succ n ih => intro h x0 x1 x2 x3 x4 x5 x6 x7 r E; exact f_Model_site_b130_ok hst hd  hk56 ih E
def f_Model_site_b65  (k56 : Hp → Nat → Int32 → Int32 → Int32 → Int32 → Int32 → Option (Int32 × Hp)) (k65 : Hp → Nat → Int32 → Int32 → Int32 → Int32 → Int32 → Int32 → Option (Int32 × Hp)) (h : Hp) (x0 : Nat) (x1 : Int32) (x2 : Int32) (x3 : Int32) (x4 : Int32) (x5 : Int32) (x6 : Int32)  : Option (Int32 × Hp) :=
if (35 : Int32) ≤ x6 then (
if hS h x0 = 11 then (
bV (f_Model_setsCistern h x0 x2 (0 : Int32) x1) fun h4 =>
if hS h4 x0 = 11 then (
bV (f_Model_setsCistern h4 x0 x2 (4 : Int32) (-1 : Int32)) fun h8 =>
if hS h8 x0 = 11 then (
bV (f_Model_setsCistern h8 x0 x5 (4 : Int32) x2) fun h12 =>
if hS h12 x0 = 11 then (
if hS h12 (hR h12 x0 1) = 20 then (
if ib (0 : Int32) (hL h12 (hR h12 x0 1)) = true then (
if ib (0 : Int32) (hL h12 (hR h12 x0 1)) = true then (
wr (sI h12 (hR h12 x0 1) (ix (0 : Int32)) ((hI h12 (hR h12 x0 1) (ix (0 : Int32))) + (1 : Int32))) fun h18 =>
if hS h18 (hR h18 x0 1) = 20 then (
if ib (6 : Int32) (hL h18 (hR h18 x0 1)) = true then (
f_Model_site_L130  k56 FU h18 x0 x1 x2 x3 x4 x5 (hI h18 (hR h18 x0 1) (ix (6 : Int32))) (0 : Int32)
) else none) else none) else none) else none) else none) else none) else none) else none) else none
) else (
if hS h x0 = 11 then (
bV (f_Model_setsCistern h x0 x2 x6 (0 : Int32)) fun h24 =>
k65 h24 x0 x1 x2 x3 x4 x5 (x6 + (1 : Int32))
) else none
)

set_option maxRecDepth 20000 in
set_option maxHeartbeats 4000000 in
theorem f_Model_site_b65_ok {l : Launch} {X : Nat × (Nat → Int32)} (hst : l.stackTraces = false) {d : Nat} (hd : 5 ≤ d)   {k56 : Hp → Nat → Int32 → Int32 → Int32 → Int32 → Int32 → Option (Int32 × Hp)} {k65 : Hp → Nat → Int32 → Int32 → Int32 → Int32 → Int32 → Int32 → Option (Int32 × Hp)} (hk56 : ∀ (h : Hp) (x0 : Nat) (x1 : Int32) (x2 : Int32) (x3 : Int32) (x4 : Int32) (x5 : Int32)  (r : Int32 × Hp), k56 h x0 x1 x2 x3 x4 x5 = some r → Rn l X mX11_site d 56 [(0, .ref x0), (1, .int x1), (2, .int x2), (3, .int x3), (4, .int x4), (5, .int x5)] [] h (eI r) r.2) (hk65 : ∀ (h : Hp) (x0 : Nat) (x1 : Int32) (x2 : Int32) (x3 : Int32) (x4 : Int32) (x5 : Int32) (x6 : Int32)  (r : Int32 × Hp), k65 h x0 x1 x2 x3 x4 x5 x6 = some r → Rn l X mX11_site d 65 [(0, .ref x0), (1, .int x1), (2, .int x2), (3, .int x3), (4, .int x4), (5, .int x5), (6, .int x6)] [] h (eI r) r.2) {h : Hp} {x0 : Nat} {x1 : Int32} {x2 : Int32} {x3 : Int32} {x4 : Int32} {x5 : Int32} {x6 : Int32}  {r : Int32 × Hp} (E : f_Model_site_b65  k56 k65 h x0 x1 x2 x3 x4 x5 x6 = some r) : Rn l X mX11_site d 65 [(0, .ref x0), (1, .int x1), (2, .int x2), (3, .int x3), (4, .int x4), (5, .int x5), (6, .int x6)] [] h (eI r) r.2 := by
  unfold f_Model_site_b65 at E
  refine Rn.iload (pc' := 67) dX11_site_65 6 rfl rfl ?_
  refine Rn.bipush (pc' := 69) (v := (35 : Int32)) (hv := by decide) dX11_site_67 rfl ?_
  refine Rn.icmp_ge (pc' := 72) (tgt := 86) dX11_site_69 (by decide) rfl (fun c1 => ?_) (fun c1 => ?_)
  · replace E := (if_of E).1 c1
    refine Rn.aload_n (pc' := 87) dX11_site_86 rfl 0 rfl rfl ?_
    refine Rn.iload_n (pc' := 88) dX11_site_87 rfl 2 rfl rfl ?_
    refine Rn.iconst (pc' := 89) (v := (0 : Int32)) (hv := by decide) dX11_site_88 rfl ?_
    refine Rn.iload_n (pc' := 90) dX11_site_89 rfl 1 rfl rfl ?_
    obtain ⟨g2, E⟩ := gd_of E
    obtain ⟨h4, e5, E⟩ := bV_of E
    refine Rn.callV1 (pc' := 93) (As := [.int x2, .int (0 : Int32), .int x1]) (rest := []) (f_Model_setsCistern_ok hst e5) (Nat.le_trans (by decide) hd) rfl kb_X11_124 ki_X11_setsCistern rfl g2 rfl rfl (Nat.le_of_ble_eq_true rfl) dX11_site_90 rfl rfl ?_
    refine Rn.aload_n (pc' := 94) dX11_site_93 rfl 0 rfl rfl ?_
    refine Rn.iload_n (pc' := 95) dX11_site_94 rfl 2 rfl rfl ?_
    refine Rn.iconst (pc' := 96) (v := (4 : Int32)) (hv := by decide) dX11_site_95 rfl ?_
    refine Rn.iconst (pc' := 97) (v := (-1 : Int32)) (hv := by decide) dX11_site_96 rfl ?_
    obtain ⟨g6, E⟩ := gd_of E
    obtain ⟨h8, e9, E⟩ := bV_of E
    refine Rn.callV1 (pc' := 100) (As := [.int x2, .int (4 : Int32), .int (-1 : Int32)]) (rest := []) (f_Model_setsCistern_ok hst e9) (Nat.le_trans (by decide) hd) rfl kb_X11_124 ki_X11_setsCistern rfl g6 rfl rfl (Nat.le_of_ble_eq_true rfl) dX11_site_97 rfl rfl ?_
    refine Rn.aload_n (pc' := 101) dX11_site_100 rfl 0 rfl rfl ?_
    refine Rn.iload (pc' := 103) dX11_site_101 5 rfl rfl ?_
    refine Rn.iconst (pc' := 104) (v := (4 : Int32)) (hv := by decide) dX11_site_103 rfl ?_
    refine Rn.iload_n (pc' := 105) dX11_site_104 rfl 2 rfl rfl ?_
    obtain ⟨g10, E⟩ := gd_of E
    obtain ⟨h12, e13, E⟩ := bV_of E
    refine Rn.callV1 (pc' := 108) (As := [.int x5, .int (4 : Int32), .int x2]) (rest := []) (f_Model_setsCistern_ok hst e13) (Nat.le_trans (by decide) hd) rfl kb_X11_124 ki_X11_setsCistern rfl g10 rfl rfl (Nat.le_of_ble_eq_true rfl) dX11_site_105 rfl rfl ?_
    refine Rn.aload_n (pc' := 109) dX11_site_108 rfl 0 rfl rfl ?_
    obtain ⟨g14, E⟩ := gd_of E
    refine Rn.getR (pc' := 112) fl_X11_13_10 g14 rfl dX11_site_109 rfl ?_
    refine Rn.iconst (pc' := 113) (v := (0 : Int32)) (hv := by decide) dX11_site_112 rfl ?_
    refine Rn.dup2 (pc' := 114) (hc := rfl) (hd := rfl) dX11_site_113 rfl ?_
    obtain ⟨g15, E⟩ := gd_of E
    obtain ⟨g16, E⟩ := gd_of E
    refine Rn.iald (pc' := 115) g15 g16 dX11_site_114 rfl ?_
    refine Rn.iconst (pc' := 116) (v := (1 : Int32)) (hv := by decide) dX11_site_115 rfl ?_
    refine Rn.iadd (pc' := 117) dX11_site_116 rfl ?_
    obtain ⟨g17, E⟩ := gd_of E
    refine Rn.iast (pc' := 118) g15 g17 dX11_site_117 rfl ?_
    replace E := wr_of E
    generalize eh19 : sI h12 (hR h12 x0 1) (ix (0 : Int32)) ((hI h12 (hR h12 x0 1) (ix (0 : Int32))) + (1 : Int32)) = h18 at E ⊢
    refine Rn.aload_n (pc' := 119) dX11_site_118 rfl 0 rfl rfl ?_
    refine Rn.getR (pc' := 122) fl_X11_13_10 (kp_sI eh19 g14) rfl dX11_site_119 rfl ?_
    refine Rn.bipush (pc' := 124) (v := (6 : Int32)) (hv := by decide) dX11_site_122 rfl ?_
    obtain ⟨g20, E⟩ := gd_of E
    obtain ⟨g21, E⟩ := gd_of E
    refine Rn.iald (pc' := 125) g20 g21 dX11_site_124 rfl ?_
    refine Rn.istore (pc' := 127) (L' := [(6, .int (hI h18 (hR h18 x0 1) (ix (6 : Int32)))), (0, .ref x0), (1, .int x1), (2, .int x2), (3, .int x3), (4, .int x4), (5, .int x5)]) dX11_site_125 (by decide) rfl rfl ?_
    refine Rn.iconst (pc' := 128) (v := (0 : Int32)) (hv := by decide) dX11_site_127 rfl ?_
    refine Rn.istore (pc' := 130) (L' := [(7, .int (0 : Int32)), (6, .int (hI h18 (hR h18 x0 1) (ix (6 : Int32)))), (0, .ref x0), (1, .int x1), (2, .int x2), (3, .int x3), (4, .int x4), (5, .int x5)]) dX11_site_128 (by decide) rfl rfl ?_
    refine Rn.sub [2, 3, 4, 5, 6, 7, 1, 0] rfl ?_
    exact f_Model_site_L130_ok hst hd  hk56 FU _ _ _ _ _ _ _ _ _ _ E
  · replace E := (if_of E).2 c1
    refine Rn.aload_n (pc' := 73) dX11_site_72 rfl 0 rfl rfl ?_
    refine Rn.iload_n (pc' := 74) dX11_site_73 rfl 2 rfl rfl ?_
    refine Rn.iload (pc' := 76) dX11_site_74 6 rfl rfl ?_
    refine Rn.iconst (pc' := 77) (v := (0 : Int32)) (hv := by decide) dX11_site_76 rfl ?_
    obtain ⟨g22, E⟩ := gd_of E
    obtain ⟨h24, e25, E⟩ := bV_of E
    refine Rn.callV1 (pc' := 80) (As := [.int x2, .int x6, .int (0 : Int32)]) (rest := []) (f_Model_setsCistern_ok hst e25) (Nat.le_trans (by decide) hd) rfl kb_X11_124 ki_X11_setsCistern rfl g22 rfl rfl (Nat.le_of_ble_eq_true rfl) dX11_site_77 rfl rfl ?_
    refine Rn.iinc (pc' := 83) (v := (x6 + (1 : Int32))) (L' := [(6, .int (x6 + (1 : Int32))), (0, .ref x0), (1, .int x1), (2, .int x2), (3, .int x3), (4, .int x4), (5, .int x5)]) dX11_site_80 6 rfl rfl (by decide) rfl rfl ?_
    refine Rn.goto (pc' := 65) dX11_site_83 (by decide) ?_
    refine Rn.sub [1, 2, 3, 4, 5, 6, 0] rfl ?_
    exact hk65 _ _ _ _ _ _ _ _ _ E
def f_Model_site_L65  (k56 : Hp → Nat → Int32 → Int32 → Int32 → Int32 → Int32 → Option (Int32 × Hp)) (n : Nat) : Hp → Nat → Int32 → Int32 → Int32 → Int32 → Int32 → Int32 → Option (Int32 × Hp) := Nat.rec (motive := fun _ => Hp → Nat → Int32 → Int32 → Int32 → Int32 → Int32 → Int32 → Option (Int32 × Hp)) (fun _ _ _ _ _ _ _ _ => none) (fun _ rec => f_Model_site_b65  k56 rec) n
theorem f_Model_site_L65_ok {l : Launch} {X : Nat × (Nat → Int32)} (hst : l.stackTraces = false) {d : Nat} (hd : 5 ≤ d)   {k56 : Hp → Nat → Int32 → Int32 → Int32 → Int32 → Int32 → Option (Int32 × Hp)} (hk56 : ∀ (h : Hp) (x0 : Nat) (x1 : Int32) (x2 : Int32) (x3 : Int32) (x4 : Int32) (x5 : Int32)  (r : Int32 × Hp), k56 h x0 x1 x2 x3 x4 x5 = some r → Rn l X mX11_site d 56 [(0, .ref x0), (1, .int x1), (2, .int x2), (3, .int x3), (4, .int x4), (5, .int x5)] [] h (eI r) r.2) : ∀ (n : Nat) (h : Hp) (x0 : Nat) (x1 : Int32) (x2 : Int32) (x3 : Int32) (x4 : Int32) (x5 : Int32) (x6 : Int32)  (r : Int32 × Hp), f_Model_site_L65  k56 n h x0 x1 x2 x3 x4 x5 x6 = some r → Rn l X mX11_site d 65 [(0, .ref x0), (1, .int x1), (2, .int x2), (3, .int x3), (4, .int x4), (5, .int x5), (6, .int x6)] [] h (eI r) r.2 := by
  intro n
  induction n with
  | zero => intro h x0 x1 x2 x3 x4 x5 x6 r E; cases E
  | succ n ih => intro h x0 x1 x2 x3 x4 x5 x6 r E; exact f_Model_site_b65_ok hst hd  hk56 ih E
def f_Model_site_b56  (k56 : Hp → Nat → Int32 → Int32 → Int32 → Int32 → Int32 → Option (Int32 × Hp)) (h : Hp) (x0 : Nat) (x1 : Int32) (x2 : Int32) (x3 : Int32) (x4 : Int32) (x5 : Int32)  : Option (Int32 × Hp) :=
if x2 ≤ x5 then (
some (x3, h)

) else (
f_Model_site_L65  k56 FU h x0 x1 x2 x3 x4 x5 (0 : Int32)

)

set_option maxRecDepth 20000 in
set_option maxHeartbeats 4000000 in
theorem f_Model_site_b56_ok {l : Launch} {X : Nat × (Nat → Int32)} (hst : l.stackTraces = false) {d : Nat} (hd : 5 ≤ d)   {k56 : Hp → Nat → Int32 → Int32 → Int32 → Int32 → Int32 → Option (Int32 × Hp)} (hk56 : ∀ (h : Hp) (x0 : Nat) (x1 : Int32) (x2 : Int32) (x3 : Int32) (x4 : Int32) (x5 : Int32)  (r : Int32 × Hp), k56 h x0 x1 x2 x3 x4 x5 = some r → Rn l X mX11_site d 56 [(0, .ref x0), (1, .int x1), (2, .int x2), (3, .int x3), (4, .int x4), (5, .int x5)] [] h (eI r) r.2) {h : Hp} {x0 : Nat} {x1 : Int32} {x2 : Int32} {x3 : Int32} {x4 : Int32} {x5 : Int32}  {r : Int32 × Hp} (E : f_Model_site_b56  k56 h x0 x1 x2 x3 x4 x5 = some r) : Rn l X mX11_site d 56 [(0, .ref x0), (1, .int x1), (2, .int x2), (3, .int x3), (4, .int x4), (5, .int x5)] [] h (eI r) r.2 := by
  unfold f_Model_site_b56 at E
  refine Rn.iload (pc' := 58) dX11_site_56 5 rfl rfl ?_
  refine Rn.iload_n (pc' := 59) dX11_site_58 rfl 2 rfl rfl ?_
  refine Rn.icmp_ge (pc' := 62) (tgt := 190) dX11_site_59 (by decide) rfl (fun c1 => ?_) (fun c1 => ?_)
  · replace E := (if_of E).1 c1
    refine Rn.iload_n (pc' := 191) dX11_site_190 rfl 3 rfl rfl ?_
    cases E
    exact Rn.zret rfl rfl dX11_site_191
  · replace E := (if_of E).2 c1
    refine Rn.iconst (pc' := 63) (v := (0 : Int32)) (hv := by decide) dX11_site_62 rfl ?_
    refine Rn.istore (pc' := 65) (L' := [(6, .int (0 : Int32)), (0, .ref x0), (1, .int x1), (2, .int x2), (3, .int x3), (4, .int x4), (5, .int x5)]) dX11_site_63 (by decide) rfl rfl ?_
    refine Rn.sub [1, 2, 3, 4, 5, 6, 0] rfl ?_
    exact f_Model_site_L65_ok hst hd  hk56 FU _ _ _ _ _ _ _ _ _ E
def f_Model_site_L56   (n : Nat) : Hp → Nat → Int32 → Int32 → Int32 → Int32 → Int32 → Option (Int32 × Hp) := Nat.rec (motive := fun _ => Hp → Nat → Int32 → Int32 → Int32 → Int32 → Int32 → Option (Int32 × Hp)) (fun _ _ _ _ _ _ _ => none) (fun _ rec => f_Model_site_b56   rec) n
theorem f_Model_site_L56_ok {l : Launch} {X : Nat × (Nat → Int32)} (hst : l.stackTraces = false) {d : Nat} (hd : 5 ≤ d)     : ∀ (n : Nat) (h : Hp) (x0 : Nat) (x1 : Int32) (x2 : Int32) (x3 : Int32) (x4 : Int32) (x5 : Int32)  (r : Int32 × Hp), f_Model_site_L56   n h x0 x1 x2 x3 x4 x5 = some r → Rn l X mX11_site d 56 [(0, .ref x0), (1, .int x1), (2, .int x2), (3, .int x3), (4, .int x4), (5, .int x5)] [] h (eI r) r.2 := by
  intro n
  induction n with
  | zero => intro h x0 x1 x2 x3 x4 x5 r E; cases E
  | succ n ih => intro h x0 x1 x2 x3 x4 x5 r E; exact f_Model_site_b56_ok hst hd   ih E
def f_Model_site_b22   (h : Hp) (x0 : Nat) (x1 : Int32) (s0 : Nat) (s1 : Int32) : Option (Int32 × Hp) :=
if hS h s0 = 11 then (
bI (f_Model_throwsIf h s0 s1 (1 : Int32)) fun v2 h3 =>
if v2 = 0 then (
if hS h3 x0 = 11 then (
bI (f_Model_cisterns h3 x0) fun v7 h8 =>
if v7 = (8 : Int32) then (
some ((-1 : Int32), h8)

) else (
if hS h8 x0 = 11 then (
bV (f_Model_keeps h8 x0) fun h13 =>
f_Model_site_L56   FU h13 x0 x1 v7 (-1 : Int32) (0 : Int32) (0 : Int32)
) else none
)
) else none
) else (
some ((0 : Int32), h3)

)
) else none
set_option maxRecDepth 20000 in
set_option maxHeartbeats 4000000 in
theorem f_Model_site_b22_ok {l : Launch} {X : Nat × (Nat → Int32)} (hst : l.stackTraces = false) {d : Nat} (hd : 5 ≤ d)     {h : Hp} {x0 : Nat} {x1 : Int32} {s0 : Nat} {s1 : Int32} {r : Int32 × Hp} (E : f_Model_site_b22   h x0 x1 s0 s1 = some r) : Rn l X mX11_site d 22 [(0, .ref x0), (1, .int x1)] [.int s1, .ref s0] h (eI r) r.2 := by
  unfold f_Model_site_b22 at E
  refine Rn.iconst (pc' := 23) (v := (1 : Int32)) (hv := by decide) dX11_site_22 rfl ?_
  obtain ⟨g1, E⟩ := gd_of E
  obtain ⟨v2, h3, e4, E⟩ := bI_of E
  refine Rn.callV1 (pc' := 26) (As := [.int s1, .int (1 : Int32)]) (rest := []) (f_Model_throwsIf_ok hst e4) (Nat.le_trans (by decide) hd) rfl kb_X11_265 ki_X11_throwsIf rfl g1 rfl rfl (Nat.le_of_ble_eq_true rfl) dX11_site_23 rfl rfl ?_
  refine Rn.if_eq (pc' := 29) (tgt := 31) dX11_site_26 (by decide) rfl (fun c5 => ?_) (fun c5 => ?_)
  · replace E := (if_of E).1 c5
    refine Rn.aload_n (pc' := 32) dX11_site_31 rfl 0 rfl rfl ?_
    obtain ⟨g6, E⟩ := gd_of E
    obtain ⟨v7, h8, e9, E⟩ := bI_of E
    refine Rn.callV1 (pc' := 35) (As := []) (rest := []) (f_Model_cisterns_ok hst e9) (Nat.le_trans (by decide) hd) rfl kb_X11_52 ki_X11_cisterns rfl g6 rfl rfl (Nat.le_of_ble_eq_true rfl) dX11_site_32 rfl rfl ?_
    refine Rn.istore_n (pc' := 36) (L' := [(2, .int v7), (0, .ref x0), (1, .int x1)]) dX11_site_35 rfl (by decide) rfl rfl ?_
    refine Rn.iload_n (pc' := 37) dX11_site_36 rfl 0 rfl rfl ?_
    refine Rn.bipush (pc' := 39) (v := (8 : Int32)) (hv := by decide) dX11_site_37 rfl ?_
    refine Rn.icmp_ne (pc' := 42) (tgt := 44) dX11_site_39 (by decide) rfl (fun c10 => ?_) (fun c10 => ?_)
    · replace E := (if_of E).2 c10
      refine Rn.aload_n (pc' := 45) dX11_site_44 rfl 1 rfl rfl ?_
      obtain ⟨g11, E⟩ := gd_of E
      obtain ⟨h13, e14, E⟩ := bV_of E
      refine Rn.callV1 (pc' := 48) (As := []) (rest := []) (f_Model_keeps_ok hst e14) (Nat.le_trans (by decide) hd) rfl kb_X11_332 ki_X11_keeps rfl g11 rfl rfl (Nat.le_of_ble_eq_true rfl) dX11_site_45 rfl rfl ?_
      refine Rn.iconst (pc' := 49) (v := (-1 : Int32)) (hv := by decide) dX11_site_48 rfl ?_
      refine Rn.istore_n (pc' := 50) (L' := [(3, .int (-1 : Int32)), (2, .int v7), (0, .ref x0), (1, .int x1)]) dX11_site_49 rfl (by decide) rfl rfl ?_
      refine Rn.iconst (pc' := 51) (v := (0 : Int32)) (hv := by decide) dX11_site_50 rfl ?_
      refine Rn.istore (pc' := 53) (L' := [(4, .int (0 : Int32)), (3, .int (-1 : Int32)), (2, .int v7), (0, .ref x0), (1, .int x1)]) dX11_site_51 (by decide) rfl rfl ?_
      refine Rn.iconst (pc' := 54) (v := (0 : Int32)) (hv := by decide) dX11_site_53 rfl ?_
      refine Rn.istore (pc' := 56) (L' := [(5, .int (0 : Int32)), (4, .int (0 : Int32)), (3, .int (-1 : Int32)), (2, .int v7), (0, .ref x0), (1, .int x1)]) dX11_site_54 (by decide) rfl rfl ?_
      refine Rn.sub [4, 5, 3, 2, 1, 0] rfl ?_
      exact f_Model_site_L56_ok hst hd   FU _ _ _ _ _ _ _ _ E
    · replace E := (if_of E).1 c10
      refine Rn.iconst (pc' := 43) (v := (-1 : Int32)) (hv := by decide) dX11_site_42 rfl ?_
      cases E
      exact Rn.zret rfl rfl dX11_site_43
  · replace E := (if_of E).2 c5
    refine Rn.iconst (pc' := 30) (v := (0 : Int32)) (hv := by decide) dX11_site_29 rfl ?_
    cases E
    exact Rn.zret rfl rfl dX11_site_30
def f_Model_site_b0   (h : Hp) (x0 : Nat) (x1 : Int32)  : Option (Int32 × Hp) :=
if hS h x0 = 11 then (
wr (sI h x0 0 (0 : Int32)) fun h2 =>
bI (f_Model_in h2 x1 (1 : Int32) (999 : Int32)) fun v4 h5 =>
if v4 = 0 then (
f_Model_site_b22   h5 x0 x1 x0 (1 : Int32)

) else (
f_Model_site_b22   h5 x0 x1 x0 (0 : Int32)

)
) else none
set_option maxRecDepth 20000 in
set_option maxHeartbeats 4000000 in
theorem f_Model_site_b0_ok {l : Launch} {X : Nat × (Nat → Int32)} (hst : l.stackTraces = false) {d : Nat} (hd : 5 ≤ d)     {h : Hp} {x0 : Nat} {x1 : Int32}  {r : Int32 × Hp} (E : f_Model_site_b0   h x0 x1 = some r) : Rn l X mX11_site d 0 [(0, .ref x0), (1, .int x1)] [] h (eI r) r.2 := by
  unfold f_Model_site_b0 at E
  refine Rn.aload_n (pc' := 1) dX11_site_0 rfl 0 rfl rfl ?_
  refine Rn.iconst (pc' := 2) (v := (0 : Int32)) (hv := by decide) dX11_site_1 rfl ?_
  obtain ⟨g1, E⟩ := gd_of E
  refine Rn.putI (pc' := 5) fl_X11_3_10 (fun q hq => by cases hq; decide) g1 rfl rfl rfl dX11_site_2 rfl ?_
  replace E := wr_of E
  generalize eh3 : sI h x0 0 (0 : Int32) = h2 at E ⊢
  refine Rn.aload_n (pc' := 6) dX11_site_5 rfl 0 rfl rfl ?_
  refine Rn.iload_n (pc' := 7) dX11_site_6 rfl 1 rfl rfl ?_
  refine Rn.iconst (pc' := 8) (v := (1 : Int32)) (hv := by decide) dX11_site_7 rfl ?_
  refine Rn.sipush (pc' := 11) (v := (999 : Int32)) (hv := by decide) dX11_site_8 rfl ?_
  obtain ⟨v4, h5, e6, E⟩ := bI_of E
  refine Rn.callS1 (pc' := 14) (As := [.int x1, .int (1 : Int32), .int (999 : Int32)]) (rest := [.ref x0]) (f_Model_in_ok hst e6) (Nat.le_trans (by decide) hd) rfl kb_X11_56 ks_X11_in rfl rfl (Nat.le_of_ble_eq_true rfl) dX11_site_11 rfl rfl ?_
  refine Rn.if_ne (pc' := 17) (tgt := 21) dX11_site_14 (by decide) rfl (fun c7 => ?_) (fun c7 => ?_)
  · replace E := (if_of E).2 c7
    refine Rn.iconst (pc' := 22) (v := (0 : Int32)) (hv := by decide) dX11_site_21 rfl ?_
    exact f_Model_site_b22_ok hst hd   E
  · replace E := (if_of E).1 c7
    refine Rn.iconst (pc' := 18) (v := (1 : Int32)) (hv := by decide) dX11_site_17 rfl ?_
    refine Rn.goto (pc' := 22) dX11_site_18 (by decide) ?_
    exact f_Model_site_b22_ok hst hd   E
def f_Model_site (h : Hp) (x0 : Nat) (x1 : Int32) : Option (Int32 × Hp) := f_Model_site_b0  h x0 x1
theorem f_Model_site_ok {l : Launch} {X : Nat × (Nat → Int32)} (hst : l.stackTraces = false) {h : Hp} {x0 : Nat} {x1 : Int32} {r : Int32 × Hp} (E : f_Model_site h x0 x1 = some r) : MC l X yX11_site mX11_site 5 [.ref x0, .int x1] h (eI r) r.2 :=
  MC.body (by decide +kernel) rfl (by decide) hst (Nat.le_of_ble_eq_true rfl) (f_Model_site_b0_ok hst (Nat.le_refl _) E)
abbrev mX9_byteAt : MI := (RX9, cX9_byteAt, 2, (some Jvm.ClassFile.FieldType.int), [], false)
theorem ws_X9_byteAt : ∀ w ∈ wsM yX9_byteAt mX9_byteAt, w ∈ gw := List.forall_mem_cons.mpr ⟨gw_at 740 (by decide +kernel) (by decide +kernel), fun _ h => h⟩
theorem fl_X9_22_8 : FL RX9 22 8 1 := ⟨_, rfl, by decide, "VintageWater$Tape", gw_at 150 (by decide +kernel) (by decide +kernel), Or.inl rfl⟩
def f_Tape_byteAt_b0   (h : Hp) (x0 : Nat) (x1 : Int32)  : Option (Int32 × Hp) :=
if x1 < 0 then (
some ((-1 : Int32), h)

) else (
if hS h x0 = 9 then (
if (hI h x0 1) ≤ x1 then (
some ((-1 : Int32), h)

) else (
if hS h (hR h x0 0) = 21 then (
if (Int32.ofNat (hL h (hR h x0 0))) ≤ x1 then (
some ((-1 : Int32), h)

) else (
if ib x1 (hL h (hR h x0 0)) = true then (
some (((hI h (hR h x0 0) (ix x1)) &&& (255 : Int32)), h)
) else none
)
) else none
)
) else none
)

set_option maxRecDepth 20000 in
set_option maxHeartbeats 4000000 in
theorem f_Tape_byteAt_b0_ok {l : Launch} {X : Nat × (Nat → Int32)} (hst : l.stackTraces = false) {d : Nat} (hd : 0 ≤ d)     {h : Hp} {x0 : Nat} {x1 : Int32}  {r : Int32 × Hp} (E : f_Tape_byteAt_b0   h x0 x1 = some r) : Rn l X mX9_byteAt d 0 [(0, .ref x0), (1, .int x1)] [] h (eI r) r.2 := by
  unfold f_Tape_byteAt_b0 at E
  refine Rn.iload_n (pc' := 1) dX9_byteAt_0 rfl 1 rfl rfl ?_
  refine Rn.if_lt (pc' := 4) (tgt := 34) dX9_byteAt_1 (by decide) rfl (fun c1 => ?_) (fun c1 => ?_)
  · replace E := (if_of E).1 c1
    refine Rn.iconst (pc' := 35) (v := (-1 : Int32)) (hv := by decide) dX9_byteAt_34 rfl ?_
    cases E
    exact Rn.zret rfl rfl dX9_byteAt_35
  · replace E := (if_of E).2 c1
    refine Rn.iload_n (pc' := 5) dX9_byteAt_4 rfl 1 rfl rfl ?_
    refine Rn.aload_n (pc' := 6) dX9_byteAt_5 rfl 0 rfl rfl ?_
    obtain ⟨g2, E⟩ := gd_of E
    refine Rn.getI (pc' := 9) fl_X9_22_8 g2 rfl dX9_byteAt_6 rfl ?_
    refine Rn.icmp_ge (pc' := 12) (tgt := 34) dX9_byteAt_9 (by decide) rfl (fun c3 => ?_) (fun c3 => ?_)
    · replace E := (if_of E).1 c3
      refine Rn.iconst (pc' := 35) (v := (-1 : Int32)) (hv := by decide) dX9_byteAt_34 rfl ?_
      cases E
      exact Rn.zret rfl rfl dX9_byteAt_35
    · replace E := (if_of E).2 c3
      refine Rn.iload_n (pc' := 13) dX9_byteAt_12 rfl 1 rfl rfl ?_
      refine Rn.aload_n (pc' := 14) dX9_byteAt_13 rfl 0 rfl rfl ?_
      refine Rn.getR (pc' := 17) fl_X9_9_8 g2 rfl dX9_byteAt_14 rfl ?_
      obtain ⟨g4, E⟩ := gd_of E
      refine Rn.alen (pc' := 18) g4 (by decide) (by decide) dX9_byteAt_17 rfl ?_
      refine Rn.icmp_ge (pc' := 21) (tgt := 34) dX9_byteAt_18 (by decide) rfl (fun c5 => ?_) (fun c5 => ?_)
      · replace E := (if_of E).1 c5
        refine Rn.iconst (pc' := 35) (v := (-1 : Int32)) (hv := by decide) dX9_byteAt_34 rfl ?_
        cases E
        exact Rn.zret rfl rfl dX9_byteAt_35
      · replace E := (if_of E).2 c5
        refine Rn.aload_n (pc' := 22) dX9_byteAt_21 rfl 0 rfl rfl ?_
        refine Rn.getR (pc' := 25) fl_X9_9_8 g2 rfl dX9_byteAt_22 rfl ?_
        refine Rn.iload_n (pc' := 26) dX9_byteAt_25 rfl 1 rfl rfl ?_
        obtain ⟨g6, E⟩ := gd_of E
        refine Rn.bald (pc' := 27) g4 g6 dX9_byteAt_26 rfl ?_
        refine Rn.sipush (pc' := 30) (v := (255 : Int32)) (hv := by decide) dX9_byteAt_27 rfl ?_
        refine Rn.iand (pc' := 31) dX9_byteAt_30 rfl ?_
        refine Rn.goto (pc' := 35) dX9_byteAt_31 (by decide) ?_
        cases E
        exact Rn.zret rfl rfl dX9_byteAt_35
def f_Tape_byteAt (h : Hp) (x0 : Nat) (x1 : Int32) : Option (Int32 × Hp) := f_Tape_byteAt_b0  h x0 x1
theorem f_Tape_byteAt_ok {l : Launch} {X : Nat × (Nat → Int32)} (hst : l.stackTraces = false) {h : Hp} {x0 : Nat} {x1 : Int32} {r : Int32 × Hp} (E : f_Tape_byteAt h x0 x1 = some r) : MC l X yX9_byteAt mX9_byteAt 0 [.ref x0, .int x1] h (eI r) r.2 :=
  MC.body (by decide +kernel) rfl (by decide) hst (Nat.le_of_ble_eq_true rfl) (f_Tape_byteAt_b0_ok hst (Nat.le_refl _) E)
abbrev mX10_pairOfLevels : MI := (RX10, cX10_pairOfLevels, 8, (some Jvm.ClassFile.FieldType.int), [], false)
theorem ws_X10_pairOfLevels : ∀ w ∈ wsM yX10_pairOfLevels mX10_pairOfLevels, w ∈ gw := List.forall_mem_cons.mpr ⟨gw_at 1322 (by decide +kernel) (by decide +kernel), fun _ h => h⟩
def f_Water_pairOfLevels_b122  (k9 : Hp → Nat → Int32 → Int32 → Int32 → Int32 → Option (Int32 × Hp)) (h : Hp) (x0 : Nat) (x1 : Int32) (x3 : Int32) (x4 : Int32) (x7 : Int32) (s0 : Int32) : Option (Int32 × Hp) :=
k9 h x0 x1 s0 (x3 + x7) (x4 + (1 : Int32))

set_option maxRecDepth 20000 in
set_option maxHeartbeats 4000000 in
theorem f_Water_pairOfLevels_b122_ok {l : Launch} {X : Nat × (Nat → Int32)} (hst : l.stackTraces = false) {d : Nat} (hd : 1 ≤ d)   {k9 : Hp → Nat → Int32 → Int32 → Int32 → Int32 → Option (Int32 × Hp)} (hk9 : ∀ (h : Hp) (x0 : Nat) (x1 : Int32) (x2 : Int32) (x3 : Int32) (x4 : Int32)  (r : Int32 × Hp), k9 h x0 x1 x2 x3 x4 = some r → Rn l X mX10_pairOfLevels d 9 [(0, .ref x0), (1, .int x1), (2, .int x2), (3, .int x3), (4, .int x4)] [] h (eI r) r.2) {h : Hp} {x0 : Nat} {x1 : Int32} {x3 : Int32} {x4 : Int32} {x7 : Int32} {s0 : Int32} {r : Int32 × Hp} (E : f_Water_pairOfLevels_b122  k9 h x0 x1 x3 x4 x7 s0 = some r) : Rn l X mX10_pairOfLevels d 122 [(0, .ref x0), (1, .int x1), (3, .int x3), (4, .int x4), (7, .int x7)] [.int s0] h (eI r) r.2 := by
  unfold f_Water_pairOfLevels_b122 at E
  refine Rn.istore_n (pc' := 123) (L' := [(2, .int s0), (0, .ref x0), (1, .int x1), (3, .int x3), (4, .int x4), (7, .int x7)]) dX10_pairOfLevels_122 rfl (by decide) rfl rfl ?_
  refine Rn.iload_n (pc' := 124) dX10_pairOfLevels_123 rfl 3 rfl rfl ?_
  refine Rn.iload (pc' := 126) dX10_pairOfLevels_124 5 rfl rfl ?_
  refine Rn.iadd (pc' := 127) dX10_pairOfLevels_126 rfl ?_
  refine Rn.istore_n (pc' := 128) (L' := [(3, .int (x3 + x7)), (2, .int s0), (0, .ref x0), (1, .int x1), (4, .int x4), (7, .int x7)]) dX10_pairOfLevels_127 rfl (by decide) rfl rfl ?_
  refine Rn.iinc (pc' := 131) (v := (x4 + (1 : Int32))) (L' := [(4, .int (x4 + (1 : Int32))), (3, .int (x3 + x7)), (2, .int s0), (0, .ref x0), (1, .int x1), (7, .int x7)]) dX10_pairOfLevels_128 4 rfl rfl (by decide) rfl rfl ?_
  refine Rn.goto (pc' := 9) dX10_pairOfLevels_131 (by decide) ?_
  refine Rn.sub [3, 4, 2, 1, 0] rfl ?_
  exact hk9 _ _ _ _ _ _ _ E
def f_Water_pairOfLevels_b110  (k9 : Hp → Nat → Int32 → Int32 → Int32 → Int32 → Option (Int32 × Hp)) (h : Hp) (x0 : Nat) (x2 : Int32) (x3 : Int32) (x4 : Int32) (x7 : Int32) (s0 : Int32) : Option (Int32 × Hp) :=
if x7 ≤ 0 then (
f_Water_pairOfLevels_b122  k9 h x0 s0 x3 x4 x7 x2

) else (
f_Water_pairOfLevels_b122  k9 h x0 s0 x3 x4 x7 x4

)

set_option maxRecDepth 20000 in
set_option maxHeartbeats 4000000 in
theorem f_Water_pairOfLevels_b110_ok {l : Launch} {X : Nat × (Nat → Int32)} (hst : l.stackTraces = false) {d : Nat} (hd : 1 ≤ d)   {k9 : Hp → Nat → Int32 → Int32 → Int32 → Int32 → Option (Int32 × Hp)} (hk9 : ∀ (h : Hp) (x0 : Nat) (x1 : Int32) (x2 : Int32) (x3 : Int32) (x4 : Int32)  (r : Int32 × Hp), k9 h x0 x1 x2 x3 x4 = some r → Rn l X mX10_pairOfLevels d 9 [(0, .ref x0), (1, .int x1), (2, .int x2), (3, .int x3), (4, .int x4)] [] h (eI r) r.2) {h : Hp} {x0 : Nat} {x2 : Int32} {x3 : Int32} {x4 : Int32} {x7 : Int32} {s0 : Int32} {r : Int32 × Hp} (E : f_Water_pairOfLevels_b110  k9 h x0 x2 x3 x4 x7 s0 = some r) : Rn l X mX10_pairOfLevels d 110 [(0, .ref x0), (2, .int x2), (3, .int x3), (4, .int x4), (7, .int x7)] [.int s0] h (eI r) r.2 := by
  unfold f_Water_pairOfLevels_b110 at E
  refine Rn.istore_n (pc' := 111) (L' := [(1, .int s0), (0, .ref x0), (2, .int x2), (3, .int x3), (4, .int x4), (7, .int x7)]) dX10_pairOfLevels_110 rfl (by decide) rfl rfl ?_
  refine Rn.iload (pc' := 113) dX10_pairOfLevels_111 5 rfl rfl ?_
  refine Rn.if_le (pc' := 116) (tgt := 121) dX10_pairOfLevels_113 (by decide) rfl (fun c1 => ?_) (fun c1 => ?_)
  · replace E := (if_of E).1 c1
    refine Rn.iload_n (pc' := 122) dX10_pairOfLevels_121 rfl 2 rfl rfl ?_
    refine Rn.sub [1, 0, 3, 4, 5] rfl ?_
    exact f_Water_pairOfLevels_b122_ok hst hd  hk9 E
  · replace E := (if_of E).2 c1
    refine Rn.iload (pc' := 118) dX10_pairOfLevels_116 4 rfl rfl ?_
    refine Rn.goto (pc' := 122) dX10_pairOfLevels_118 (by decide) ?_
    refine Rn.sub [1, 0, 3, 4, 5] rfl ?_
    exact f_Water_pairOfLevels_b122_ok hst hd  hk9 E
def f_Water_pairOfLevels_b99  (k9 : Hp → Nat → Int32 → Int32 → Int32 → Int32 → Option (Int32 × Hp)) (h : Hp) (x0 : Nat) (x1 : Int32) (x2 : Int32) (x3 : Int32) (x4 : Int32) (x7 : Int32)  : Option (Int32 × Hp) :=
if 0 ≤ x7 then (
f_Water_pairOfLevels_b110  k9 h x0 x2 x3 x4 x7 x1

) else (
f_Water_pairOfLevels_b110  k9 h x0 x2 x3 x4 x7 x4

)

set_option maxRecDepth 20000 in
set_option maxHeartbeats 4000000 in
theorem f_Water_pairOfLevels_b99_ok {l : Launch} {X : Nat × (Nat → Int32)} (hst : l.stackTraces = false) {d : Nat} (hd : 1 ≤ d)   {k9 : Hp → Nat → Int32 → Int32 → Int32 → Int32 → Option (Int32 × Hp)} (hk9 : ∀ (h : Hp) (x0 : Nat) (x1 : Int32) (x2 : Int32) (x3 : Int32) (x4 : Int32)  (r : Int32 × Hp), k9 h x0 x1 x2 x3 x4 = some r → Rn l X mX10_pairOfLevels d 9 [(0, .ref x0), (1, .int x1), (2, .int x2), (3, .int x3), (4, .int x4)] [] h (eI r) r.2) {h : Hp} {x0 : Nat} {x1 : Int32} {x2 : Int32} {x3 : Int32} {x4 : Int32} {x7 : Int32}  {r : Int32 × Hp} (E : f_Water_pairOfLevels_b99  k9 h x0 x1 x2 x3 x4 x7 = some r) : Rn l X mX10_pairOfLevels d 99 [(0, .ref x0), (1, .int x1), (2, .int x2), (3, .int x3), (4, .int x4), (7, .int x7)] [] h (eI r) r.2 := by
  unfold f_Water_pairOfLevels_b99 at E
  refine Rn.iload (pc' := 101) dX10_pairOfLevels_99 5 rfl rfl ?_
  refine Rn.if_ge (pc' := 104) (tgt := 109) dX10_pairOfLevels_101 (by decide) rfl (fun c1 => ?_) (fun c1 => ?_)
  · replace E := (if_of E).1 c1
    refine Rn.iload_n (pc' := 110) dX10_pairOfLevels_109 rfl 1 rfl rfl ?_
    refine Rn.sub [0, 2, 3, 4, 5] rfl ?_
    exact f_Water_pairOfLevels_b110_ok hst hd  hk9 E
  · replace E := (if_of E).2 c1
    refine Rn.iload (pc' := 106) dX10_pairOfLevels_104 4 rfl rfl ?_
    refine Rn.goto (pc' := 110) dX10_pairOfLevels_106 (by decide) ?_
    refine Rn.sub [0, 2, 3, 4, 5] rfl ?_
    exact f_Water_pairOfLevels_b110_ok hst hd  hk9 E
def f_Water_pairOfLevels_b87  (k9 : Hp → Nat → Int32 → Int32 → Int32 → Int32 → Option (Int32 × Hp)) (h : Hp) (x0 : Nat) (x1 : Int32) (x2 : Int32) (x3 : Int32) (x4 : Int32) (x7 : Int32)  : Option (Int32 × Hp) :=
if x7 ≤ 0 then (
f_Water_pairOfLevels_b99  k9 h x0 x1 x2 x3 x4 x7

) else (
if x2 = (-1 : Int32) then (
f_Water_pairOfLevels_b99  k9 h x0 x1 x2 x3 x4 x7

) else (
some ((-1 : Int32), h)

)

)

set_option maxRecDepth 20000 in
set_option maxHeartbeats 4000000 in
theorem f_Water_pairOfLevels_b87_ok {l : Launch} {X : Nat × (Nat → Int32)} (hst : l.stackTraces = false) {d : Nat} (hd : 1 ≤ d)   {k9 : Hp → Nat → Int32 → Int32 → Int32 → Int32 → Option (Int32 × Hp)} (hk9 : ∀ (h : Hp) (x0 : Nat) (x1 : Int32) (x2 : Int32) (x3 : Int32) (x4 : Int32)  (r : Int32 × Hp), k9 h x0 x1 x2 x3 x4 = some r → Rn l X mX10_pairOfLevels d 9 [(0, .ref x0), (1, .int x1), (2, .int x2), (3, .int x3), (4, .int x4)] [] h (eI r) r.2) {h : Hp} {x0 : Nat} {x1 : Int32} {x2 : Int32} {x3 : Int32} {x4 : Int32} {x7 : Int32}  {r : Int32 × Hp} (E : f_Water_pairOfLevels_b87  k9 h x0 x1 x2 x3 x4 x7 = some r) : Rn l X mX10_pairOfLevels d 87 [(0, .ref x0), (1, .int x1), (2, .int x2), (3, .int x3), (4, .int x4), (7, .int x7)] [] h (eI r) r.2 := by
  unfold f_Water_pairOfLevels_b87 at E
  refine Rn.iload (pc' := 89) dX10_pairOfLevels_87 5 rfl rfl ?_
  refine Rn.if_le (pc' := 92) (tgt := 99) dX10_pairOfLevels_89 (by decide) rfl (fun c1 => ?_) (fun c1 => ?_)
  · replace E := (if_of E).1 c1
    exact f_Water_pairOfLevels_b99_ok hst hd  hk9 E
  · replace E := (if_of E).2 c1
    refine Rn.iload_n (pc' := 93) dX10_pairOfLevels_92 rfl 2 rfl rfl ?_
    refine Rn.iconst (pc' := 94) (v := (-1 : Int32)) (hv := by decide) dX10_pairOfLevels_93 rfl ?_
    refine Rn.icmp_eq (pc' := 97) (tgt := 99) dX10_pairOfLevels_94 (by decide) rfl (fun c2 => ?_) (fun c2 => ?_)
    · replace E := (if_of E).1 c2
      exact f_Water_pairOfLevels_b99_ok hst hd  hk9 E
    · replace E := (if_of E).2 c2
      refine Rn.iconst (pc' := 98) (v := (-1 : Int32)) (hv := by decide) dX10_pairOfLevels_97 rfl ?_
      cases E
      exact Rn.zret rfl rfl dX10_pairOfLevels_98
theorem kb_X10_395 : KB RX10 395 yX9_byteAt mX9_byteAt 1 := ⟨gw_at 1291 (by decide +kernel) (by decide +kernel), gw_at 108 (by decide +kernel) (by decide +kernel), trivial, ws_X9_byteAt, by decide +kernel, by decide +kernel, by decide +kernel, by decide⟩
theorem ki_X9_byteAt : Cond.instanceMethod yX9_byteAt ∈ gw ∧ Cond.selects yX9_byteAt.cls yX9_byteAt yX9_byteAt ∈ gw := ⟨gw_at 738 (by decide +kernel) (by decide +kernel), gw_at 739 (by decide +kernel) (by decide +kernel)⟩
def f_Water_pairOfLevels_b55  (k9 : Hp → Nat → Int32 → Int32 → Int32 → Int32 → Option (Int32 × Hp)) (h : Hp) (x0 : Nat) (x1 : Int32) (x2 : Int32) (x3 : Int32) (x4 : Int32) (x5 : Nat) (s0 : Int32) : Option (Int32 × Hp) :=
if hS h x0 = 10 then (
if hS h (hR h x0 0) = 9 then (
bI (f_Tape_byteAt h (hR h x0 0) x4) fun v3 h4 =>
if hS h4 x5 = 1 then (
if 0 ≤ (v3 - ((hI h4 x5 5) - s0)) then (
f_Water_pairOfLevels_b87  k9 h4 x0 x1 x2 x3 x4 (v3 - ((hI h4 x5 5) - s0))

) else (
if x1 = (-1 : Int32) then (
f_Water_pairOfLevels_b87  k9 h4 x0 x1 x2 x3 x4 (v3 - ((hI h4 x5 5) - s0))

) else (
some ((-1 : Int32), h4)

)

)
) else none) else none) else none
set_option maxRecDepth 20000 in
set_option maxHeartbeats 4000000 in
theorem f_Water_pairOfLevels_b55_ok {l : Launch} {X : Nat × (Nat → Int32)} (hst : l.stackTraces = false) {d : Nat} (hd : 1 ≤ d)   {k9 : Hp → Nat → Int32 → Int32 → Int32 → Int32 → Option (Int32 × Hp)} (hk9 : ∀ (h : Hp) (x0 : Nat) (x1 : Int32) (x2 : Int32) (x3 : Int32) (x4 : Int32)  (r : Int32 × Hp), k9 h x0 x1 x2 x3 x4 = some r → Rn l X mX10_pairOfLevels d 9 [(0, .ref x0), (1, .int x1), (2, .int x2), (3, .int x3), (4, .int x4)] [] h (eI r) r.2) {h : Hp} {x0 : Nat} {x1 : Int32} {x2 : Int32} {x3 : Int32} {x4 : Int32} {x5 : Nat} {s0 : Int32} {r : Int32 × Hp} (E : f_Water_pairOfLevels_b55  k9 h x0 x1 x2 x3 x4 x5 s0 = some r) : Rn l X mX10_pairOfLevels d 55 [(0, .ref x0), (1, .int x1), (2, .int x2), (3, .int x3), (4, .int x4), (5, .ref x5)] [.int s0] h (eI r) r.2 := by
  unfold f_Water_pairOfLevels_b55 at E
  refine Rn.istore (pc' := 57) (L' := [(6, .int s0), (0, .ref x0), (1, .int x1), (2, .int x2), (3, .int x3), (4, .int x4), (5, .ref x5)]) dX10_pairOfLevels_55 (by decide) rfl rfl ?_
  refine Rn.aload_n (pc' := 58) dX10_pairOfLevels_57 rfl 1 rfl rfl ?_
  obtain ⟨g1, E⟩ := gd_of E
  refine Rn.getR (pc' := 61) fl_X10_12_9 g1 rfl dX10_pairOfLevels_58 rfl ?_
  refine Rn.iload (pc' := 63) dX10_pairOfLevels_61 5 rfl rfl ?_
  obtain ⟨g2, E⟩ := gd_of E
  obtain ⟨v3, h4, e5, E⟩ := bI_of E
  refine Rn.callV1 (pc' := 66) (As := [.int x4]) (rest := []) (f_Tape_byteAt_ok hst e5) (Nat.le_trans (by decide) hd) rfl kb_X10_395 ki_X9_byteAt rfl g2 rfl rfl (Nat.le_of_ble_eq_true rfl) dX10_pairOfLevels_63 rfl rfl ?_
  refine Rn.aload (pc' := 68) dX10_pairOfLevels_66 6 rfl rfl ?_
  obtain ⟨g6, E⟩ := gd_of E
  refine Rn.getI (pc' := 71) fl_X10_148_0 g6 rfl dX10_pairOfLevels_68 rfl ?_
  refine Rn.iload (pc' := 73) dX10_pairOfLevels_71 0 rfl rfl ?_
  refine Rn.isub (pc' := 74) dX10_pairOfLevels_73 rfl ?_
  refine Rn.isub (pc' := 75) dX10_pairOfLevels_74 rfl ?_
  refine Rn.istore (pc' := 77) (L' := [(7, .int (v3 - ((hI h4 x5 5) - s0))), (6, .int s0), (0, .ref x0), (1, .int x1), (2, .int x2), (3, .int x3), (4, .int x4), (5, .ref x5)]) dX10_pairOfLevels_75 (by decide) rfl rfl ?_
  refine Rn.iload (pc' := 79) dX10_pairOfLevels_77 0 rfl rfl ?_
  refine Rn.if_ge (pc' := 82) (tgt := 87) dX10_pairOfLevels_79 (by decide) rfl (fun c7 => ?_) (fun c7 => ?_)
  · replace E := (if_of E).1 c7
    refine Rn.sub [2, 3, 4, 5, 6, 0] rfl ?_
    exact f_Water_pairOfLevels_b87_ok hst hd  hk9 E
  · replace E := (if_of E).2 c7
    refine Rn.iload_n (pc' := 83) dX10_pairOfLevels_82 rfl 3 rfl rfl ?_
    refine Rn.iconst (pc' := 84) (v := (-1 : Int32)) (hv := by decide) dX10_pairOfLevels_83 rfl ?_
    refine Rn.icmp_ne (pc' := 87) (tgt := 97) dX10_pairOfLevels_84 (by decide) rfl (fun c8 => ?_) (fun c8 => ?_)
    · replace E := (if_of E).2 c8
      refine Rn.iconst (pc' := 98) (v := (-1 : Int32)) (hv := by decide) dX10_pairOfLevels_97 rfl ?_
      cases E
      exact Rn.zret rfl rfl dX10_pairOfLevels_98
    · replace E := (if_of E).1 c8
      refine Rn.sub [2, 3, 4, 5, 6, 0] rfl ?_
      exact f_Water_pairOfLevels_b87_ok hst hd  hk9 E
def f_Water_pairOfLevels_b54  (k9 : Hp → Nat → Int32 → Int32 → Int32 → Int32 → Option (Int32 × Hp)) (h : Hp) (x0 : Nat) (x1 : Int32) (x2 : Int32) (x3 : Int32) (x4 : Int32) (x5 : Nat)  : Option (Int32 × Hp) :=
f_Water_pairOfLevels_b55  k9 h x0 x1 x2 x3 x4 x5 (0 : Int32)

set_option maxRecDepth 20000 in
set_option maxHeartbeats 4000000 in
theorem f_Water_pairOfLevels_b54_ok {l : Launch} {X : Nat × (Nat → Int32)} (hst : l.stackTraces = false) {d : Nat} (hd : 1 ≤ d)   {k9 : Hp → Nat → Int32 → Int32 → Int32 → Int32 → Option (Int32 × Hp)} (hk9 : ∀ (h : Hp) (x0 : Nat) (x1 : Int32) (x2 : Int32) (x3 : Int32) (x4 : Int32)  (r : Int32 × Hp), k9 h x0 x1 x2 x3 x4 = some r → Rn l X mX10_pairOfLevels d 9 [(0, .ref x0), (1, .int x1), (2, .int x2), (3, .int x3), (4, .int x4)] [] h (eI r) r.2) {h : Hp} {x0 : Nat} {x1 : Int32} {x2 : Int32} {x3 : Int32} {x4 : Int32} {x5 : Nat}  {r : Int32 × Hp} (E : f_Water_pairOfLevels_b54  k9 h x0 x1 x2 x3 x4 x5 = some r) : Rn l X mX10_pairOfLevels d 54 [(0, .ref x0), (1, .int x1), (2, .int x2), (3, .int x3), (4, .int x4), (5, .ref x5)] [] h (eI r) r.2 := by
  unfold f_Water_pairOfLevels_b54 at E
  refine Rn.iconst (pc' := 55) (v := (0 : Int32)) (hv := by decide) dX10_pairOfLevels_54 rfl ?_
  exact f_Water_pairOfLevels_b55_ok hst hd  hk9 E
def f_Water_pairOfLevels_b148   (h : Hp)   : Option (Int32 × Hp) :=
some ((-1 : Int32), h)

set_option maxRecDepth 20000 in
set_option maxHeartbeats 4000000 in
theorem f_Water_pairOfLevels_b148_ok {l : Launch} {X : Nat × (Nat → Int32)} (hst : l.stackTraces = false) {d : Nat} (hd : 1 ≤ d)     {h : Hp}   {r : Int32 × Hp} (E : f_Water_pairOfLevels_b148   h  = some r) : Rn l X mX10_pairOfLevels d 148 [] [] h (eI r) r.2 := by
  unfold f_Water_pairOfLevels_b148 at E
  refine Rn.iconst (pc' := 149) (v := (-1 : Int32)) (hv := by decide) dX10_pairOfLevels_148 rfl ?_
  refine Rn.goto (pc' := 158) dX10_pairOfLevels_149 (by decide) ?_
  cases E
  exact Rn.zret rfl rfl dX10_pairOfLevels_158
theorem fl_X10_135_0 : FL RX10 135 0 1 := ⟨_, rfl, by decide, "VintageWater$Cistern", gw_at 273 (by decide +kernel) (by decide +kernel), Or.inl rfl⟩
def f_Water_pairOfLevels_b9  (k9 : Hp → Nat → Int32 → Int32 → Int32 → Int32 → Option (Int32 × Hp)) (h : Hp) (x0 : Nat) (x1 : Int32) (x2 : Int32) (x3 : Int32) (x4 : Int32)  : Option (Int32 × Hp) :=
if hS h x0 = 10 then (
if hS h (hR h x0 4) = 4 then (
if (hI h (hR h x0 4) 0) ≤ x4 then (
if x1 = (-1 : Int32) then (
f_Water_pairOfLevels_b148   h

) else (
if x2 = (-1 : Int32) then (
f_Water_pairOfLevels_b148   h

) else (
if x3 = 0 then (
some ((((8 : Int32) * x1) + x2), h)

) else (
f_Water_pairOfLevels_b148   h

)

)

)

) else (
if hS h (hR h (hR h x0 4) 3) = 23 then (
if ib x4 (hL h (hR h (hR h x0 4) 3)) = true then (
if hS h (hR h (hR h (hR h x0 4) 3) (ix x4)) = 1 then (
if (hI h (hR h (hR h (hR h x0 4) 3) (ix x4)) 1) = (3 : Int32) then (
if (hI h (hR h (hR h (hR h x0 4) 3) (ix x4)) 5) ≤ 0 then (
f_Water_pairOfLevels_b54  k9 h x0 x1 x2 x3 x4 (hR h (hR h (hR h x0 4) 3) (ix x4))

) else (
f_Water_pairOfLevels_b55  k9 h x0 x1 x2 x3 x4 (hR h (hR h (hR h x0 4) 3) (ix x4)) (1 : Int32)

)

) else (
f_Water_pairOfLevels_b54  k9 h x0 x1 x2 x3 x4 (hR h (hR h (hR h x0 4) 3) (ix x4))

)
) else none) else none) else none
)
) else none) else none
set_option maxRecDepth 20000 in
set_option maxHeartbeats 4000000 in
theorem f_Water_pairOfLevels_b9_ok {l : Launch} {X : Nat × (Nat → Int32)} (hst : l.stackTraces = false) {d : Nat} (hd : 1 ≤ d)   {k9 : Hp → Nat → Int32 → Int32 → Int32 → Int32 → Option (Int32 × Hp)} (hk9 : ∀ (h : Hp) (x0 : Nat) (x1 : Int32) (x2 : Int32) (x3 : Int32) (x4 : Int32)  (r : Int32 × Hp), k9 h x0 x1 x2 x3 x4 = some r → Rn l X mX10_pairOfLevels d 9 [(0, .ref x0), (1, .int x1), (2, .int x2), (3, .int x3), (4, .int x4)] [] h (eI r) r.2) {h : Hp} {x0 : Nat} {x1 : Int32} {x2 : Int32} {x3 : Int32} {x4 : Int32}  {r : Int32 × Hp} (E : f_Water_pairOfLevels_b9  k9 h x0 x1 x2 x3 x4 = some r) : Rn l X mX10_pairOfLevels d 9 [(0, .ref x0), (1, .int x1), (2, .int x2), (3, .int x3), (4, .int x4)] [] h (eI r) r.2 := by
  unfold f_Water_pairOfLevels_b9 at E
  refine Rn.iload (pc' := 11) dX10_pairOfLevels_9 4 rfl rfl ?_
  refine Rn.aload_n (pc' := 12) dX10_pairOfLevels_11 rfl 0 rfl rfl ?_
  obtain ⟨g1, E⟩ := gd_of E
  refine Rn.getR (pc' := 15) fl_X10_42_9 g1 rfl dX10_pairOfLevels_12 rfl ?_
  obtain ⟨g2, E⟩ := gd_of E
  refine Rn.getI (pc' := 18) fl_X10_73_3 g2 rfl dX10_pairOfLevels_15 rfl ?_
  refine Rn.icmp_ge (pc' := 21) (tgt := 134) dX10_pairOfLevels_18 (by decide) rfl (fun c3 => ?_) (fun c3 => ?_)
  · replace E := (if_of E).1 c3
    refine Rn.iload_n (pc' := 135) dX10_pairOfLevels_134 rfl 1 rfl rfl ?_
    refine Rn.iconst (pc' := 136) (v := (-1 : Int32)) (hv := by decide) dX10_pairOfLevels_135 rfl ?_
    refine Rn.icmp_eq (pc' := 139) (tgt := 148) dX10_pairOfLevels_136 (by decide) rfl (fun c4 => ?_) (fun c4 => ?_)
    · replace E := (if_of E).1 c4
      refine Rn.sub [] rfl ?_
      exact f_Water_pairOfLevels_b148_ok hst hd   E
    · replace E := (if_of E).2 c4
      refine Rn.iload_n (pc' := 140) dX10_pairOfLevels_139 rfl 2 rfl rfl ?_
      refine Rn.iconst (pc' := 141) (v := (-1 : Int32)) (hv := by decide) dX10_pairOfLevels_140 rfl ?_
      refine Rn.icmp_eq (pc' := 144) (tgt := 148) dX10_pairOfLevels_141 (by decide) rfl (fun c5 => ?_) (fun c5 => ?_)
      · replace E := (if_of E).1 c5
        refine Rn.sub [] rfl ?_
        exact f_Water_pairOfLevels_b148_ok hst hd   E
      · replace E := (if_of E).2 c5
        refine Rn.iload_n (pc' := 145) dX10_pairOfLevels_144 rfl 3 rfl rfl ?_
        refine Rn.if_eq (pc' := 148) (tgt := 152) dX10_pairOfLevels_145 (by decide) rfl (fun c6 => ?_) (fun c6 => ?_)
        · replace E := (if_of E).1 c6
          refine Rn.bipush (pc' := 154) (v := (8 : Int32)) (hv := by decide) dX10_pairOfLevels_152 rfl ?_
          refine Rn.iload_n (pc' := 155) dX10_pairOfLevels_154 rfl 1 rfl rfl ?_
          refine Rn.imul (pc' := 156) dX10_pairOfLevels_155 rfl ?_
          refine Rn.iload_n (pc' := 157) dX10_pairOfLevels_156 rfl 2 rfl rfl ?_
          refine Rn.iadd (pc' := 158) dX10_pairOfLevels_157 rfl ?_
          cases E
          exact Rn.zret rfl rfl dX10_pairOfLevels_158
        · replace E := (if_of E).2 c6
          refine Rn.sub [] rfl ?_
          exact f_Water_pairOfLevels_b148_ok hst hd   E
  · replace E := (if_of E).2 c3
    refine Rn.aload_n (pc' := 22) dX10_pairOfLevels_21 rfl 0 rfl rfl ?_
    refine Rn.getR (pc' := 25) fl_X10_42_9 g1 rfl dX10_pairOfLevels_22 rfl ?_
    refine Rn.getR (pc' := 28) fl_X10_126_3 g2 rfl dX10_pairOfLevels_25 rfl ?_
    refine Rn.iload (pc' := 30) dX10_pairOfLevels_28 4 rfl rfl ?_
    obtain ⟨g7, E⟩ := gd_of E
    obtain ⟨g8, E⟩ := gd_of E
    refine Rn.aald (pc' := 31) g7 (by decide) (by decide) g8 dX10_pairOfLevels_30 rfl ?_
    refine Rn.astore (pc' := 33) (L' := [(5, .ref (hR h (hR h (hR h x0 4) 3) (ix x4))), (0, .ref x0), (1, .int x1), (2, .int x2), (3, .int x3), (4, .int x4)]) dX10_pairOfLevels_31 (by decide) rfl rfl ?_
    refine Rn.aload (pc' := 35) dX10_pairOfLevels_33 0 rfl rfl ?_
    obtain ⟨g9, E⟩ := gd_of E
    refine Rn.getI (pc' := 38) fl_X10_135_0 g9 rfl dX10_pairOfLevels_35 rfl ?_
    refine Rn.iconst (pc' := 39) (v := (3 : Int32)) (hv := by decide) dX10_pairOfLevels_38 rfl ?_
    refine Rn.icmp_ne (pc' := 42) (tgt := 54) dX10_pairOfLevels_39 (by decide) rfl (fun c10 => ?_) (fun c10 => ?_)
    · replace E := (if_of E).2 c10
      refine Rn.sub [1, 2, 3, 4, 5, 0] rfl ?_
      exact f_Water_pairOfLevels_b54_ok hst hd  hk9 E
    · replace E := (if_of E).1 c10
      refine Rn.aload (pc' := 44) dX10_pairOfLevels_42 0 rfl rfl ?_
      refine Rn.getI (pc' := 47) fl_X10_148_0 g9 rfl dX10_pairOfLevels_44 rfl ?_
      refine Rn.if_le (pc' := 50) (tgt := 54) dX10_pairOfLevels_47 (by decide) rfl (fun c11 => ?_) (fun c11 => ?_)
      · replace E := (if_of E).1 c11
        refine Rn.sub [1, 2, 3, 4, 5, 0] rfl ?_
        exact f_Water_pairOfLevels_b54_ok hst hd  hk9 E
      · replace E := (if_of E).2 c11
        refine Rn.iconst (pc' := 51) (v := (1 : Int32)) (hv := by decide) dX10_pairOfLevels_50 rfl ?_
        refine Rn.goto (pc' := 55) dX10_pairOfLevels_51 (by decide) ?_
        refine Rn.sub [1, 2, 3, 4, 5, 0] rfl ?_
        exact f_Water_pairOfLevels_b55_ok hst hd  hk9 E
def f_Water_pairOfLevels_L9   (n : Nat) : Hp → Nat → Int32 → Int32 → Int32 → Int32 → Option (Int32 × Hp) := Nat.rec (motive := fun _ => Hp → Nat → Int32 → Int32 → Int32 → Int32 → Option (Int32 × Hp)) (fun _ _ _ _ _ _ => none) (fun _ rec => f_Water_pairOfLevels_b9   rec) n
theorem f_Water_pairOfLevels_L9_ok {l : Launch} {X : Nat × (Nat → Int32)} (hst : l.stackTraces = false) {d : Nat} (hd : 1 ≤ d)     : ∀ (n : Nat) (h : Hp) (x0 : Nat) (x1 : Int32) (x2 : Int32) (x3 : Int32) (x4 : Int32)  (r : Int32 × Hp), f_Water_pairOfLevels_L9   n h x0 x1 x2 x3 x4 = some r → Rn l X mX10_pairOfLevels d 9 [(0, .ref x0), (1, .int x1), (2, .int x2), (3, .int x3), (4, .int x4)] [] h (eI r) r.2 := by
  intro n
  induction n with
  | zero => intro h x0 x1 x2 x3 x4 r E; cases E
  | succ n ih => intro h x0 x1 x2 x3 x4 r E; exact f_Water_pairOfLevels_b9_ok hst hd   ih E
def f_Water_pairOfLevels_b0   (h : Hp) (x0 : Nat)  : Option (Int32 × Hp) :=
f_Water_pairOfLevels_L9   FU h x0 (-1 : Int32) (-1 : Int32) (0 : Int32) (0 : Int32)

set_option maxRecDepth 20000 in
set_option maxHeartbeats 4000000 in
theorem f_Water_pairOfLevels_b0_ok {l : Launch} {X : Nat × (Nat → Int32)} (hst : l.stackTraces = false) {d : Nat} (hd : 1 ≤ d)     {h : Hp} {x0 : Nat}  {r : Int32 × Hp} (E : f_Water_pairOfLevels_b0   h x0 = some r) : Rn l X mX10_pairOfLevels d 0 [(0, .ref x0)] [] h (eI r) r.2 := by
  unfold f_Water_pairOfLevels_b0 at E
  refine Rn.iconst (pc' := 1) (v := (-1 : Int32)) (hv := by decide) dX10_pairOfLevels_0 rfl ?_
  refine Rn.istore_n (pc' := 2) (L' := [(1, .int (-1 : Int32)), (0, .ref x0)]) dX10_pairOfLevels_1 rfl (by decide) rfl rfl ?_
  refine Rn.iconst (pc' := 3) (v := (-1 : Int32)) (hv := by decide) dX10_pairOfLevels_2 rfl ?_
  refine Rn.istore_n (pc' := 4) (L' := [(2, .int (-1 : Int32)), (1, .int (-1 : Int32)), (0, .ref x0)]) dX10_pairOfLevels_3 rfl (by decide) rfl rfl ?_
  refine Rn.iconst (pc' := 5) (v := (0 : Int32)) (hv := by decide) dX10_pairOfLevels_4 rfl ?_
  refine Rn.istore_n (pc' := 6) (L' := [(3, .int (0 : Int32)), (2, .int (-1 : Int32)), (1, .int (-1 : Int32)), (0, .ref x0)]) dX10_pairOfLevels_5 rfl (by decide) rfl rfl ?_
  refine Rn.iconst (pc' := 7) (v := (0 : Int32)) (hv := by decide) dX10_pairOfLevels_6 rfl ?_
  refine Rn.istore (pc' := 9) (L' := [(4, .int (0 : Int32)), (3, .int (0 : Int32)), (2, .int (-1 : Int32)), (1, .int (-1 : Int32)), (0, .ref x0)]) dX10_pairOfLevels_7 (by decide) rfl rfl ?_
  refine Rn.sub [4, 3, 2, 1, 0] rfl ?_
  exact f_Water_pairOfLevels_L9_ok hst hd   FU _ _ _ _ _ _ _ E
def f_Water_pairOfLevels (h : Hp) (x0 : Nat) : Option (Int32 × Hp) := f_Water_pairOfLevels_b0  h x0
theorem f_Water_pairOfLevels_ok {l : Launch} {X : Nat × (Nat → Int32)} (hst : l.stackTraces = false) {h : Hp} {x0 : Nat} {r : Int32 × Hp} (E : f_Water_pairOfLevels h x0 = some r) : MC l X yX10_pairOfLevels mX10_pairOfLevels 1 [.ref x0] h (eI r) r.2 :=
  MC.body (by decide +kernel) rfl (by decide) hst (Nat.le_of_ble_eq_true rfl) (f_Water_pairOfLevels_b0_ok hst (Nat.le_refl _) E)
abbrev mX10_look : MI := (RX10, cX10_look, 3, (some Jvm.ClassFile.FieldType.int), [], false)
theorem ws_X10_look : ∀ w ∈ wsM yX10_look mX10_look, w ∈ gw := List.forall_mem_cons.mpr ⟨gw_at 1318 (by decide +kernel) (by decide +kernel), fun _ h => h⟩
theorem fl_X10_66_8 : FL RX10 66 8 1 := ⟨_, rfl, by decide, "VintageWater$Tape", gw_at 149 (by decide +kernel) (by decide +kernel), Or.inl rfl⟩
def f_Water_look_b35   (h : Hp) (x0 : Nat) (x1 : Int32) (s0 : Int32) : Option ((Int32 ⊕ Nat) × Hp) :=
if hS h x0 = 10 then (
if hS h (hR h x0 0) = 9 then (
wr (sI h (hR h x0 0) 1 (0 : Int32)) fun h3 =>
if x1 = 0 then (
some (.inr 2, hA h3 0 0 6)

) else (
some (.inl s0, h3)

)
) else none) else none
set_option maxRecDepth 20000 in
set_option maxHeartbeats 4000000 in
theorem f_Water_look_b35_ok {l : Launch} {X : Nat × (Nat → Int32)} (hst : l.stackTraces = false) {d : Nat} (hd : 2 ≤ d)     {h : Hp} {x0 : Nat} {x1 : Int32} {s0 : Int32} {r : (Int32 ⊕ Nat) × Hp} (E : f_Water_look_b35   h x0 x1 s0 = some r) : Rn l X mX10_look d 35 [(0, .ref x0), (1, .int x1)] [.int s0] h (xI r) r.2 := by
  unfold f_Water_look_b35 at E
  refine Rn.istore_n (pc' := 36) (L' := [(2, .int s0), (0, .ref x0), (1, .int x1)]) dX10_look_35 rfl (by decide) rfl rfl ?_
  refine Rn.aload_n (pc' := 37) dX10_look_36 rfl 1 rfl rfl ?_
  obtain ⟨g1, E⟩ := gd_of E
  refine Rn.getR (pc' := 40) fl_X10_12_9 g1 rfl dX10_look_37 rfl ?_
  refine Rn.iconst (pc' := 41) (v := (0 : Int32)) (hv := by decide) dX10_look_40 rfl ?_
  obtain ⟨g2, E⟩ := gd_of E
  refine Rn.putI (pc' := 44) fl_X10_66_8 (fun q hq => by cases hq; decide) g2 rfl rfl rfl dX10_look_41 rfl ?_
  replace E := wr_of E
  generalize eh4 : sI h (hR h x0 0) 1 (0 : Int32) = h3 at E ⊢
  refine Rn.iload_n (pc' := 45) dX10_look_44 rfl 2 rfl rfl ?_
  refine Rn.if_ne (pc' := 48) (tgt := 59) dX10_look_45 (by decide) rfl (fun c5 => ?_) (fun c5 => ?_)
  · replace E := (if_of E).2 c5
    refine Rn.iload_n (pc' := 60) dX10_look_59 rfl 0 rfl rfl ?_
    cases E
    exact Rn.zret rfl rfl dX10_look_60
  · replace E := (if_of E).1 c5
    cases E
    exact Rn.throwSW (x := 2) (i := 14) kt_X10_88_92 rfl rfl dX10_look_48 dX10_look_51 dX10_look_52 dX10_look_55 dX10_look_58 (Nat.le_of_ble_eq_true rfl)
theorem kb_X10_289 : KB RX10 289 yX10_pairOfLevels mX10_pairOfLevels 0 := ⟨gw_at 1319 (by decide +kernel) (by decide +kernel), gw_at 107 (by decide +kernel) (by decide +kernel), trivial, ws_X10_pairOfLevels, by decide +kernel, by decide +kernel, by decide +kernel, by decide⟩
theorem ki_X10_pairOfLevels : Cond.instanceMethod yX10_pairOfLevels ∈ gw ∧ Cond.selects yX10_pairOfLevels.cls yX10_pairOfLevels yX10_pairOfLevels ∈ gw := ⟨gw_at 1321 (by decide +kernel) (by decide +kernel), gw_at 37 (by decide +kernel) (by decide +kernel)⟩
def f_Water_look_b22   (h : Hp) (x0 : Nat) (s0 : Int32) : Option ((Int32 ⊕ Nat) × Hp) :=
if s0 = 0 then (
f_Water_look_b35   h x0 s0 (-1 : Int32)

) else (
if hS h x0 = 10 then (
bI (f_Water_pairOfLevels h x0) fun v3 h4 =>
f_Water_look_b35   h4 x0 s0 v3
) else none
)

set_option maxRecDepth 20000 in
set_option maxHeartbeats 4000000 in
theorem f_Water_look_b22_ok {l : Launch} {X : Nat × (Nat → Int32)} (hst : l.stackTraces = false) {d : Nat} (hd : 2 ≤ d)     {h : Hp} {x0 : Nat} {s0 : Int32} {r : (Int32 ⊕ Nat) × Hp} (E : f_Water_look_b22   h x0 s0 = some r) : Rn l X mX10_look d 22 [(0, .ref x0)] [.int s0] h (xI r) r.2 := by
  unfold f_Water_look_b22 at E
  refine Rn.istore_n (pc' := 23) (L' := [(1, .int s0), (0, .ref x0)]) dX10_look_22 rfl (by decide) rfl rfl ?_
  refine Rn.iload_n (pc' := 24) dX10_look_23 rfl 0 rfl rfl ?_
  refine Rn.if_eq (pc' := 27) (tgt := 34) dX10_look_24 (by decide) rfl (fun c1 => ?_) (fun c1 => ?_)
  · replace E := (if_of E).1 c1
    refine Rn.iconst (pc' := 35) (v := (-1 : Int32)) (hv := by decide) dX10_look_34 rfl ?_
    refine Rn.sub [1, 0] rfl ?_
    exact f_Water_look_b35_ok hst hd   E
  · replace E := (if_of E).2 c1
    refine Rn.aload_n (pc' := 28) dX10_look_27 rfl 1 rfl rfl ?_
    obtain ⟨g2, E⟩ := gd_of E
    obtain ⟨v3, h4, e5, E⟩ := bI_of E
    refine Rn.callV1 (pc' := 31) (As := []) (rest := []) (f_Water_pairOfLevels_ok hst e5) (Nat.le_trans (by decide) hd) rfl kb_X10_289 ki_X10_pairOfLevels rfl g2 rfl rfl (Nat.le_of_ble_eq_true rfl) dX10_look_28 rfl rfl ?_
    refine Rn.goto (pc' := 35) dX10_look_31 (by decide) ?_
    refine Rn.sub [1, 0] rfl ?_
    exact f_Water_look_b35_ok hst hd   E
def f_Water_look_b0   (h : Hp) (x0 : Nat)  : Option ((Int32 ⊕ Nat) × Hp) :=
if hS h x0 = 10 then (
if hS h (hR h x0 0) = 9 then (
if hS h (hR h x0 4) = 4 then (
if (hI h (hR h x0 0) 1) = (hI h (hR h x0 4) 0) then (
f_Water_look_b22   h x0 (1 : Int32)

) else (
f_Water_look_b22   h x0 (0 : Int32)

)
) else none) else none) else none
set_option maxRecDepth 20000 in
set_option maxHeartbeats 4000000 in
theorem f_Water_look_b0_ok {l : Launch} {X : Nat × (Nat → Int32)} (hst : l.stackTraces = false) {d : Nat} (hd : 2 ≤ d)     {h : Hp} {x0 : Nat}  {r : (Int32 ⊕ Nat) × Hp} (E : f_Water_look_b0   h x0 = some r) : Rn l X mX10_look d 0 [(0, .ref x0)] [] h (xI r) r.2 := by
  unfold f_Water_look_b0 at E
  refine Rn.aload_n (pc' := 1) dX10_look_0 rfl 0 rfl rfl ?_
  obtain ⟨g1, E⟩ := gd_of E
  refine Rn.getR (pc' := 4) fl_X10_12_9 g1 rfl dX10_look_1 rfl ?_
  obtain ⟨g2, E⟩ := gd_of E
  refine Rn.getI (pc' := 7) fl_X10_66_8 g2 rfl dX10_look_4 rfl ?_
  refine Rn.aload_n (pc' := 8) dX10_look_7 rfl 0 rfl rfl ?_
  refine Rn.getR (pc' := 11) fl_X10_42_9 g1 rfl dX10_look_8 rfl ?_
  obtain ⟨g3, E⟩ := gd_of E
  refine Rn.getI (pc' := 14) fl_X10_73_3 g3 rfl dX10_look_11 rfl ?_
  refine Rn.icmp_ne (pc' := 17) (tgt := 21) dX10_look_14 (by decide) rfl (fun c4 => ?_) (fun c4 => ?_)
  · replace E := (if_of E).2 c4
    refine Rn.iconst (pc' := 22) (v := (0 : Int32)) (hv := by decide) dX10_look_21 rfl ?_
    exact f_Water_look_b22_ok hst hd   E
  · replace E := (if_of E).1 c4
    refine Rn.iconst (pc' := 18) (v := (1 : Int32)) (hv := by decide) dX10_look_17 rfl ?_
    refine Rn.goto (pc' := 22) dX10_look_18 (by decide) ?_
    exact f_Water_look_b22_ok hst hd   E
def f_Water_look (h : Hp) (x0 : Nat) : Option ((Int32 ⊕ Nat) × Hp) := f_Water_look_b0  h x0
theorem f_Water_look_ok {l : Launch} {X : Nat × (Nat → Int32)} (hst : l.stackTraces = false) {h : Hp} {x0 : Nat} {r : (Int32 ⊕ Nat) × Hp} (E : f_Water_look h x0 = some r) : MC l X yX10_look mX10_look 2 [.ref x0] h (xI r) r.2 :=
  MC.body (by decide +kernel) rfl (by decide) hst (Nat.le_of_ble_eq_true rfl) (f_Water_look_b0_ok hst (Nat.le_refl _) E)
abbrev mL_look : MI := (RL, cL_look, 3, (some Jvm.ClassFile.FieldType.int), [(0, 8, 11, 13)], false)
theorem ws_L_look : ∀ w ∈ wsM yL_look mL_look, w ∈ gw := List.forall_mem_cons.mpr ⟨gw_at 1314 (by decide +kernel) (by decide +kernel), fun _ h => h⟩
theorem kb_L_71 : KB RL 71 yX10_look mX10_look 0 := ⟨gw_at 1315 (by decide +kernel) (by decide +kernel), gw_at 107 (by decide +kernel) (by decide +kernel), trivial, ws_X10_look, by decide +kernel, by decide +kernel, by decide +kernel, by decide⟩
theorem ki_X10_look : Cond.instanceMethod yX10_look ∈ gw ∧ Cond.selects yX10_look.cls yX10_look yX10_look ∈ gw := ⟨gw_at 1316 (by decide +kernel) (by decide +kernel), gw_at 1317 (by decide +kernel) (by decide +kernel)⟩
def f_Lw_look_b0   (h : Hp) (x0 : Nat) (x1 : Nat)  : Option (Int32 × Hp) :=
if hS h x0 = 10 then (
bC (f_Water_look h x0) (fun v2 h3 =>
if hS h3 x1 = 22 then (
if ib (0 : Int32) (hL h3 x1) = true then (
wr (sJ h3 x1 (ix (0 : Int32)) (Int32.toInt64 v2)) fun h7 =>
some ((0 : Int32), h7)
) else none) else none
) (fun x_ h3 =>
if x_ = 2 then (
some ((1 : Int32), h3)

) else (
none))
) else none
set_option maxRecDepth 20000 in
set_option maxHeartbeats 4000000 in
theorem f_Lw_look_b0_ok {l : Launch} {X : Nat × (Nat → Int32)} (hst : l.stackTraces = false) {d : Nat} (hd : 3 ≤ d)     {h : Hp} {x0 : Nat} {x1 : Nat}  {r : Int32 × Hp} (E : f_Lw_look_b0   h x0 x1 = some r) : Rn l X mL_look d 0 [(0, .ref x0), (1, .ref x1)] [] h (eI r) r.2 := by
  unfold f_Lw_look_b0 at E
  refine Rn.aload_n (pc' := 1) dL_look_0 rfl 1 rfl rfl ?_
  refine Rn.iconst (pc' := 2) (v := (0 : Int32)) (hv := by decide) dL_look_1 rfl ?_
  refine Rn.aload_n (pc' := 3) dL_look_2 rfl 0 rfl rfl ?_
  obtain ⟨g1, E⟩ := gd_of E
  rcases bC_of E with ⟨v2, h3, e4, E⟩ | ⟨x_, h3, e4, E⟩
  · refine Rn.callV1 (pc' := 6) (As := []) (rest := [.int (0 : Int32), .ref x1]) (f_Water_look_ok hst e4) (Nat.le_trans (by decide) hd) rfl kb_L_71 ki_X10_look rfl g1 rfl rfl (Nat.le_of_ble_eq_true rfl) dL_look_3 rfl rfl ?_
    refine Rn.i2l (pc' := 7) dL_look_6 rfl ?_
    obtain ⟨g5, E⟩ := gd_of E
    obtain ⟨g6, E⟩ := gd_of E
    refine Rn.last (pc' := 8) g5 g6 dL_look_7 rfl ?_
    replace E := wr_of E
    generalize eh8 : sJ h3 x1 (ix (0 : Int32)) (Int32.toInt64 v2) = h7 at E ⊢
    refine Rn.goto (pc' := 14) dL_look_8 (by decide) ?_
    refine Rn.iconst (pc' := 15) (v := (0 : Int32)) (hv := by decide) dL_look_14 rfl ?_
    cases E
    exact Rn.zret rfl rfl dL_look_15
  · refine Rn.callVX (As := []) (rest := [.int (0 : Int32), .ref x1]) (f_Water_look_ok hst e4) (Nat.le_trans (by decide) hd) rfl kb_L_71 ki_X10_look rfl g1 rfl rfl (Nat.le_of_ble_eq_true rfl) dL_look_3 ?_
    by_cases c9 : x_ = 2
    · replace E := (if_of E).1 c9
      subst c9
      refine RnX.catch (x := 2) (i := 2) (pch := 12) 0 rfl (pre0) (by decide) (by decide) kk_L_13 (by decide) (Or.inl ⟨2, rfl, dL_look_11, rfl⟩) (by decide) ?_
      change Rn _ _ _ _ _ [(0, .ref x0), (1, .ref x1)] _ _ _ _
      refine Rn.iconst (pc' := 13) (v := (1 : Int32)) (hv := by decide) dL_look_12 rfl ?_
      cases E
      exact Rn.zret rfl rfl dL_look_13
    replace E := (if_of E).2 c9
    cases E
def f_Lw_look (h : Hp) (x0 : Nat) (x1 : Nat) : Option (Int32 × Hp) := f_Lw_look_b0  h x0 x1
theorem f_Lw_look_ok {l : Launch} {X : Nat × (Nat → Int32)} (hst : l.stackTraces = false) {h : Hp} {x0 : Nat} {x1 : Nat} {r : Int32 × Hp} (E : f_Lw_look h x0 x1 = some r) : MC l X yL_look mL_look 3 [.ref x0, .ref x1] h (eI r) r.2 :=
  MC.body (by decide +kernel) rfl (by decide) hst (Nat.le_of_ble_eq_true rfl) (f_Lw_look_b0_ok hst (Nat.le_refl _) E)
abbrev mX11_uses : MI := (RX11, cX11_uses, 1, none, [], false)
theorem ws_X11_uses : ∀ w ∈ wsM yX11_uses mX11_uses, w ∈ gw := List.forall_mem_cons.mpr ⟨gw_at 1518 (by decide +kernel) (by decide +kernel), fun _ h => h⟩
theorem fl_X11_86_10 : FL RX11 86 10 9 := ⟨_, rfl, by decide, "VintageWaterModel", gw_at 1435 (by decide +kernel) (by decide +kernel), Or.inl rfl⟩
theorem fl_X11_92_10 : FL RX11 92 10 11 := ⟨_, rfl, by decide, "VintageWaterModel", gw_at 1437 (by decide +kernel) (by decide +kernel), Or.inl rfl⟩
theorem fl_X11_89_10 : FL RX11 89 10 10 := ⟨_, rfl, by decide, "VintageWaterModel", gw_at 1436 (by decide +kernel) (by decide +kernel), Or.inl rfl⟩
def f_Model_uses_b0   (h : Hp) (x0 : Nat)  : Option (Hp) :=
if hS h x0 = 11 then (
wr (sI h x0 0 (0 : Int32)) fun h2 =>
wr (sI h2 x0 11 (hI h2 x0 9)) fun h4 =>
wr (sI h4 x0 9 (0 : Int32)) fun h6 =>
wr (sI h6 x0 10 (0 : Int32)) fun h8 =>
some h8
) else none
set_option maxRecDepth 20000 in
set_option maxHeartbeats 4000000 in
theorem f_Model_uses_b0_ok {l : Launch} {X : Nat × (Nat → Int32)} (hst : l.stackTraces = false) {d : Nat} (hd : 0 ≤ d)     {h : Hp} {x0 : Nat}  {r : Hp} (E : f_Model_uses_b0   h x0 = some r) : Rn l X mX11_uses d 0 [(0, .ref x0)] [] h (eV r) r := by
  unfold f_Model_uses_b0 at E
  refine Rn.aload_n (pc' := 1) dX11_uses_0 rfl 0 rfl rfl ?_
  refine Rn.iconst (pc' := 2) (v := (0 : Int32)) (hv := by decide) dX11_uses_1 rfl ?_
  obtain ⟨g1, E⟩ := gd_of E
  refine Rn.putI (pc' := 5) fl_X11_3_10 (fun q hq => by cases hq; decide) g1 rfl rfl rfl dX11_uses_2 rfl ?_
  replace E := wr_of E
  generalize eh3 : sI h x0 0 (0 : Int32) = h2 at E ⊢
  refine Rn.aload_n (pc' := 6) dX11_uses_5 rfl 0 rfl rfl ?_
  refine Rn.aload_n (pc' := 7) dX11_uses_6 rfl 0 rfl rfl ?_
  refine Rn.getI (pc' := 10) fl_X11_86_10 (kp_sI eh3 g1) rfl dX11_uses_7 rfl ?_
  refine Rn.putI (pc' := 13) fl_X11_92_10 (fun q hq => by cases hq; decide) (kp_sI eh3 g1) rfl rfl rfl dX11_uses_10 rfl ?_
  replace E := wr_of E
  generalize eh5 : sI h2 x0 11 (hI h2 x0 9) = h4 at E ⊢
  refine Rn.aload_n (pc' := 14) dX11_uses_13 rfl 0 rfl rfl ?_
  refine Rn.iconst (pc' := 15) (v := (0 : Int32)) (hv := by decide) dX11_uses_14 rfl ?_
  refine Rn.putI (pc' := 18) fl_X11_86_10 (fun q hq => by cases hq; decide) (kp_sI eh5 (kp_sI eh3 g1)) rfl rfl rfl dX11_uses_15 rfl ?_
  replace E := wr_of E
  generalize eh7 : sI h4 x0 9 (0 : Int32) = h6 at E ⊢
  refine Rn.aload_n (pc' := 19) dX11_uses_18 rfl 0 rfl rfl ?_
  refine Rn.iconst (pc' := 20) (v := (0 : Int32)) (hv := by decide) dX11_uses_19 rfl ?_
  refine Rn.putI (pc' := 23) fl_X11_89_10 (fun q hq => by cases hq; decide) (kp_sI eh7 (kp_sI eh5 (kp_sI eh3 g1))) rfl rfl rfl dX11_uses_20 rfl ?_
  replace E := wr_of E
  generalize eh9 : sI h6 x0 10 (0 : Int32) = h8 at E ⊢
  cases E
  exact Rn.vret rfl dX11_uses_23
def f_Model_uses (h : Hp) (x0 : Nat) : Option (Hp) := f_Model_uses_b0  h x0
theorem f_Model_uses_ok {l : Launch} {X : Nat × (Nat → Int32)} (hst : l.stackTraces = false) {h : Hp} {x0 : Nat} {r : Hp} (E : f_Model_uses h x0 = some r) : MC l X yX11_uses mX11_uses 0 [.ref x0] h (eV r) r :=
  MC.body (by decide +kernel) rfl (by decide) hst (Nat.le_of_ble_eq_true rfl) (f_Model_uses_b0_ok hst (Nat.le_refl _) E)
abbrev mX11_look : MI := (RX11, cX11_look, 8, (some Jvm.ClassFile.FieldType.int), [], false)
theorem ws_X11_look : ∀ w ∈ wsM yX11_look mX11_look, w ∈ gw := List.forall_mem_cons.mpr ⟨gw_at 1888 (by decide +kernel) (by decide +kernel), fun _ h => h⟩
def f_Model_look_b159  (k45 : Hp → Nat → Int32 → Int32 → Int32 → Int32 → Int32 → Int32 → Option (Int32 × Hp)) (h : Hp) (x0 : Nat) (x1 : Int32) (x2 : Int32) (x3 : Int32) (x4 : Int32) (x5 : Int32) (x6 : Int32)  : Option (Int32 × Hp) :=
k45 h x0 x1 x2 x3 x4 x5 (x6 + (1 : Int32))

set_option maxRecDepth 20000 in
set_option maxHeartbeats 4000000 in
theorem f_Model_look_b159_ok {l : Launch} {X : Nat × (Nat → Int32)} (hst : l.stackTraces = false) {d : Nat} (hd : 3 ≤ d)   {k45 : Hp → Nat → Int32 → Int32 → Int32 → Int32 → Int32 → Int32 → Option (Int32 × Hp)} (hk45 : ∀ (h : Hp) (x0 : Nat) (x1 : Int32) (x2 : Int32) (x3 : Int32) (x4 : Int32) (x5 : Int32) (x6 : Int32)  (r : Int32 × Hp), k45 h x0 x1 x2 x3 x4 x5 x6 = some r → Rn l X mX11_look d 45 [(0, .ref x0), (1, .int x1), (2, .int x2), (3, .int x3), (4, .int x4), (5, .int x5), (6, .int x6)] [] h (eI r) r.2) {h : Hp} {x0 : Nat} {x1 : Int32} {x2 : Int32} {x3 : Int32} {x4 : Int32} {x5 : Int32} {x6 : Int32}  {r : Int32 × Hp} (E : f_Model_look_b159  k45 h x0 x1 x2 x3 x4 x5 x6 = some r) : Rn l X mX11_look d 159 [(0, .ref x0), (1, .int x1), (2, .int x2), (3, .int x3), (4, .int x4), (5, .int x5), (6, .int x6)] [] h (eI r) r.2 := by
  unfold f_Model_look_b159 at E
  refine Rn.iinc (pc' := 162) (v := (x6 + (1 : Int32))) (L' := [(6, .int (x6 + (1 : Int32))), (0, .ref x0), (1, .int x1), (2, .int x2), (3, .int x3), (4, .int x4), (5, .int x5)]) dX11_look_159 6 rfl rfl (by decide) rfl rfl ?_
  refine Rn.goto (pc' := 45) dX11_look_162 (by decide) ?_
  refine Rn.sub [1, 2, 3, 4, 5, 6, 0] rfl ?_
  exact hk45 _ _ _ _ _ _ _ _ _ E
def f_Model_look_b119  (k45 : Hp → Nat → Int32 → Int32 → Int32 → Int32 → Int32 → Int32 → Option (Int32 × Hp)) (h : Hp) (x0 : Nat) (x2 : Int32) (x4 : Int32) (x6 : Int32) (x7 : Int32) (s0 : Int32) : Option (Int32 × Hp) :=
f_Model_look_b159  k45 h x0 x6 x2 (-x7) x4 s0 x6

set_option maxRecDepth 20000 in
set_option maxHeartbeats 4000000 in
theorem f_Model_look_b119_ok {l : Launch} {X : Nat × (Nat → Int32)} (hst : l.stackTraces = false) {d : Nat} (hd : 3 ≤ d)   {k45 : Hp → Nat → Int32 → Int32 → Int32 → Int32 → Int32 → Int32 → Option (Int32 × Hp)} (hk45 : ∀ (h : Hp) (x0 : Nat) (x1 : Int32) (x2 : Int32) (x3 : Int32) (x4 : Int32) (x5 : Int32) (x6 : Int32)  (r : Int32 × Hp), k45 h x0 x1 x2 x3 x4 x5 x6 = some r → Rn l X mX11_look d 45 [(0, .ref x0), (1, .int x1), (2, .int x2), (3, .int x3), (4, .int x4), (5, .int x5), (6, .int x6)] [] h (eI r) r.2) {h : Hp} {x0 : Nat} {x2 : Int32} {x4 : Int32} {x6 : Int32} {x7 : Int32} {s0 : Int32} {r : Int32 × Hp} (E : f_Model_look_b119  k45 h x0 x2 x4 x6 x7 s0 = some r) : Rn l X mX11_look d 119 [(0, .ref x0), (2, .int x2), (4, .int x4), (6, .int x6), (7, .int x7)] [.int s0] h (eI r) r.2 := by
  unfold f_Model_look_b119 at E
  refine Rn.istore (pc' := 121) (L' := [(5, .int s0), (0, .ref x0), (2, .int x2), (4, .int x4), (6, .int x6), (7, .int x7)]) dX11_look_119 (by decide) rfl rfl ?_
  refine Rn.iload (pc' := 123) dX11_look_121 4 rfl rfl ?_
  refine Rn.istore_n (pc' := 124) (L' := [(1, .int x6), (5, .int s0), (0, .ref x0), (2, .int x2), (4, .int x4), (6, .int x6), (7, .int x7)]) dX11_look_123 rfl (by decide) rfl rfl ?_
  refine Rn.iload (pc' := 126) dX11_look_124 6 rfl rfl ?_
  refine Rn.ineg (pc' := 127) dX11_look_126 rfl ?_
  refine Rn.istore_n (pc' := 128) (L' := [(3, .int (-x7)), (1, .int x6), (5, .int s0), (0, .ref x0), (2, .int x2), (4, .int x4), (6, .int x6), (7, .int x7)]) dX11_look_127 rfl (by decide) rfl rfl ?_
  refine Rn.goto (pc' := 159) dX11_look_128 (by decide) ?_
  refine Rn.sub [3, 1, 4, 0, 5, 2, 6] rfl ?_
  exact f_Model_look_b159_ok hst hd  hk45 E
def f_Model_look_b118  (k45 : Hp → Nat → Int32 → Int32 → Int32 → Int32 → Int32 → Int32 → Option (Int32 × Hp)) (h : Hp) (x0 : Nat) (x2 : Int32) (x4 : Int32) (x6 : Int32) (x7 : Int32)  : Option (Int32 × Hp) :=
f_Model_look_b119  k45 h x0 x2 x4 x6 x7 (0 : Int32)

set_option maxRecDepth 20000 in
set_option maxHeartbeats 4000000 in
theorem f_Model_look_b118_ok {l : Launch} {X : Nat × (Nat → Int32)} (hst : l.stackTraces = false) {d : Nat} (hd : 3 ≤ d)   {k45 : Hp → Nat → Int32 → Int32 → Int32 → Int32 → Int32 → Int32 → Option (Int32 × Hp)} (hk45 : ∀ (h : Hp) (x0 : Nat) (x1 : Int32) (x2 : Int32) (x3 : Int32) (x4 : Int32) (x5 : Int32) (x6 : Int32)  (r : Int32 × Hp), k45 h x0 x1 x2 x3 x4 x5 x6 = some r → Rn l X mX11_look d 45 [(0, .ref x0), (1, .int x1), (2, .int x2), (3, .int x3), (4, .int x4), (5, .int x5), (6, .int x6)] [] h (eI r) r.2) {h : Hp} {x0 : Nat} {x2 : Int32} {x4 : Int32} {x6 : Int32} {x7 : Int32}  {r : Int32 × Hp} (E : f_Model_look_b118  k45 h x0 x2 x4 x6 x7 = some r) : Rn l X mX11_look d 118 [(0, .ref x0), (2, .int x2), (4, .int x4), (6, .int x6), (7, .int x7)] [] h (eI r) r.2 := by
  unfold f_Model_look_b118 at E
  refine Rn.iconst (pc' := 119) (v := (0 : Int32)) (hv := by decide) dX11_look_118 rfl ?_
  exact f_Model_look_b119_ok hst hd  hk45 E
def f_Model_look_b150  (k45 : Hp → Nat → Int32 → Int32 → Int32 → Int32 → Int32 → Int32 → Option (Int32 × Hp)) (h : Hp) (x0 : Nat) (x1 : Int32) (x3 : Int32) (x6 : Int32) (x7 : Int32) (s0 : Int32) : Option (Int32 × Hp) :=
f_Model_look_b159  k45 h x0 x1 x6 x3 x7 s0 x6

set_option maxRecDepth 20000 in
set_option maxHeartbeats 4000000 in
theorem f_Model_look_b150_ok {l : Launch} {X : Nat × (Nat → Int32)} (hst : l.stackTraces = false) {d : Nat} (hd : 3 ≤ d)   {k45 : Hp → Nat → Int32 → Int32 → Int32 → Int32 → Int32 → Int32 → Option (Int32 × Hp)} (hk45 : ∀ (h : Hp) (x0 : Nat) (x1 : Int32) (x2 : Int32) (x3 : Int32) (x4 : Int32) (x5 : Int32) (x6 : Int32)  (r : Int32 × Hp), k45 h x0 x1 x2 x3 x4 x5 x6 = some r → Rn l X mX11_look d 45 [(0, .ref x0), (1, .int x1), (2, .int x2), (3, .int x3), (4, .int x4), (5, .int x5), (6, .int x6)] [] h (eI r) r.2) {h : Hp} {x0 : Nat} {x1 : Int32} {x3 : Int32} {x6 : Int32} {x7 : Int32} {s0 : Int32} {r : Int32 × Hp} (E : f_Model_look_b150  k45 h x0 x1 x3 x6 x7 s0 = some r) : Rn l X mX11_look d 150 [(0, .ref x0), (1, .int x1), (3, .int x3), (6, .int x6), (7, .int x7)] [.int s0] h (eI r) r.2 := by
  unfold f_Model_look_b150 at E
  refine Rn.istore (pc' := 152) (L' := [(5, .int s0), (0, .ref x0), (1, .int x1), (3, .int x3), (6, .int x6), (7, .int x7)]) dX11_look_150 (by decide) rfl rfl ?_
  refine Rn.iload (pc' := 154) dX11_look_152 4 rfl rfl ?_
  refine Rn.istore_n (pc' := 155) (L' := [(2, .int x6), (5, .int s0), (0, .ref x0), (1, .int x1), (3, .int x3), (6, .int x6), (7, .int x7)]) dX11_look_154 rfl (by decide) rfl rfl ?_
  refine Rn.iload (pc' := 157) dX11_look_155 6 rfl rfl ?_
  refine Rn.istore (pc' := 159) (L' := [(4, .int x7), (2, .int x6), (5, .int s0), (0, .ref x0), (1, .int x1), (3, .int x3), (6, .int x6), (7, .int x7)]) dX11_look_157 (by decide) rfl rfl ?_
  refine Rn.sub [3, 4, 1, 5, 0, 2, 6] rfl ?_
  exact f_Model_look_b159_ok hst hd  hk45 E
def f_Model_look_b149  (k45 : Hp → Nat → Int32 → Int32 → Int32 → Int32 → Int32 → Int32 → Option (Int32 × Hp)) (h : Hp) (x0 : Nat) (x1 : Int32) (x3 : Int32) (x6 : Int32) (x7 : Int32)  : Option (Int32 × Hp) :=
f_Model_look_b150  k45 h x0 x1 x3 x6 x7 (0 : Int32)

set_option maxRecDepth 20000 in
set_option maxHeartbeats 4000000 in
theorem f_Model_look_b149_ok {l : Launch} {X : Nat × (Nat → Int32)} (hst : l.stackTraces = false) {d : Nat} (hd : 3 ≤ d)   {k45 : Hp → Nat → Int32 → Int32 → Int32 → Int32 → Int32 → Int32 → Option (Int32 × Hp)} (hk45 : ∀ (h : Hp) (x0 : Nat) (x1 : Int32) (x2 : Int32) (x3 : Int32) (x4 : Int32) (x5 : Int32) (x6 : Int32)  (r : Int32 × Hp), k45 h x0 x1 x2 x3 x4 x5 x6 = some r → Rn l X mX11_look d 45 [(0, .ref x0), (1, .int x1), (2, .int x2), (3, .int x3), (4, .int x4), (5, .int x5), (6, .int x6)] [] h (eI r) r.2) {h : Hp} {x0 : Nat} {x1 : Int32} {x3 : Int32} {x6 : Int32} {x7 : Int32}  {r : Int32 × Hp} (E : f_Model_look_b149  k45 h x0 x1 x3 x6 x7 = some r) : Rn l X mX11_look d 149 [(0, .ref x0), (1, .int x1), (3, .int x3), (6, .int x6), (7, .int x7)] [] h (eI r) r.2 := by
  unfold f_Model_look_b149 at E
  refine Rn.iconst (pc' := 150) (v := (0 : Int32)) (hv := by decide) dX11_look_149 rfl ?_
  exact f_Model_look_b150_ok hst hd  hk45 E
def f_Model_look_b97  (k45 : Hp → Nat → Int32 → Int32 → Int32 → Int32 → Int32 → Int32 → Option (Int32 × Hp)) (h : Hp) (x0 : Nat) (x1 : Int32) (x2 : Int32) (x3 : Int32) (x4 : Int32) (x5 : Int32) (x6 : Int32) (s0 : Int32) (s1 : Int32) : Option (Int32 × Hp) :=
if 0 ≤ (s0 + s1) then (
if (s0 + s1) ≤ 0 then (
f_Model_look_b159  k45 h x0 x1 x2 x3 x4 x5 x6

) else (
if x5 = 0 then (
f_Model_look_b149  k45 h x0 x1 x3 x6 (s0 + s1)

) else (
if 0 ≤ x2 then (
f_Model_look_b149  k45 h x0 x1 x3 x6 (s0 + s1)

) else (
f_Model_look_b150  k45 h x0 x1 x3 x6 (s0 + s1) (1 : Int32)

)

)

)

) else (
if x5 = 0 then (
f_Model_look_b118  k45 h x0 x2 x4 x6 (s0 + s1)

) else (
if 0 ≤ x1 then (
f_Model_look_b118  k45 h x0 x2 x4 x6 (s0 + s1)

) else (
f_Model_look_b119  k45 h x0 x2 x4 x6 (s0 + s1) (1 : Int32)

)

)

)

set_option maxRecDepth 20000 in
set_option maxHeartbeats 4000000 in
theorem f_Model_look_b97_ok {l : Launch} {X : Nat × (Nat → Int32)} (hst : l.stackTraces = false) {d : Nat} (hd : 3 ≤ d)   {k45 : Hp → Nat → Int32 → Int32 → Int32 → Int32 → Int32 → Int32 → Option (Int32 × Hp)} (hk45 : ∀ (h : Hp) (x0 : Nat) (x1 : Int32) (x2 : Int32) (x3 : Int32) (x4 : Int32) (x5 : Int32) (x6 : Int32)  (r : Int32 × Hp), k45 h x0 x1 x2 x3 x4 x5 x6 = some r → Rn l X mX11_look d 45 [(0, .ref x0), (1, .int x1), (2, .int x2), (3, .int x3), (4, .int x4), (5, .int x5), (6, .int x6)] [] h (eI r) r.2) {h : Hp} {x0 : Nat} {x1 : Int32} {x2 : Int32} {x3 : Int32} {x4 : Int32} {x5 : Int32} {x6 : Int32} {s0 : Int32} {s1 : Int32} {r : Int32 × Hp} (E : f_Model_look_b97  k45 h x0 x1 x2 x3 x4 x5 x6 s0 s1 = some r) : Rn l X mX11_look d 97 [(0, .ref x0), (1, .int x1), (2, .int x2), (3, .int x3), (4, .int x4), (5, .int x5), (6, .int x6)] [.int s1, .int s0] h (eI r) r.2 := by
  unfold f_Model_look_b97 at E
  refine Rn.iadd (pc' := 98) dX11_look_97 rfl ?_
  refine Rn.istore (pc' := 100) (L' := [(7, .int (s0 + s1)), (0, .ref x0), (1, .int x1), (2, .int x2), (3, .int x3), (4, .int x4), (5, .int x5), (6, .int x6)]) dX11_look_98 (by decide) rfl rfl ?_
  refine Rn.iload (pc' := 102) dX11_look_100 0 rfl rfl ?_
  refine Rn.if_ge (pc' := 105) (tgt := 131) dX11_look_102 (by decide) rfl (fun c1 => ?_) (fun c1 => ?_)
  · replace E := (if_of E).1 c1
    refine Rn.iload (pc' := 133) dX11_look_131 0 rfl rfl ?_
    refine Rn.if_le (pc' := 136) (tgt := 159) dX11_look_133 (by decide) rfl (fun c2 => ?_) (fun c2 => ?_)
    · replace E := (if_of E).1 c2
      refine Rn.sub [1, 2, 3, 4, 5, 6, 7] rfl ?_
      exact f_Model_look_b159_ok hst hd  hk45 E
    · replace E := (if_of E).2 c2
      refine Rn.iload (pc' := 138) dX11_look_136 6 rfl rfl ?_
      refine Rn.if_eq (pc' := 141) (tgt := 149) dX11_look_138 (by decide) rfl (fun c3 => ?_) (fun c3 => ?_)
      · replace E := (if_of E).1 c3
        refine Rn.sub [1, 2, 4, 7, 0] rfl ?_
        exact f_Model_look_b149_ok hst hd  hk45 E
      · replace E := (if_of E).2 c3
        refine Rn.iload_n (pc' := 142) dX11_look_141 rfl 3 rfl rfl ?_
        refine Rn.if_ge (pc' := 145) (tgt := 149) dX11_look_142 (by decide) rfl (fun c4 => ?_) (fun c4 => ?_)
        · replace E := (if_of E).1 c4
          refine Rn.sub [1, 2, 4, 7, 0] rfl ?_
          exact f_Model_look_b149_ok hst hd  hk45 E
        · replace E := (if_of E).2 c4
          refine Rn.iconst (pc' := 146) (v := (1 : Int32)) (hv := by decide) dX11_look_145 rfl ?_
          refine Rn.goto (pc' := 150) dX11_look_146 (by decide) ?_
          refine Rn.sub [1, 2, 4, 7, 0] rfl ?_
          exact f_Model_look_b150_ok hst hd  hk45 E
  · replace E := (if_of E).2 c1
    refine Rn.iload (pc' := 107) dX11_look_105 6 rfl rfl ?_
    refine Rn.if_eq (pc' := 110) (tgt := 118) dX11_look_107 (by decide) rfl (fun c5 => ?_) (fun c5 => ?_)
    · replace E := (if_of E).1 c5
      refine Rn.sub [1, 3, 5, 7, 0] rfl ?_
      exact f_Model_look_b118_ok hst hd  hk45 E
    · replace E := (if_of E).2 c5
      refine Rn.iload_n (pc' := 111) dX11_look_110 rfl 2 rfl rfl ?_
      refine Rn.if_ge (pc' := 114) (tgt := 118) dX11_look_111 (by decide) rfl (fun c6 => ?_) (fun c6 => ?_)
      · replace E := (if_of E).1 c6
        refine Rn.sub [1, 3, 5, 7, 0] rfl ?_
        exact f_Model_look_b118_ok hst hd  hk45 E
      · replace E := (if_of E).2 c6
        refine Rn.iconst (pc' := 115) (v := (1 : Int32)) (hv := by decide) dX11_look_114 rfl ?_
        refine Rn.goto (pc' := 119) dX11_look_115 (by decide) ?_
        refine Rn.sub [1, 3, 5, 7, 0] rfl ?_
        exact f_Model_look_b119_ok hst hd  hk45 E
def f_Model_look_b96  (k45 : Hp → Nat → Int32 → Int32 → Int32 → Int32 → Int32 → Int32 → Option (Int32 × Hp)) (h : Hp) (x0 : Nat) (x1 : Int32) (x2 : Int32) (x3 : Int32) (x4 : Int32) (x5 : Int32) (x6 : Int32) (s0 : Int32) : Option (Int32 × Hp) :=
f_Model_look_b97  k45 h x0 x1 x2 x3 x4 x5 x6 s0 (0 : Int32)

set_option maxRecDepth 20000 in
set_option maxHeartbeats 4000000 in
theorem f_Model_look_b96_ok {l : Launch} {X : Nat × (Nat → Int32)} (hst : l.stackTraces = false) {d : Nat} (hd : 3 ≤ d)   {k45 : Hp → Nat → Int32 → Int32 → Int32 → Int32 → Int32 → Int32 → Option (Int32 × Hp)} (hk45 : ∀ (h : Hp) (x0 : Nat) (x1 : Int32) (x2 : Int32) (x3 : Int32) (x4 : Int32) (x5 : Int32) (x6 : Int32)  (r : Int32 × Hp), k45 h x0 x1 x2 x3 x4 x5 x6 = some r → Rn l X mX11_look d 45 [(0, .ref x0), (1, .int x1), (2, .int x2), (3, .int x3), (4, .int x4), (5, .int x5), (6, .int x6)] [] h (eI r) r.2) {h : Hp} {x0 : Nat} {x1 : Int32} {x2 : Int32} {x3 : Int32} {x4 : Int32} {x5 : Int32} {x6 : Int32} {s0 : Int32} {r : Int32 × Hp} (E : f_Model_look_b96  k45 h x0 x1 x2 x3 x4 x5 x6 s0 = some r) : Rn l X mX11_look d 96 [(0, .ref x0), (1, .int x1), (2, .int x2), (3, .int x3), (4, .int x4), (5, .int x5), (6, .int x6)] [.int s0] h (eI r) r.2 := by
  unfold f_Model_look_b96 at E
  refine Rn.iconst (pc' := 97) (v := (0 : Int32)) (hv := by decide) dX11_look_96 rfl ?_
  exact f_Model_look_b97_ok hst hd  hk45 E
def f_Model_look_b45  (k45 : Hp → Nat → Int32 → Int32 → Int32 → Int32 → Int32 → Int32 → Option (Int32 × Hp)) (h : Hp) (x0 : Nat) (x1 : Int32) (x2 : Int32) (x3 : Int32) (x4 : Int32) (x5 : Int32) (x6 : Int32)  : Option (Int32 × Hp) :=
if hS h x0 = 11 then (
bI (f_Model_cisterns h x0) fun v2 h3 =>
if v2 ≤ x6 then (
if x5 = 0 then (
some ((-1 : Int32), h3)

) else (
if x1 < 0 then (
some ((-1 : Int32), h3)

) else (
if x2 < 0 then (
some ((-1 : Int32), h3)

) else (
if x3 = x4 then (
some ((((8 : Int32) * x1) + x2), h3)

) else (
some ((-1 : Int32), h3)

)

)

)

)

) else (
if hS h3 x0 = 11 then (
if hS h3 (hR h3 x0 8) = 21 then (
if ib x6 (hL h3 (hR h3 x0 8)) = true then (
bI (f_Model_measures h3 x0 x6) fun v13 h14 =>
if hS h14 x0 = 11 then (
bI (f_Model_ofCistern h14 x0 x6 (1 : Int32)) fun v17 h18 =>
if v17 = (3 : Int32) then (
if hS h18 x0 = 11 then (
bI (f_Model_measures h18 x0 x6) fun v22 h23 =>
if v22 ≤ 0 then (
f_Model_look_b96  k45 h23 x0 x1 x2 x3 x4 x5 x6 (((hI h3 (hR h3 x0 8) (ix x6)) &&& (255 : Int32)) - v13)

) else (
f_Model_look_b97  k45 h23 x0 x1 x2 x3 x4 x5 x6 (((hI h3 (hR h3 x0 8) (ix x6)) &&& (255 : Int32)) - v13) (1 : Int32)

)
) else none
) else (
f_Model_look_b96  k45 h18 x0 x1 x2 x3 x4 x5 x6 (((hI h3 (hR h3 x0 8) (ix x6)) &&& (255 : Int32)) - v13)

)
) else none) else none) else none) else none
)
) else none
set_option maxRecDepth 20000 in
set_option maxHeartbeats 4000000 in
theorem f_Model_look_b45_ok {l : Launch} {X : Nat × (Nat → Int32)} (hst : l.stackTraces = false) {d : Nat} (hd : 3 ≤ d)   {k45 : Hp → Nat → Int32 → Int32 → Int32 → Int32 → Int32 → Int32 → Option (Int32 × Hp)} (hk45 : ∀ (h : Hp) (x0 : Nat) (x1 : Int32) (x2 : Int32) (x3 : Int32) (x4 : Int32) (x5 : Int32) (x6 : Int32)  (r : Int32 × Hp), k45 h x0 x1 x2 x3 x4 x5 x6 = some r → Rn l X mX11_look d 45 [(0, .ref x0), (1, .int x1), (2, .int x2), (3, .int x3), (4, .int x4), (5, .int x5), (6, .int x6)] [] h (eI r) r.2) {h : Hp} {x0 : Nat} {x1 : Int32} {x2 : Int32} {x3 : Int32} {x4 : Int32} {x5 : Int32} {x6 : Int32}  {r : Int32 × Hp} (E : f_Model_look_b45  k45 h x0 x1 x2 x3 x4 x5 x6 = some r) : Rn l X mX11_look d 45 [(0, .ref x0), (1, .int x1), (2, .int x2), (3, .int x3), (4, .int x4), (5, .int x5), (6, .int x6)] [] h (eI r) r.2 := by
  unfold f_Model_look_b45 at E
  refine Rn.iload (pc' := 47) dX11_look_45 6 rfl rfl ?_
  refine Rn.aload_n (pc' := 48) dX11_look_47 rfl 0 rfl rfl ?_
  obtain ⟨g1, E⟩ := gd_of E
  obtain ⟨v2, h3, e4, E⟩ := bI_of E
  refine Rn.callV1 (pc' := 51) (As := []) (rest := [.int x6]) (f_Model_cisterns_ok hst e4) (Nat.le_trans (by decide) hd) rfl kb_X11_52 ki_X11_cisterns rfl g1 rfl rfl (Nat.le_of_ble_eq_true rfl) dX11_look_48 rfl rfl ?_
  refine Rn.icmp_ge (pc' := 54) (tgt := 165) dX11_look_51 (by decide) rfl (fun c5 => ?_) (fun c5 => ?_)
  · replace E := (if_of E).1 c5
    refine Rn.iload (pc' := 167) dX11_look_165 5 rfl rfl ?_
    refine Rn.if_eq (pc' := 170) (tgt := 193) dX11_look_167 (by decide) rfl (fun c6 => ?_) (fun c6 => ?_)
    · replace E := (if_of E).1 c6
      refine Rn.iconst (pc' := 194) (v := (-1 : Int32)) (hv := by decide) dX11_look_193 rfl ?_
      cases E
      exact Rn.zret rfl rfl dX11_look_194
    · replace E := (if_of E).2 c6
      refine Rn.iload_n (pc' := 171) dX11_look_170 rfl 1 rfl rfl ?_
      refine Rn.if_lt (pc' := 174) (tgt := 193) dX11_look_171 (by decide) rfl (fun c7 => ?_) (fun c7 => ?_)
      · replace E := (if_of E).1 c7
        refine Rn.iconst (pc' := 194) (v := (-1 : Int32)) (hv := by decide) dX11_look_193 rfl ?_
        cases E
        exact Rn.zret rfl rfl dX11_look_194
      · replace E := (if_of E).2 c7
        refine Rn.iload_n (pc' := 175) dX11_look_174 rfl 2 rfl rfl ?_
        refine Rn.if_lt (pc' := 178) (tgt := 193) dX11_look_175 (by decide) rfl (fun c8 => ?_) (fun c8 => ?_)
        · replace E := (if_of E).1 c8
          refine Rn.iconst (pc' := 194) (v := (-1 : Int32)) (hv := by decide) dX11_look_193 rfl ?_
          cases E
          exact Rn.zret rfl rfl dX11_look_194
        · replace E := (if_of E).2 c8
          refine Rn.iload_n (pc' := 179) dX11_look_178 rfl 3 rfl rfl ?_
          refine Rn.iload (pc' := 181) dX11_look_179 4 rfl rfl ?_
          refine Rn.icmp_ne (pc' := 184) (tgt := 193) dX11_look_181 (by decide) rfl (fun c9 => ?_) (fun c9 => ?_)
          · replace E := (if_of E).2 c9
            refine Rn.iconst (pc' := 194) (v := (-1 : Int32)) (hv := by decide) dX11_look_193 rfl ?_
            cases E
            exact Rn.zret rfl rfl dX11_look_194
          · replace E := (if_of E).1 c9
            refine Rn.bipush (pc' := 186) (v := (8 : Int32)) (hv := by decide) dX11_look_184 rfl ?_
            refine Rn.iload_n (pc' := 187) dX11_look_186 rfl 1 rfl rfl ?_
            refine Rn.imul (pc' := 188) dX11_look_187 rfl ?_
            refine Rn.iload_n (pc' := 189) dX11_look_188 rfl 2 rfl rfl ?_
            refine Rn.iadd (pc' := 190) dX11_look_189 rfl ?_
            refine Rn.goto (pc' := 194) dX11_look_190 (by decide) ?_
            cases E
            exact Rn.zret rfl rfl dX11_look_194
  · replace E := (if_of E).2 c5
    refine Rn.aload_n (pc' := 55) dX11_look_54 rfl 0 rfl rfl ?_
    obtain ⟨g10, E⟩ := gd_of E
    refine Rn.getR (pc' := 58) fl_X11_29_10 g10 rfl dX11_look_55 rfl ?_
    refine Rn.iload (pc' := 60) dX11_look_58 6 rfl rfl ?_
    obtain ⟨g11, E⟩ := gd_of E
    obtain ⟨g12, E⟩ := gd_of E
    refine Rn.bald (pc' := 61) g11 g12 dX11_look_60 rfl ?_
    refine Rn.sipush (pc' := 64) (v := (255 : Int32)) (hv := by decide) dX11_look_61 rfl ?_
    refine Rn.iand (pc' := 65) dX11_look_64 rfl ?_
    refine Rn.aload_n (pc' := 66) dX11_look_65 rfl 0 rfl rfl ?_
    refine Rn.iload (pc' := 68) dX11_look_66 6 rfl rfl ?_
    obtain ⟨v13, h14, e15, E⟩ := bI_of E
    refine Rn.callV1 (pc' := 71) (As := [.int x6]) (rest := [.int ((hI h3 (hR h3 x0 8) (ix x6)) &&& (255 : Int32))]) (f_Model_measures_ok hst e15) (Nat.le_trans (by decide) hd) rfl kb_X11_75 ki_X11_measures rfl g10 rfl rfl (Nat.le_of_ble_eq_true rfl) dX11_look_68 rfl rfl ?_
    refine Rn.isub (pc' := 72) dX11_look_71 rfl ?_
    refine Rn.aload_n (pc' := 73) dX11_look_72 rfl 0 rfl rfl ?_
    refine Rn.iload (pc' := 75) dX11_look_73 6 rfl rfl ?_
    refine Rn.iconst (pc' := 76) (v := (1 : Int32)) (hv := by decide) dX11_look_75 rfl ?_
    obtain ⟨g16, E⟩ := gd_of E
    obtain ⟨v17, h18, e19, E⟩ := bI_of E
    refine Rn.callV1 (pc' := 79) (As := [.int x6, .int (1 : Int32)]) (rest := [.int (((hI h3 (hR h3 x0 8) (ix x6)) &&& (255 : Int32)) - v13)]) (f_Model_ofCistern_ok hst e19) (Nat.le_trans (by decide) hd) rfl kb_X11_69 ki_X11_ofCistern rfl g16 rfl rfl (Nat.le_of_ble_eq_true rfl) dX11_look_76 rfl rfl ?_
    refine Rn.iconst (pc' := 80) (v := (3 : Int32)) (hv := by decide) dX11_look_79 rfl ?_
    refine Rn.icmp_ne (pc' := 83) (tgt := 96) dX11_look_80 (by decide) rfl (fun c20 => ?_) (fun c20 => ?_)
    · replace E := (if_of E).2 c20
      exact f_Model_look_b96_ok hst hd  hk45 E
    · replace E := (if_of E).1 c20
      refine Rn.aload_n (pc' := 84) dX11_look_83 rfl 0 rfl rfl ?_
      refine Rn.iload (pc' := 86) dX11_look_84 6 rfl rfl ?_
      obtain ⟨g21, E⟩ := gd_of E
      obtain ⟨v22, h23, e24, E⟩ := bI_of E
      refine Rn.callV1 (pc' := 89) (As := [.int x6]) (rest := [.int (((hI h3 (hR h3 x0 8) (ix x6)) &&& (255 : Int32)) - v13)]) (f_Model_measures_ok hst e24) (Nat.le_trans (by decide) hd) rfl kb_X11_75 ki_X11_measures rfl g21 rfl rfl (Nat.le_of_ble_eq_true rfl) dX11_look_86 rfl rfl ?_
      refine Rn.if_le (pc' := 92) (tgt := 96) dX11_look_89 (by decide) rfl (fun c25 => ?_) (fun c25 => ?_)
      · replace E := (if_of E).1 c25
        exact f_Model_look_b96_ok hst hd  hk45 E
      · replace E := (if_of E).2 c25
        refine Rn.iconst (pc' := 93) (v := (1 : Int32)) (hv := by decide) dX11_look_92 rfl ?_
        refine Rn.goto (pc' := 97) dX11_look_93 (by decide) ?_
        exact f_Model_look_b97_ok hst hd  hk45 E
def f_Model_look_L45   (n : Nat) : Hp → Nat → Int32 → Int32 → Int32 → Int32 → Int32 → Int32 → Option (Int32 × Hp) := Nat.rec (motive := fun _ => Hp → Nat → Int32 → Int32 → Int32 → Int32 → Int32 → Int32 → Option (Int32 × Hp)) (fun _ _ _ _ _ _ _ _ => none) (fun _ rec => f_Model_look_b45   rec) n
theorem f_Model_look_L45_ok {l : Launch} {X : Nat × (Nat → Int32)} (hst : l.stackTraces = false) {d : Nat} (hd : 3 ≤ d)     : ∀ (n : Nat) (h : Hp) (x0 : Nat) (x1 : Int32) (x2 : Int32) (x3 : Int32) (x4 : Int32) (x5 : Int32) (x6 : Int32)  (r : Int32 × Hp), f_Model_look_L45   n h x0 x1 x2 x3 x4 x5 x6 = some r → Rn l X mX11_look d 45 [(0, .ref x0), (1, .int x1), (2, .int x2), (3, .int x3), (4, .int x4), (5, .int x5), (6, .int x6)] [] h (eI r) r.2 := by
  intro n
  induction n with
  | zero => intro h x0 x1 x2 x3 x4 x5 x6 r E; cases E
  | succ n ih => intro h x0 x1 x2 x3 x4 x5 x6 r E; exact f_Model_look_b45_ok hst hd   ih E
def f_Model_look_b21   (h : Hp) (x0 : Nat) (s0 : Nat) (s1 : Int32) : Option (Int32 × Hp) :=
if hS h s0 = 11 then (
bI (f_Model_throwsIf h s0 s1 (1 : Int32)) fun v2 h3 =>
if v2 = 0 then (
f_Model_look_L45   FU h3 x0 (-1 : Int32) (-1 : Int32) (0 : Int32) (0 : Int32) (1 : Int32) (0 : Int32)

) else (
some ((0 : Int32), h3)

)
) else none
set_option maxRecDepth 20000 in
set_option maxHeartbeats 4000000 in
theorem f_Model_look_b21_ok {l : Launch} {X : Nat × (Nat → Int32)} (hst : l.stackTraces = false) {d : Nat} (hd : 3 ≤ d)     {h : Hp} {x0 : Nat} {s0 : Nat} {s1 : Int32} {r : Int32 × Hp} (E : f_Model_look_b21   h x0 s0 s1 = some r) : Rn l X mX11_look d 21 [(0, .ref x0)] [.int s1, .ref s0] h (eI r) r.2 := by
  unfold f_Model_look_b21 at E
  refine Rn.iconst (pc' := 22) (v := (1 : Int32)) (hv := by decide) dX11_look_21 rfl ?_
  obtain ⟨g1, E⟩ := gd_of E
  obtain ⟨v2, h3, e4, E⟩ := bI_of E
  refine Rn.callV1 (pc' := 25) (As := [.int s1, .int (1 : Int32)]) (rest := []) (f_Model_throwsIf_ok hst e4) (Nat.le_trans (by decide) hd) rfl kb_X11_265 ki_X11_throwsIf rfl g1 rfl rfl (Nat.le_of_ble_eq_true rfl) dX11_look_22 rfl rfl ?_
  refine Rn.if_eq (pc' := 28) (tgt := 30) dX11_look_25 (by decide) rfl (fun c5 => ?_) (fun c5 => ?_)
  · replace E := (if_of E).1 c5
    refine Rn.iconst (pc' := 31) (v := (-1 : Int32)) (hv := by decide) dX11_look_30 rfl ?_
    refine Rn.istore_n (pc' := 32) (L' := [(1, .int (-1 : Int32)), (0, .ref x0)]) dX11_look_31 rfl (by decide) rfl rfl ?_
    refine Rn.iconst (pc' := 33) (v := (-1 : Int32)) (hv := by decide) dX11_look_32 rfl ?_
    refine Rn.istore_n (pc' := 34) (L' := [(2, .int (-1 : Int32)), (1, .int (-1 : Int32)), (0, .ref x0)]) dX11_look_33 rfl (by decide) rfl rfl ?_
    refine Rn.iconst (pc' := 35) (v := (0 : Int32)) (hv := by decide) dX11_look_34 rfl ?_
    refine Rn.istore_n (pc' := 36) (L' := [(3, .int (0 : Int32)), (2, .int (-1 : Int32)), (1, .int (-1 : Int32)), (0, .ref x0)]) dX11_look_35 rfl (by decide) rfl rfl ?_
    refine Rn.iconst (pc' := 37) (v := (0 : Int32)) (hv := by decide) dX11_look_36 rfl ?_
    refine Rn.istore (pc' := 39) (L' := [(4, .int (0 : Int32)), (3, .int (0 : Int32)), (2, .int (-1 : Int32)), (1, .int (-1 : Int32)), (0, .ref x0)]) dX11_look_37 (by decide) rfl rfl ?_
    refine Rn.iconst (pc' := 40) (v := (1 : Int32)) (hv := by decide) dX11_look_39 rfl ?_
    refine Rn.istore (pc' := 42) (L' := [(5, .int (1 : Int32)), (4, .int (0 : Int32)), (3, .int (0 : Int32)), (2, .int (-1 : Int32)), (1, .int (-1 : Int32)), (0, .ref x0)]) dX11_look_40 (by decide) rfl rfl ?_
    refine Rn.iconst (pc' := 43) (v := (0 : Int32)) (hv := by decide) dX11_look_42 rfl ?_
    refine Rn.istore (pc' := 45) (L' := [(6, .int (0 : Int32)), (5, .int (1 : Int32)), (4, .int (0 : Int32)), (3, .int (0 : Int32)), (2, .int (-1 : Int32)), (1, .int (-1 : Int32)), (0, .ref x0)]) dX11_look_43 (by decide) rfl rfl ?_
    refine Rn.sub [6, 5, 4, 3, 2, 1, 0] rfl ?_
    exact f_Model_look_L45_ok hst hd   FU _ _ _ _ _ _ _ _ _ E
  · replace E := (if_of E).2 c5
    refine Rn.iconst (pc' := 29) (v := (0 : Int32)) (hv := by decide) dX11_look_28 rfl ?_
    cases E
    exact Rn.zret rfl rfl dX11_look_29
theorem kb_X11_254 : KB RX11 254 yX11_uses mX11_uses 0 := ⟨gw_at 1515 (by decide +kernel) (by decide +kernel), gw_at 117 (by decide +kernel) (by decide +kernel), trivial, ws_X11_uses, by decide +kernel, by decide +kernel, by decide +kernel, by decide⟩
theorem ki_X11_uses : Cond.instanceMethod yX11_uses ∈ gw ∧ Cond.selects yX11_uses.cls yX11_uses yX11_uses ∈ gw := ⟨gw_at 1517 (by decide +kernel) (by decide +kernel), gw_at 41 (by decide +kernel) (by decide +kernel)⟩
def f_Model_look_b0   (h : Hp) (x0 : Nat)  : Option (Int32 × Hp) :=
if hS h x0 = 11 then (
bV (f_Model_uses h x0) fun h3 =>
if hS h3 x0 = 11 then (
bI (f_Model_cisterns h3 x0) fun v6 h7 =>
if (hI h3 x0 11) = v6 then (
f_Model_look_b21   h7 x0 x0 (0 : Int32)

) else (
f_Model_look_b21   h7 x0 x0 (1 : Int32)

)
) else none) else none
set_option maxRecDepth 20000 in
set_option maxHeartbeats 4000000 in
theorem f_Model_look_b0_ok {l : Launch} {X : Nat × (Nat → Int32)} (hst : l.stackTraces = false) {d : Nat} (hd : 3 ≤ d)     {h : Hp} {x0 : Nat}  {r : Int32 × Hp} (E : f_Model_look_b0   h x0 = some r) : Rn l X mX11_look d 0 [(0, .ref x0)] [] h (eI r) r.2 := by
  unfold f_Model_look_b0 at E
  refine Rn.aload_n (pc' := 1) dX11_look_0 rfl 0 rfl rfl ?_
  obtain ⟨g1, E⟩ := gd_of E
  obtain ⟨h3, e4, E⟩ := bV_of E
  refine Rn.callV1 (pc' := 4) (As := []) (rest := []) (f_Model_uses_ok hst e4) (Nat.le_trans (by decide) hd) rfl kb_X11_254 ki_X11_uses rfl g1 rfl rfl (Nat.le_of_ble_eq_true rfl) dX11_look_1 rfl rfl ?_
  refine Rn.aload_n (pc' := 5) dX11_look_4 rfl 0 rfl rfl ?_
  refine Rn.aload_n (pc' := 6) dX11_look_5 rfl 0 rfl rfl ?_
  obtain ⟨g5, E⟩ := gd_of E
  refine Rn.getI (pc' := 9) fl_X11_92_10 g5 rfl dX11_look_6 rfl ?_
  refine Rn.aload_n (pc' := 10) dX11_look_9 rfl 0 rfl rfl ?_
  obtain ⟨v6, h7, e8, E⟩ := bI_of E
  refine Rn.callV1 (pc' := 13) (As := []) (rest := [.int (hI h3 x0 11), .ref x0]) (f_Model_cisterns_ok hst e8) (Nat.le_trans (by decide) hd) rfl kb_X11_52 ki_X11_cisterns rfl g5 rfl rfl (Nat.le_of_ble_eq_true rfl) dX11_look_10 rfl rfl ?_
  refine Rn.icmp_eq (pc' := 16) (tgt := 20) dX11_look_13 (by decide) rfl (fun c9 => ?_) (fun c9 => ?_)
  · replace E := (if_of E).1 c9
    refine Rn.iconst (pc' := 21) (v := (0 : Int32)) (hv := by decide) dX11_look_20 rfl ?_
    exact f_Model_look_b21_ok hst hd   E
  · replace E := (if_of E).2 c9
    refine Rn.iconst (pc' := 17) (v := (1 : Int32)) (hv := by decide) dX11_look_16 rfl ?_
    refine Rn.goto (pc' := 21) dX11_look_17 (by decide) ?_
    exact f_Model_look_b21_ok hst hd   E
def f_Model_look (h : Hp) (x0 : Nat) : Option (Int32 × Hp) := f_Model_look_b0  h x0
theorem f_Model_look_ok {l : Launch} {X : Nat × (Nat → Int32)} (hst : l.stackTraces = false) {h : Hp} {x0 : Nat} {r : Int32 × Hp} (E : f_Model_look h x0 = some r) : MC l X yX11_look mX11_look 3 [.ref x0] h (eI r) r.2 :=
  MC.body (by decide +kernel) rfl (by decide) hst (Nat.le_of_ble_eq_true rfl) (f_Model_look_b0_ok hst (Nat.le_refl _) E)
