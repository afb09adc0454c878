/-! ===== by program out of the bytecode (wip/whole/gen/emit.py) ===== -/
abbrev mX10_land : MI := (RX10, cX10_land, 2, (some Jvm.ClassFile.FieldType.int), [], false)
theorem ws_X10_land : ∀ w ∈ wsM yX10_land mX10_land, w ∈ gw := List.forall_mem_cons.mpr ⟨gw_at 718 (by decide +kernel) (by decide +kernel), fun _ h => h⟩
theorem kb_X10_79 : KB RX10 79 yX4_begin mX4_begin 2 := ⟨gw_at 719 (by decide +kernel) (by decide +kernel), gw_at 110 (by decide +kernel) (by decide +kernel), trivial, ws_X4_begin, by decide +kernel, by decide +kernel, by decide +kernel, by decide⟩
theorem ki_X4_begin : Cond.instanceMethod yX4_begin ∈ gw ∧ Cond.selects yX4_begin.cls yX4_begin yX4_begin ∈ gw := ⟨gw_at 720 (by decide +kernel) (by decide +kernel), gw_at 721 (by decide +kernel) (by decide +kernel)⟩
theorem ku_X10_83_4 : Cond.methodLink RX10 83 (⟨"VintageWater$LandText", "isRead", "()Z"⟩ : MethodName) ∈ gw ∧ Cond.sameMethod "VintageWater$LandText" "VintageWater$Lines" "isRead" "()Z" ∈ gw ∧ Cond.selects "VintageWater$LandText" (⟨"VintageWater$LandText", "isRead", "()Z"⟩ : MethodName) yX7_isRead ∈ gw ∧ Cond.instanceMethod yX7_isRead ∈ gw ∧ Cond.initialized yX7_isRead.cls ∈ gw := ⟨gw_at 723 (by decide +kernel) (by decide +kernel), gw_at 724 (by decide +kernel) (by decide +kernel), gw_at 726 (by decide +kernel) (by decide +kernel), gw_at 727 (by decide +kernel) (by decide +kernel), gw_at 109 (by decide +kernel) (by decide +kernel)⟩
theorem kb_X10_103 : KB RX10 103 yX4_tellTo mX4_tellTo 1 := ⟨gw_at 1000 (by decide +kernel) (by decide +kernel), gw_at 110 (by decide +kernel) (by decide +kernel), trivial, ws_X4_tellTo, by decide +kernel, by decide +kernel, by decide +kernel, by decide⟩
theorem ki_X4_tellTo : Cond.instanceMethod yX4_tellTo ∈ gw ∧ Cond.selects yX4_tellTo.cls yX4_tellTo yX4_tellTo ∈ gw := ⟨gw_at 1001 (by decide +kernel) (by decide +kernel), gw_at 1002 (by decide +kernel) (by decide +kernel)⟩
def f_Water_land_b0   (h : Hp) (x0 : Nat)  : Option ((Int32 ⊕ Nat) × Hp) :=
if hS h x0 = 10 then (
if hS h (hR h x0 4) = 4 then (
if hS h (hR h x0 1) = 5 then (
bV (f_LandText_begin h (hR h x0 1) (hI h (hR h x0 4) 0) (hI h (hR h x0 4) 1)) fun h5 =>
if hS h5 x0 = 10 then (
if hS h5 (hR h5 x0 1) = 5 then (
bI (f_Lines_isRead_4 h5 (hR h5 x0 1)) fun v9 h10 =>
if hS h10 x0 = 10 then (
if hS h10 (hR h10 x0 0) = 9 then (
wr (sI h10 x0 11 (hI h10 (hR h10 x0 0) 5)) fun h14 =>
if hS h14 (hR h14 x0 0) = 9 then (
wr (sI h14 (hR h14 x0 0) 1 (0 : Int32)) fun h17 =>
if v9 = 0 then (
some (.inr 2, hA h17 0 0 6)

) else (
if hS h17 (hR h17 x0 4) = 4 then (
if (hI h17 (hR h17 x0 4) 9) < (10 : Int32) then (
if hS h17 (hR h17 x0 1) = 5 then (
bV (f_LandText_tellTo h17 (hR h17 x0 1) (hR h17 x0 4)) fun h24 =>
if hS h24 x0 = 10 then (
if hS h24 (hR h24 x0 4) = 4 then (
wr (sI h24 (hR h24 x0 4) 9 ((hI h24 (hR h24 x0 4) 9) + (1 : Int32))) fun h28 =>
if hS h28 (hR h28 x0 4) = 4 then (
some (.inl (hI h28 (hR h28 x0 4) 9), h28)
) else none) else none) else none) else none
) else (
some (.inr 3, hA h17 0 0 6)

)
) else none
)
) else none) else none) else none) else none) else none) else none) else none) else none
set_option maxRecDepth 20000 in
set_option maxHeartbeats 4000000 in
theorem f_Water_land_b0_ok {l : Launch} {X : Nat × (Nat → Int32)} (hst : l.stackTraces = false) {d : Nat} (hd : 9 ≤ d)     {h : Hp} {x0 : Nat}  {r : (Int32 ⊕ Nat) × Hp} (E : f_Water_land_b0   h x0 = some r) : Rn l X mX10_land d 0 [(0, .ref x0)] [] h (xI r) r.2 := by
  unfold f_Water_land_b0 at E
  refine Rn.aload_n (pc' := 1) dX10_land_0 rfl 0 rfl rfl ?_
  obtain ⟨g1, E⟩ := gd_of E
  refine Rn.getR (pc' := 4) fl_X10_21_9 g1 rfl dX10_land_1 rfl ?_
  refine Rn.aload_n (pc' := 5) dX10_land_4 rfl 0 rfl rfl ?_
  refine Rn.getR (pc' := 8) fl_X10_42_9 g1 rfl dX10_land_5 rfl ?_
  obtain ⟨g2, E⟩ := gd_of E
  refine Rn.getI (pc' := 11) fl_X10_73_3 g2 rfl dX10_land_8 rfl ?_
  refine Rn.aload_n (pc' := 12) dX10_land_11 rfl 0 rfl rfl ?_
  refine Rn.getR (pc' := 15) fl_X10_42_9 g1 rfl dX10_land_12 rfl ?_
  refine Rn.getI (pc' := 18) fl_X10_76_3 g2 rfl dX10_land_15 rfl ?_
  obtain ⟨g3, E⟩ := gd_of E
  obtain ⟨h5, e6, E⟩ := bV_of E
  refine Rn.callV1 (pc' := 21) (As := [.int (hI h (hR h x0 4) 0), .int (hI h (hR h x0 4) 1)]) (rest := []) (f_LandText_begin_ok hst e6) (Nat.le_trans (by decide) hd) rfl kb_X10_79 ki_X4_begin rfl g3 rfl rfl (Nat.le_of_ble_eq_true rfl) dX10_land_18 rfl rfl ?_
  refine Rn.aload_n (pc' := 22) dX10_land_21 rfl 0 rfl rfl ?_
  obtain ⟨g7, E⟩ := gd_of E
  refine Rn.getR (pc' := 25) fl_X10_21_9 g7 rfl dX10_land_22 rfl ?_
  obtain ⟨g8, E⟩ := gd_of E
  obtain ⟨v9, h10, e11, E⟩ := bI_of E
  refine Rn.callU1 (pc' := 28) (x := ⟨"VintageWater$LandText", "isRead", "()Z"⟩) (As := []) (rest := []) (ci := 4) (C0 := "VintageWater$LandText") (owner := "VintageWater$Lines") (f_Lines_isRead_4_ok hst e11) (Nat.le_trans (by decide) hd) rfl ku_X10_83_4 (by decide) ws_X7_isRead (by decide +kernel) (by decide) rfl g8 rfl rfl (Nat.le_of_ble_eq_true rfl) dX10_land_25 rfl rfl ?_
  refine Rn.istore_n (pc' := 29) (L' := [(1, .int v9), (0, .ref x0)]) dX10_land_28 rfl (by decide) rfl rfl ?_
  refine Rn.aload_n (pc' := 30) dX10_land_29 rfl 1 rfl rfl ?_
  refine Rn.aload_n (pc' := 31) dX10_land_30 rfl 1 rfl rfl ?_
  obtain ⟨g12, E⟩ := gd_of E
  refine Rn.getR (pc' := 34) fl_X10_12_9 g12 rfl dX10_land_31 rfl ?_
  obtain ⟨g13, E⟩ := gd_of E
  refine Rn.getI (pc' := 37) fl_X10_87_8 g13 rfl dX10_land_34 rfl ?_
  refine Rn.putI (pc' := 40) fl_X10_62_9 (fun q hq => by cases hq; decide) g12 rfl rfl rfl dX10_land_37 rfl ?_
  replace E := wr_of E
  generalize eh15 : sI h10 x0 11 (hI h10 (hR h10 x0 0) 5) = h14 at E ⊢
  refine Rn.aload_n (pc' := 41) dX10_land_40 rfl 1 rfl rfl ?_
  refine Rn.getR (pc' := 44) fl_X10_12_9 (kp_sI eh15 g12) rfl dX10_land_41 rfl ?_
  refine Rn.iconst (pc' := 45) (v := (0 : Int32)) (hv := by decide) dX10_land_44 rfl ?_
  obtain ⟨g16, E⟩ := gd_of E
  refine Rn.putI (pc' := 48) fl_X10_66_8 (fun q hq => by cases hq; decide) g16 rfl rfl rfl dX10_land_45 rfl ?_
  replace E := wr_of E
  generalize eh18 : sI h14 (hR h14 x0 0) 1 (0 : Int32) = h17 at E ⊢
  refine Rn.iload_n (pc' := 49) dX10_land_48 rfl 0 rfl rfl ?_
  refine Rn.if_ne (pc' := 52) (tgt := 62) dX10_land_49 (by decide) rfl (fun c19 => ?_) (fun c19 => ?_)
  · replace E := (if_of E).2 c19
    refine Rn.aload_n (pc' := 63) dX10_land_62 rfl 1 rfl rfl ?_
    refine Rn.getR (pc' := 66) fl_X10_42_9 (kp_sI eh18 (kp_sI eh15 g12)) rfl dX10_land_63 rfl ?_
    obtain ⟨g20, E⟩ := gd_of E
    refine Rn.getI (pc' := 69) fl_X10_95_3 g20 rfl dX10_land_66 rfl ?_
    refine Rn.bipush (pc' := 71) (v := (10 : Int32)) (hv := by decide) dX10_land_69 rfl ?_
    refine Rn.icmp_lt (pc' := 74) (tgt := 84) dX10_land_71 (by decide) rfl (fun c21 => ?_) (fun c21 => ?_)
    · replace E := (if_of E).1 c21
      refine Rn.aload_n (pc' := 85) dX10_land_84 rfl 1 rfl rfl ?_
      refine Rn.getR (pc' := 88) fl_X10_21_9 (kp_sI eh18 (kp_sI eh15 g12)) rfl dX10_land_85 rfl ?_
      refine Rn.aload_n (pc' := 89) dX10_land_88 rfl 1 rfl rfl ?_
      refine Rn.getR (pc' := 92) fl_X10_42_9 (kp_sI eh18 (kp_sI eh15 g12)) rfl dX10_land_89 rfl ?_
      obtain ⟨g22, E⟩ := gd_of E
      obtain ⟨h24, e25, E⟩ := bV_of E
      refine Rn.callV1 (pc' := 95) (As := [.ref (hR h17 x0 4)]) (rest := []) (f_LandText_tellTo_ok hst e25) (Nat.le_trans (by decide) hd) rfl kb_X10_103 ki_X4_tellTo rfl g22 rfl rfl (Nat.le_of_ble_eq_true rfl) dX10_land_92 rfl rfl ?_
      refine Rn.aload_n (pc' := 96) dX10_land_95 rfl 1 rfl rfl ?_
      obtain ⟨g26, E⟩ := gd_of E
      refine Rn.getR (pc' := 99) fl_X10_42_9 g26 rfl dX10_land_96 rfl ?_
      refine Rn.dup (pc' := 100) (hc := rfl) dX10_land_99 rfl ?_
      obtain ⟨g27, E⟩ := gd_of E
      refine Rn.getI (pc' := 103) fl_X10_95_3 g27 rfl dX10_land_100 rfl ?_
      refine Rn.iconst (pc' := 104) (v := (1 : Int32)) (hv := by decide) dX10_land_103 rfl ?_
      refine Rn.iadd (pc' := 105) dX10_land_104 rfl ?_
      refine Rn.putI (pc' := 108) fl_X10_95_3 (fun q hq => by cases hq; decide) g27 rfl rfl rfl dX10_land_105 rfl ?_
      replace E := wr_of E
      generalize eh29 : sI h24 (hR h24 x0 4) 9 ((hI h24 (hR h24 x0 4) 9) + (1 : Int32)) = h28 at E ⊢
      refine Rn.aload_n (pc' := 109) dX10_land_108 rfl 1 rfl rfl ?_
      refine Rn.getR (pc' := 112) fl_X10_42_9 (kp_sI eh29 g26) rfl dX10_land_109 rfl ?_
      obtain ⟨g30, E⟩ := gd_of E
      refine Rn.getI (pc' := 115) fl_X10_95_3 g30 rfl dX10_land_112 rfl ?_
      cases E
      exact Rn.zret rfl rfl dX10_land_115
    · replace E := (if_of E).2 c21
      cases E
      exact Rn.throwS (x := 3) (i := 2) kt_X10_98_102 rfl rfl dX10_land_74 dX10_land_77 dX10_land_78 dX10_land_80 dX10_land_83 (Nat.le_of_ble_eq_true rfl)
  · replace E := (if_of E).1 c19
    cases E
    exact Rn.throwS (x := 2) (i := 1) kt_X10_88_92 rfl rfl dX10_land_52 dX10_land_55 dX10_land_56 dX10_land_58 dX10_land_61 (Nat.le_of_ble_eq_true rfl)
def f_Water_land (h : Hp) (x0 : Nat) : Option ((Int32 ⊕ Nat) × Hp) := f_Water_land_b0  h x0
theorem f_Water_land_ok {l : Launch} {X : Nat × (Nat → Int32)} (hst : l.stackTraces = false) {h : Hp} {x0 : Nat} {r : (Int32 ⊕ Nat) × Hp} (E : f_Water_land h x0 = some r) : MC l X yX10_land mX10_land 9 [.ref x0] h (xI r) r.2 :=
  MC.body (by decide +kernel) rfl (by decide) hst (Nat.le_of_ble_eq_true rfl) (f_Water_land_b0_ok hst (Nat.le_refl _) E)
abbrev mL_land : MI := (RL, cL_land, 3, (some Jvm.ClassFile.FieldType.int), [(0, 8, 11, 13), (0, 8, 14, 15)], false)
theorem ws_L_land : ∀ w ∈ wsM yL_land mL_land, w ∈ gw := List.forall_mem_cons.mpr ⟨gw_at 712 (by decide +kernel) (by decide +kernel), fun _ h => h⟩
theorem kb_L_7 : KB RL 7 yX10_land mX10_land 0 := ⟨gw_at 715 (by decide +kernel) (by decide +kernel), gw_at 107 (by decide +kernel) (by decide +kernel), trivial, ws_X10_land, by decide +kernel, by decide +kernel, by decide +kernel, by decide⟩
theorem ki_X10_land : Cond.instanceMethod yX10_land ∈ gw ∧ Cond.selects yX10_land.cls yX10_land yX10_land ∈ gw := ⟨gw_at 716 (by decide +kernel) (by decide +kernel), gw_at 717 (by decide +kernel) (by decide +kernel)⟩
def f_Lw_land_b0   (h : Hp) (x0 : Nat) (x1 : Nat)  : Option (Int32 × Hp) :=
if hS h x0 = 10 then (
bC (f_Water_land h x0) (fun v2 h3 =>
if hS h3 x1 = 22 then (
if ib (0 : Int32) (hL h3 x1) = true then (
wr (sJ h3 x1 (ix (0 : Int32)) (Int32.toInt64 v2)) fun h7 =>
some ((0 : Int32), h7)
) else none) else none
) (fun x_ h3 =>
if x_ = 2 then (
some ((1 : Int32), h3)

) else (
if x_ = 3 then (
some ((2 : Int32), h3)

) else (
none)))
) else none
set_option maxRecDepth 20000 in
set_option maxHeartbeats 4000000 in
theorem f_Lw_land_b0_ok {l : Launch} {X : Nat × (Nat → Int32)} (hst : l.stackTraces = false) {d : Nat} (hd : 10 ≤ d)     {h : Hp} {x0 : Nat} {x1 : Nat}  {r : Int32 × Hp} (E : f_Lw_land_b0   h x0 x1 = some r) : Rn l X mL_land d 0 [(0, .ref x0), (1, .ref x1)] [] h (eI r) r.2 := by
  unfold f_Lw_land_b0 at E
  refine Rn.aload_n (pc' := 1) dL_land_0 rfl 1 rfl rfl ?_
  refine Rn.iconst (pc' := 2) (v := (0 : Int32)) (hv := by decide) dL_land_1 rfl ?_
  refine Rn.aload_n (pc' := 3) dL_land_2 rfl 0 rfl rfl ?_
  obtain ⟨g1, E⟩ := gd_of E
  rcases bC_of E with ⟨v2, h3, e4, E⟩ | ⟨x_, h3, e4, E⟩
  · refine Rn.callV1 (pc' := 6) (As := []) (rest := [.int (0 : Int32), .ref x1]) (f_Water_land_ok hst e4) (Nat.le_trans (by decide) hd) rfl kb_L_7 ki_X10_land rfl g1 rfl rfl (Nat.le_of_ble_eq_true rfl) dL_land_3 rfl rfl ?_
    refine Rn.i2l (pc' := 7) dL_land_6 rfl ?_
    obtain ⟨g5, E⟩ := gd_of E
    obtain ⟨g6, E⟩ := gd_of E
    refine Rn.last (pc' := 8) g5 g6 dL_land_7 rfl ?_
    replace E := wr_of E
    generalize eh8 : sJ h3 x1 (ix (0 : Int32)) (Int32.toInt64 v2) = h7 at E ⊢
    refine Rn.goto (pc' := 17) dL_land_8 (by decide) ?_
    refine Rn.iconst (pc' := 18) (v := (0 : Int32)) (hv := by decide) dL_land_17 rfl ?_
    cases E
    exact Rn.zret rfl rfl dL_land_18
  · refine Rn.callVX (As := []) (rest := [.int (0 : Int32), .ref x1]) (f_Water_land_ok hst e4) (Nat.le_trans (by decide) hd) rfl kb_L_7 ki_X10_land rfl g1 rfl rfl (Nat.le_of_ble_eq_true rfl) dL_land_3 ?_
    by_cases c9 : x_ = 2
    · replace E := (if_of E).1 c9
      subst c9
      refine RnX.catch (x := 2) (i := 2) (pch := 12) 0 rfl (pre0) (by decide) (by decide) kk_L_13 (by decide) (Or.inl ⟨2, rfl, dL_land_11, rfl⟩) (by decide) ?_
      change Rn _ _ _ _ _ [(0, .ref x0), (1, .ref x1)] _ _ _ _
      refine Rn.iconst (pc' := 13) (v := (1 : Int32)) (hv := by decide) dL_land_12 rfl ?_
      cases E
      exact Rn.zret rfl rfl dL_land_13
    replace E := (if_of E).2 c9
    by_cases c10 : x_ = 3
    · replace E := (if_of E).1 c10
      subst c10
      refine RnX.catch (x := 3) (i := 2) (pch := 15) 1 rfl (pre1 (Or.inr ⟨by decide, _, kk_L_13, by decide⟩)) (by decide) (by decide) kk_L_15 (by decide) (Or.inl ⟨2, rfl, dL_land_14, rfl⟩) (by decide) ?_
      change Rn _ _ _ _ _ [(0, .ref x0), (1, .ref x1)] _ _ _ _
      refine Rn.iconst (pc' := 16) (v := (2 : Int32)) (hv := by decide) dL_land_15 rfl ?_
      cases E
      exact Rn.zret rfl rfl dL_land_16
    replace E := (if_of E).2 c10
    cases E
def f_Lw_land (h : Hp) (x0 : Nat) (x1 : Nat) : Option (Int32 × Hp) := f_Lw_land_b0  h x0 x1
theorem f_Lw_land_ok {l : Launch} {X : Nat × (Nat → Int32)} (hst : l.stackTraces = false) {h : Hp} {x0 : Nat} {x1 : Nat} {r : Int32 × Hp} (E : f_Lw_land h x0 x1 = some r) : MC l X yL_land mL_land 10 [.ref x0, .ref x1] h (eI r) r.2 :=
  MC.body (by decide +kernel) rfl (by decide) hst (Nat.le_of_ble_eq_true rfl) (f_Lw_land_b0_ok hst (Nat.le_refl _) E)
abbrev mX11_land : MI := (RX11, cX11_land, 3, (some Jvm.ClassFile.FieldType.int), [], false)
theorem ws_X11_land : ∀ w ∈ wsM yX11_land mX11_land, w ∈ gw := List.forall_mem_cons.mpr ⟨gw_at 1510 (by decide +kernel) (by decide +kernel), fun _ h => h⟩
def f_Model_land_b92  (k92 : Hp → Nat → Int32 → Option (Int32 × Hp)) (h : Hp) (x0 : Nat) (x2 : Int32)  : Option (Int32 × Hp) :=
if (1454 : Int32) ≤ x2 then (
some ((0 : Int32), h)

) else (
if hS h x0 = 11 then (
if hS h (hR h x0 3) = 20 then (
if ib x2 (hL h (hR h x0 3)) = true then (
if hS h (hR h x0 1) = 20 then (
if ib x2 (hL h (hR h x0 1)) = true then (
wr (sI h (hR h x0 1) (ix x2) (hI h (hR h x0 3) (ix x2))) fun h7 =>
k92 h7 x0 (x2 + (1 : Int32))
) else none) else none) else none) else none) else none
)

set_option maxRecDepth 20000 in
set_option maxHeartbeats 4000000 in
theorem f_Model_land_b92_ok {l : Launch} {X : Nat × (Nat → Int32)} (hst : l.stackTraces = false) {d : Nat} (hd : 51 ≤ d)   {k92 : Hp → Nat → Int32 → Option (Int32 × Hp)} (hk92 : ∀ (h : Hp) (x0 : Nat) (x2 : Int32)  (r : Int32 × Hp), k92 h x0 x2 = some r → Rn l X mX11_land d 92 [(0, .ref x0), (2, .int x2)] [] h (eI r) r.2) {h : Hp} {x0 : Nat} {x2 : Int32}  {r : Int32 × Hp} (E : f_Model_land_b92  k92 h x0 x2 = some r) : Rn l X mX11_land d 92 [(0, .ref x0), (2, .int x2)] [] h (eI r) r.2 := by
  unfold f_Model_land_b92 at E
  refine Rn.iload_n (pc' := 93) dX11_land_92 rfl 1 rfl rfl ?_
  refine Rn.sipush (pc' := 96) (v := (1454 : Int32)) (hv := by decide) dX11_land_93 rfl ?_
  refine Rn.icmp_ge (pc' := 99) (tgt := 117) dX11_land_96 (by decide) rfl (fun c1 => ?_) (fun c1 => ?_)
  · replace E := (if_of E).1 c1
    refine Rn.iconst (pc' := 118) (v := (0 : Int32)) (hv := by decide) dX11_land_117 rfl ?_
    cases E
    exact Rn.zret rfl rfl dX11_land_118
  · replace E := (if_of E).2 c1
    refine Rn.aload_n (pc' := 100) dX11_land_99 rfl 0 rfl rfl ?_
    obtain ⟨g2, E⟩ := gd_of E
    refine Rn.getR (pc' := 103) fl_X11_13_10 g2 rfl dX11_land_100 rfl ?_
    refine Rn.iload_n (pc' := 104) dX11_land_103 rfl 1 rfl rfl ?_
    refine Rn.aload_n (pc' := 105) dX11_land_104 rfl 0 rfl rfl ?_
    refine Rn.getR (pc' := 108) fl_X11_20_10 g2 rfl dX11_land_105 rfl ?_
    refine Rn.iload_n (pc' := 109) dX11_land_108 rfl 1 rfl rfl ?_
    obtain ⟨g3, E⟩ := gd_of E
    obtain ⟨g4, E⟩ := gd_of E
    refine Rn.iald (pc' := 110) g3 g4 dX11_land_109 rfl ?_
    obtain ⟨g5, E⟩ := gd_of E
    obtain ⟨g6, E⟩ := gd_of E
    refine Rn.iast (pc' := 111) g5 g6 dX11_land_110 rfl ?_
    replace E := wr_of E
    generalize eh8 : sI h (hR h x0 1) (ix x2) (hI h (hR h x0 3) (ix x2)) = h7 at E ⊢
    refine Rn.iinc (pc' := 114) (v := (x2 + (1 : Int32))) (L' := [(2, .int (x2 + (1 : Int32))), (0, .ref x0)]) dX11_land_111 1 rfl rfl (by decide) rfl rfl ?_
    refine Rn.goto (pc' := 92) dX11_land_114 (by decide) ?_
    refine Rn.sub [1, 0] rfl ?_
    exact hk92 _ _ _ _ E
def f_Model_land_L92   (n : Nat) : Hp → Nat → Int32 → Option (Int32 × Hp) := Nat.rec (motive := fun _ => Hp → Nat → Int32 → Option (Int32 × Hp)) (fun _ _ _ => none) (fun _ rec => f_Model_land_b92   rec) n
theorem f_Model_land_L92_ok {l : Launch} {X : Nat × (Nat → Int32)} (hst : l.stackTraces = false) {d : Nat} (hd : 51 ≤ d)     : ∀ (n : Nat) (h : Hp) (x0 : Nat) (x2 : Int32)  (r : Int32 × Hp), f_Model_land_L92   n h x0 x2 = some r → Rn l X mX11_land d 92 [(0, .ref x0), (2, .int x2)] [] h (eI r) r.2 := by
  intro n
  induction n with
  | zero => intro h x0 x2 r E; cases E
  | succ n ih => intro h x0 x2 r E; exact f_Model_land_b92_ok hst hd   ih E
def f_Model_land_b90   (h : Hp) (x0 : Nat)  : Option (Int32 × Hp) :=
f_Model_land_L92   FU h x0 (0 : Int32)

set_option maxRecDepth 20000 in
set_option maxHeartbeats 4000000 in
theorem f_Model_land_b90_ok {l : Launch} {X : Nat × (Nat → Int32)} (hst : l.stackTraces = false) {d : Nat} (hd : 51 ≤ d)     {h : Hp} {x0 : Nat}  {r : Int32 × Hp} (E : f_Model_land_b90   h x0 = some r) : Rn l X mX11_land d 90 [(0, .ref x0)] [] h (eI r) r.2 := by
  unfold f_Model_land_b90 at E
  refine Rn.iconst (pc' := 91) (v := (0 : Int32)) (hv := by decide) dX11_land_90 rfl ?_
  refine Rn.istore_n (pc' := 92) (L' := [(2, .int (0 : Int32)), (0, .ref x0)]) dX11_land_91 rfl (by decide) rfl rfl ?_
  refine Rn.sub [1, 0] rfl ?_
  exact f_Model_land_L92_ok hst hd   FU _ _ _ _ E
def f_Model_land_b83   (h : Hp) (x0 : Nat) (s0 : Nat) (s1 : Int32) : Option (Int32 × Hp) :=
if hS h s0 = 11 then (
bI (f_Model_throwsIf h s0 s1 (2 : Int32)) fun v2 h3 =>
if v2 = 0 then (
if hS h3 x0 = 11 then (
if hS h3 (hR h3 x0 1) = 20 then (
if ib (2 : Int32) (hL h3 (hR h3 x0 1)) = true then (
if ib (2 : Int32) (hL h3 (hR h3 x0 1)) = true then (
wr (sI h3 (hR h3 x0 1) (ix (2 : Int32)) ((hI h3 (hR h3 x0 1) (ix (2 : Int32))) + (1 : Int32))) fun h10 =>
if hS h10 (hR h10 x0 1) = 20 then (
if ib (2 : Int32) (hL h10 (hR h10 x0 1)) = true then (
some ((hI h10 (hR h10 x0 1) (ix (2 : Int32))), h10)
) else none) else none) else none) else none) else none) else none
) else (
f_Model_land_b90   h3 x0

)
) else none
set_option maxRecDepth 20000 in
set_option maxHeartbeats 4000000 in
theorem f_Model_land_b83_ok {l : Launch} {X : Nat × (Nat → Int32)} (hst : l.stackTraces = false) {d : Nat} (hd : 51 ≤ d)     {h : Hp} {x0 : Nat} {s0 : Nat} {s1 : Int32} {r : Int32 × Hp} (E : f_Model_land_b83   h x0 s0 s1 = some r) : Rn l X mX11_land d 83 [(0, .ref x0)] [.int s1, .ref s0] h (eI r) r.2 := by
  unfold f_Model_land_b83 at E
  refine Rn.iconst (pc' := 84) (v := (2 : Int32)) (hv := by decide) dX11_land_83 rfl ?_
  obtain ⟨g1, E⟩ := gd_of E
  obtain ⟨v2, h3, e4, E⟩ := bI_of E
  refine Rn.callV1 (pc' := 87) (As := [.int s1, .int (2 : Int32)]) (rest := []) (f_Model_throwsIf_ok hst e4) (Nat.le_trans (by decide) hd) rfl kb_X11_265 ki_X11_throwsIf rfl g1 rfl rfl (Nat.le_of_ble_eq_true rfl) dX11_land_84 rfl rfl ?_
  refine Rn.if_eq (pc' := 90) (tgt := 119) dX11_land_87 (by decide) rfl (fun c5 => ?_) (fun c5 => ?_)
  · replace E := (if_of E).1 c5
    refine Rn.aload_n (pc' := 120) dX11_land_119 rfl 0 rfl rfl ?_
    obtain ⟨g6, E⟩ := gd_of E
    refine Rn.getR (pc' := 123) fl_X11_13_10 g6 rfl dX11_land_120 rfl ?_
    refine Rn.iconst (pc' := 124) (v := (2 : Int32)) (hv := by decide) dX11_land_123 rfl ?_
    refine Rn.dup2 (pc' := 125) (hc := rfl) (hd := rfl) dX11_land_124 rfl ?_
    obtain ⟨g7, E⟩ := gd_of E
    obtain ⟨g8, E⟩ := gd_of E
    refine Rn.iald (pc' := 126) g7 g8 dX11_land_125 rfl ?_
    refine Rn.iconst (pc' := 127) (v := (1 : Int32)) (hv := by decide) dX11_land_126 rfl ?_
    refine Rn.iadd (pc' := 128) dX11_land_127 rfl ?_
    obtain ⟨g9, E⟩ := gd_of E
    refine Rn.iast (pc' := 129) g7 g9 dX11_land_128 rfl ?_
    replace E := wr_of E
    generalize eh11 : sI h3 (hR h3 x0 1) (ix (2 : Int32)) ((hI h3 (hR h3 x0 1) (ix (2 : Int32))) + (1 : Int32)) = h10 at E ⊢
    refine Rn.aload_n (pc' := 130) dX11_land_129 rfl 0 rfl rfl ?_
    refine Rn.getR (pc' := 133) fl_X11_13_10 (kp_sI eh11 g6) rfl dX11_land_130 rfl ?_
    refine Rn.iconst (pc' := 134) (v := (2 : Int32)) (hv := by decide) dX11_land_133 rfl ?_
    obtain ⟨g12, E⟩ := gd_of E
    obtain ⟨g13, E⟩ := gd_of E
    refine Rn.iald (pc' := 135) g12 g13 dX11_land_134 rfl ?_
    cases E
    exact Rn.zret rfl rfl dX11_land_135
  · replace E := (if_of E).2 c5
    exact f_Model_land_b90_ok hst hd   E
def f_Model_land_b59   (h : Hp) (x0 : Nat) (s0 : Nat) (s1 : Int32) : Option (Int32 × Hp) :=
if hS h s0 = 11 then (
bI (f_Model_throwsIf h s0 s1 (1 : Int32)) fun v2 h3 =>
if v2 = 0 then (
if hS h3 x0 = 11 then (
if hS h3 (hR h3 x0 1) = 20 then (
if ib (2 : Int32) (hL h3 (hR h3 x0 1)) = true then (
if (hI h3 (hR h3 x0 1) (ix (2 : Int32))) = (10 : Int32) then (
f_Model_land_b83   h3 x0 x0 (1 : Int32)

) else (
f_Model_land_b83   h3 x0 x0 (0 : Int32)

)
) else none) else none) else none
) else (
f_Model_land_b90   h3 x0

)
) else none
set_option maxRecDepth 20000 in
set_option maxHeartbeats 4000000 in
theorem f_Model_land_b59_ok {l : Launch} {X : Nat × (Nat → Int32)} (hst : l.stackTraces = false) {d : Nat} (hd : 51 ≤ d)     {h : Hp} {x0 : Nat} {s0 : Nat} {s1 : Int32} {r : Int32 × Hp} (E : f_Model_land_b59   h x0 s0 s1 = some r) : Rn l X mX11_land d 59 [(0, .ref x0)] [.int s1, .ref s0] h (eI r) r.2 := by
  unfold f_Model_land_b59 at E
  refine Rn.iconst (pc' := 60) (v := (1 : Int32)) (hv := by decide) dX11_land_59 rfl ?_
  obtain ⟨g1, E⟩ := gd_of E
  obtain ⟨v2, h3, e4, E⟩ := bI_of E
  refine Rn.callV1 (pc' := 63) (As := [.int s1, .int (1 : Int32)]) (rest := []) (f_Model_throwsIf_ok hst e4) (Nat.le_trans (by decide) hd) rfl kb_X11_265 ki_X11_throwsIf rfl g1 rfl rfl (Nat.le_of_ble_eq_true rfl) dX11_land_60 rfl rfl ?_
  refine Rn.if_ne (pc' := 66) (tgt := 90) dX11_land_63 (by decide) rfl (fun c5 => ?_) (fun c5 => ?_)
  · replace E := (if_of E).2 c5
    exact f_Model_land_b90_ok hst hd   E
  · replace E := (if_of E).1 c5
    refine Rn.aload_n (pc' := 67) dX11_land_66 rfl 0 rfl rfl ?_
    refine Rn.aload_n (pc' := 68) dX11_land_67 rfl 0 rfl rfl ?_
    obtain ⟨g6, E⟩ := gd_of E
    refine Rn.getR (pc' := 71) fl_X11_13_10 g6 rfl dX11_land_68 rfl ?_
    refine Rn.iconst (pc' := 72) (v := (2 : Int32)) (hv := by decide) dX11_land_71 rfl ?_
    obtain ⟨g7, E⟩ := gd_of E
    obtain ⟨g8, E⟩ := gd_of E
    refine Rn.iald (pc' := 73) g7 g8 dX11_land_72 rfl ?_
    refine Rn.bipush (pc' := 75) (v := (10 : Int32)) (hv := by decide) dX11_land_73 rfl ?_
    refine Rn.icmp_ne (pc' := 78) (tgt := 82) dX11_land_75 (by decide) rfl (fun c9 => ?_) (fun c9 => ?_)
    · replace E := (if_of E).2 c9
      refine Rn.iconst (pc' := 83) (v := (0 : Int32)) (hv := by decide) dX11_land_82 rfl ?_
      exact f_Model_land_b83_ok hst hd   E
    · replace E := (if_of E).1 c9
      refine Rn.iconst (pc' := 79) (v := (1 : Int32)) (hv := by decide) dX11_land_78 rfl ?_
      refine Rn.goto (pc' := 83) dX11_land_79 (by decide) ?_
      exact f_Model_land_b83_ok hst hd   E
def f_Model_land_b46   (h : Hp) (x0 : Nat) (x1 : Int32) (s0 : Nat) (s1 : Int32) : Option (Int32 × Hp) :=
if hS h s0 = 11 then (
wr (sI h s0 14 s1) fun h2 =>
if 0 ≤ x1 then (
f_Model_land_b59   h2 x0 x0 (0 : Int32)

) else (
f_Model_land_b59   h2 x0 x0 (1 : Int32)

)
) else none
set_option maxRecDepth 20000 in
set_option maxHeartbeats 4000000 in
theorem f_Model_land_b46_ok {l : Launch} {X : Nat × (Nat → Int32)} (hst : l.stackTraces = false) {d : Nat} (hd : 51 ≤ d)     {h : Hp} {x0 : Nat} {x1 : Int32} {s0 : Nat} {s1 : Int32} {r : Int32 × Hp} (E : f_Model_land_b46   h x0 x1 s0 s1 = some r) : Rn l X mX11_land d 46 [(0, .ref x0), (1, .int x1)] [.int s1, .ref s0] h (eI r) r.2 := by
  unfold f_Model_land_b46 at E
  obtain ⟨g1, E⟩ := gd_of E
  refine Rn.putI (pc' := 49) fl_X11_33_10 (fun q hq => by cases hq; decide) g1 rfl rfl rfl dX11_land_46 rfl ?_
  replace E := wr_of E
  generalize eh3 : sI h s0 14 s1 = h2 at E ⊢
  refine Rn.aload_n (pc' := 50) dX11_land_49 rfl 0 rfl rfl ?_
  refine Rn.iload_n (pc' := 51) dX11_land_50 rfl 1 rfl rfl ?_
  refine Rn.if_ge (pc' := 54) (tgt := 58) dX11_land_51 (by decide) rfl (fun c4 => ?_) (fun c4 => ?_)
  · replace E := (if_of E).1 c4
    refine Rn.iconst (pc' := 59) (v := (0 : Int32)) (hv := by decide) dX11_land_58 rfl ?_
    refine Rn.sub [0] rfl ?_
    exact f_Model_land_b59_ok hst hd   E
  · replace E := (if_of E).2 c4
    refine Rn.iconst (pc' := 55) (v := (1 : Int32)) (hv := by decide) dX11_land_54 rfl ?_
    refine Rn.goto (pc' := 59) dX11_land_55 (by decide) ?_
    refine Rn.sub [0] rfl ?_
    exact f_Model_land_b59_ok hst hd   E
def f_Model_land_b2  (k2 : Hp → Nat → Int32 → Option (Int32 × Hp)) (h : Hp) (x0 : Nat) (x1 : Int32)  : Option (Int32 × Hp) :=
if (1454 : Int32) ≤ x1 then (
if hS h x0 = 11 then (
bI (f_Model_readAll h x0 (1 : Int32)) fun v3 h4 =>
if 0 ≤ v3 then (
f_Model_land_b46   h4 x0 v3 x0 (-1 : Int32)

) else (
if hS h4 x0 = 11 then (
f_Model_land_b46   h4 x0 v3 x0 (hI h4 x0 12)
) else none
)
) else none
) else (
if hS h x0 = 11 then (
if hS h (hR h x0 1) = 20 then (
if ib x1 (hL h (hR h x0 1)) = true then (
if hS h (hR h x0 3) = 20 then (
if ib x1 (hL h (hR h x0 3)) = true then (
wr (sI h (hR h x0 3) (ix x1) (hI h (hR h x0 1) (ix x1))) fun h13 =>
k2 h13 x0 (x1 + (1 : Int32))
) else none) else none) else none) else none) else none
)

set_option maxRecDepth 20000 in
set_option maxHeartbeats 4000000 in
theorem f_Model_land_b2_ok {l : Launch} {X : Nat × (Nat → Int32)} (hst : l.stackTraces = false) {d : Nat} (hd : 51 ≤ d)   {k2 : Hp → Nat → Int32 → Option (Int32 × Hp)} (hk2 : ∀ (h : Hp) (x0 : Nat) (x1 : Int32)  (r : Int32 × Hp), k2 h x0 x1 = some r → Rn l X mX11_land d 2 [(0, .ref x0), (1, .int x1)] [] h (eI r) r.2) {h : Hp} {x0 : Nat} {x1 : Int32}  {r : Int32 × Hp} (E : f_Model_land_b2  k2 h x0 x1 = some r) : Rn l X mX11_land d 2 [(0, .ref x0), (1, .int x1)] [] h (eI r) r.2 := by
  unfold f_Model_land_b2 at E
  refine Rn.iload_n (pc' := 3) dX11_land_2 rfl 1 rfl rfl ?_
  refine Rn.sipush (pc' := 6) (v := (1454 : Int32)) (hv := by decide) dX11_land_3 rfl ?_
  refine Rn.icmp_ge (pc' := 9) (tgt := 27) dX11_land_6 (by decide) rfl (fun c1 => ?_) (fun c1 => ?_)
  · replace E := (if_of E).1 c1
    refine Rn.aload_n (pc' := 28) dX11_land_27 rfl 0 rfl rfl ?_
    refine Rn.iconst (pc' := 29) (v := (1 : Int32)) (hv := by decide) dX11_land_28 rfl ?_
    obtain ⟨g2, E⟩ := gd_of E
    obtain ⟨v3, h4, e5, E⟩ := bI_of E
    refine Rn.callV1 (pc' := 32) (As := [.int (1 : Int32)]) (rest := []) (f_Model_readAll_ok hst e5) (Nat.le_trans (by decide) hd) rfl kb_X11_261 ki_X11_readAll rfl g2 rfl rfl (Nat.le_of_ble_eq_true rfl) dX11_land_29 rfl rfl ?_
    refine Rn.istore_n (pc' := 33) (L' := [(1, .int v3), (0, .ref x0)]) dX11_land_32 rfl (by decide) rfl rfl ?_
    refine Rn.aload_n (pc' := 34) dX11_land_33 rfl 1 rfl rfl ?_
    refine Rn.iload_n (pc' := 35) dX11_land_34 rfl 0 rfl rfl ?_
    refine Rn.if_ge (pc' := 38) (tgt := 45) dX11_land_35 (by decide) rfl (fun c6 => ?_) (fun c6 => ?_)
    · replace E := (if_of E).1 c6
      refine Rn.iconst (pc' := 46) (v := (-1 : Int32)) (hv := by decide) dX11_land_45 rfl ?_
      refine Rn.sub [1, 0] rfl ?_
      exact f_Model_land_b46_ok hst hd   E
    · replace E := (if_of E).2 c6
      refine Rn.aload_n (pc' := 39) dX11_land_38 rfl 1 rfl rfl ?_
      obtain ⟨g7, E⟩ := gd_of E
      refine Rn.getI (pc' := 42) fl_X11_99_10 g7 rfl dX11_land_39 rfl ?_
      refine Rn.goto (pc' := 46) dX11_land_42 (by decide) ?_
      refine Rn.sub [1, 0] rfl ?_
      exact f_Model_land_b46_ok hst hd   E
  · replace E := (if_of E).2 c1
    refine Rn.aload_n (pc' := 10) dX11_land_9 rfl 0 rfl rfl ?_
    obtain ⟨g8, E⟩ := gd_of E
    refine Rn.getR (pc' := 13) fl_X11_20_10 g8 rfl dX11_land_10 rfl ?_
    refine Rn.iload_n (pc' := 14) dX11_land_13 rfl 1 rfl rfl ?_
    refine Rn.aload_n (pc' := 15) dX11_land_14 rfl 0 rfl rfl ?_
    refine Rn.getR (pc' := 18) fl_X11_13_10 g8 rfl dX11_land_15 rfl ?_
    refine Rn.iload_n (pc' := 19) dX11_land_18 rfl 1 rfl rfl ?_
    obtain ⟨g9, E⟩ := gd_of E
    obtain ⟨g10, E⟩ := gd_of E
    refine Rn.iald (pc' := 20) g9 g10 dX11_land_19 rfl ?_
    obtain ⟨g11, E⟩ := gd_of E
    obtain ⟨g12, E⟩ := gd_of E
    refine Rn.iast (pc' := 21) g11 g12 dX11_land_20 rfl ?_
    replace E := wr_of E
    generalize eh14 : sI h (hR h x0 3) (ix x1) (hI h (hR h x0 1) (ix x1)) = h13 at E ⊢
    refine Rn.iinc (pc' := 24) (v := (x1 + (1 : Int32))) (L' := [(1, .int (x1 + (1 : Int32))), (0, .ref x0)]) dX11_land_21 1 rfl rfl (by decide) rfl rfl ?_
    refine Rn.goto (pc' := 2) dX11_land_24 (by decide) ?_
    refine Rn.sub [1, 0] rfl ?_
    exact hk2 _ _ _ _ E
def f_Model_land_L2   (n : Nat) : Hp → Nat → Int32 → Option (Int32 × Hp) := Nat.rec (motive := fun _ => Hp → Nat → Int32 → Option (Int32 × Hp)) (fun _ _ _ => none) (fun _ rec => f_Model_land_b2   rec) n
theorem f_Model_land_L2_ok {l : Launch} {X : Nat × (Nat → Int32)} (hst : l.stackTraces = false) {d : Nat} (hd : 51 ≤ d)     : ∀ (n : Nat) (h : Hp) (x0 : Nat) (x1 : Int32)  (r : Int32 × Hp), f_Model_land_L2   n h x0 x1 = some r → Rn l X mX11_land d 2 [(0, .ref x0), (1, .int x1)] [] h (eI r) r.2 := by
  intro n
  induction n with
  | zero => intro h x0 x1 r E; cases E
  | succ n ih => intro h x0 x1 r E; exact f_Model_land_b2_ok hst hd   ih E
def f_Model_land_b0   (h : Hp) (x0 : Nat)  : Option (Int32 × Hp) :=
f_Model_land_L2   FU h x0 (0 : Int32)

set_option maxRecDepth 20000 in
set_option maxHeartbeats 4000000 in
theorem f_Model_land_b0_ok {l : Launch} {X : Nat × (Nat → Int32)} (hst : l.stackTraces = false) {d : Nat} (hd : 51 ≤ d)     {h : Hp} {x0 : Nat}  {r : Int32 × Hp} (E : f_Model_land_b0   h x0 = some r) : Rn l X mX11_land d 0 [(0, .ref x0)] [] h (eI r) r.2 := by
  unfold f_Model_land_b0 at E
  refine Rn.iconst (pc' := 1) (v := (0 : Int32)) (hv := by decide) dX11_land_0 rfl ?_
  refine Rn.istore_n (pc' := 2) (L' := [(1, .int (0 : Int32)), (0, .ref x0)]) dX11_land_1 rfl (by decide) rfl rfl ?_
  refine Rn.sub [1, 0] rfl ?_
  exact f_Model_land_L2_ok hst hd   FU _ _ _ _ E
def f_Model_land (h : Hp) (x0 : Nat) : Option (Int32 × Hp) := f_Model_land_b0  h x0
theorem f_Model_land_ok {l : Launch} {X : Nat × (Nat → Int32)} (hst : l.stackTraces = false) {h : Hp} {x0 : Nat} {r : Int32 × Hp} (E : f_Model_land h x0 = some r) : MC l X yX11_land mX11_land 51 [.ref x0] h (eI r) r.2 :=
  MC.body (by decide +kernel) rfl (by decide) hst (Nat.le_of_ble_eq_true rfl) (f_Model_land_b0_ok hst (Nat.le_refl _) E)
abbrev mX10_end : MI := (RX10, cX10_end, 2, (some Jvm.ClassFile.FieldType.boolean), [], false)
theorem ws_X10_end : ∀ w ∈ wsM yX10_end mX10_end, w ∈ gw := List.forall_mem_cons.mpr ⟨gw_at 483 (by decide +kernel) (by decide +kernel), fun _ h => h⟩
def f_Water_end_b0   (h : Hp) (x0 : Nat) (x1 : Int32)  : Option (Int32 × Hp) :=
if x1 < 0 then (
some ((0 : Int32), h)

) else (
if hS h x0 = 10 then (
if hS h (hR h x0 0) = 9 then (
if x1 ≤ (hI h (hR h x0 0) 1) then (
wr (sI h (hR h x0 0) 1 x1) fun h5 =>
some ((1 : Int32), h5)

) else (
some ((0 : Int32), h)

)
) else none) else none
)

set_option maxRecDepth 20000 in
set_option maxHeartbeats 4000000 in
theorem f_Water_end_b0_ok {l : Launch} {X : Nat × (Nat → Int32)} (hst : l.stackTraces = false) {d : Nat} (hd : 0 ≤ d)     {h : Hp} {x0 : Nat} {x1 : Int32}  {r : Int32 × Hp} (E : f_Water_end_b0   h x0 x1 = some r) : Rn l X mX10_end d 0 [(0, .ref x0), (1, .int x1)] [] h (eI r) r.2 := by
  unfold f_Water_end_b0 at E
  refine Rn.iload_n (pc' := 1) dX10_end_0 rfl 1 rfl rfl ?_
  refine Rn.if_lt (pc' := 4) (tgt := 15) dX10_end_1 (by decide) rfl (fun c1 => ?_) (fun c1 => ?_)
  · replace E := (if_of E).1 c1
    refine Rn.iconst (pc' := 16) (v := (0 : Int32)) (hv := by decide) dX10_end_15 rfl ?_
    cases E
    exact Rn.zret rfl rfl dX10_end_16
  · replace E := (if_of E).2 c1
    refine Rn.iload_n (pc' := 5) dX10_end_4 rfl 1 rfl rfl ?_
    refine Rn.aload_n (pc' := 6) dX10_end_5 rfl 0 rfl rfl ?_
    obtain ⟨g2, E⟩ := gd_of E
    refine Rn.getR (pc' := 9) fl_X10_12_9 g2 rfl dX10_end_6 rfl ?_
    obtain ⟨g3, E⟩ := gd_of E
    refine Rn.getI (pc' := 12) fl_X10_66_8 g3 rfl dX10_end_9 rfl ?_
    refine Rn.icmp_le (pc' := 15) (tgt := 17) dX10_end_12 (by decide) rfl (fun c4 => ?_) (fun c4 => ?_)
    · replace E := (if_of E).1 c4
      refine Rn.aload_n (pc' := 18) dX10_end_17 rfl 0 rfl rfl ?_
      refine Rn.getR (pc' := 21) fl_X10_12_9 g2 rfl dX10_end_18 rfl ?_
      refine Rn.iload_n (pc' := 22) dX10_end_21 rfl 1 rfl rfl ?_
      refine Rn.putI (pc' := 25) fl_X10_66_8 (fun q hq => by cases hq; decide) g3 rfl rfl rfl dX10_end_22 rfl ?_
      replace E := wr_of E
      generalize eh6 : sI h (hR h x0 0) 1 x1 = h5 at E ⊢
      refine Rn.iconst (pc' := 26) (v := (1 : Int32)) (hv := by decide) dX10_end_25 rfl ?_
      cases E
      exact Rn.zret rfl rfl dX10_end_26
    · replace E := (if_of E).2 c4
      refine Rn.iconst (pc' := 16) (v := (0 : Int32)) (hv := by decide) dX10_end_15 rfl ?_
      cases E
      exact Rn.zret rfl rfl dX10_end_16
def f_Water_end (h : Hp) (x0 : Nat) (x1 : Int32) : Option (Int32 × Hp) := f_Water_end_b0  h x0 x1
theorem f_Water_end_ok {l : Launch} {X : Nat × (Nat → Int32)} (hst : l.stackTraces = false) {h : Hp} {x0 : Nat} {x1 : Int32} {r : Int32 × Hp} (E : f_Water_end h x0 x1 = some r) : MC l X yX10_end mX10_end 0 [.ref x0, .int x1] h (eI r) r.2 :=
  MC.body (by decide +kernel) rfl (by decide) hst (Nat.le_of_ble_eq_true rfl) (f_Water_end_b0_ok hst (Nat.le_refl _) E)
abbrev mX11_end : MI := (RX11, cX11_end, 2, (some Jvm.ClassFile.FieldType.boolean), [], false)
theorem ws_X11_end : ∀ w ∈ wsM yX11_end mX11_end, w ∈ gw := List.forall_mem_cons.mpr ⟨gw_at 1502 (by decide +kernel) (by decide +kernel), fun _ h => h⟩
def f_Model_end_b0   (h : Hp) (x0 : Nat) (x1 : Int32)  : Option (Int32 × Hp) :=
if hS h x0 = 11 then (
wr (sI h x0 0 (0 : Int32)) fun h2 =>
if x1 < 0 then (
some ((0 : Int32), h2)

) else (
if x1 ≤ (hI h2 x0 9) then (
wr (sI h2 x0 9 x1) fun h6 =>
some ((1 : Int32), h6)

) else (
some ((0 : Int32), h2)

)

)
) else none
set_option maxRecDepth 20000 in
set_option maxHeartbeats 4000000 in
theorem f_Model_end_b0_ok {l : Launch} {X : Nat × (Nat → Int32)} (hst : l.stackTraces = false) {d : Nat} (hd : 0 ≤ d)     {h : Hp} {x0 : Nat} {x1 : Int32}  {r : Int32 × Hp} (E : f_Model_end_b0   h x0 x1 = some r) : Rn l X mX11_end d 0 [(0, .ref x0), (1, .int x1)] [] h (eI r) r.2 := by
  unfold f_Model_end_b0 at E
  refine Rn.aload_n (pc' := 1) dX11_end_0 rfl 0 rfl rfl ?_
  refine Rn.iconst (pc' := 2) (v := (0 : Int32)) (hv := by decide) dX11_end_1 rfl ?_
  obtain ⟨g1, E⟩ := gd_of E
  refine Rn.putI (pc' := 5) fl_X11_3_10 (fun q hq => by cases hq; decide) g1 rfl rfl rfl dX11_end_2 rfl ?_
  replace E := wr_of E
  generalize eh3 : sI h x0 0 (0 : Int32) = h2 at E ⊢
  refine Rn.iload_n (pc' := 6) dX11_end_5 rfl 1 rfl rfl ?_
  refine Rn.if_lt (pc' := 9) (tgt := 17) dX11_end_6 (by decide) rfl (fun c4 => ?_) (fun c4 => ?_)
  · replace E := (if_of E).1 c4
    refine Rn.iconst (pc' := 18) (v := (0 : Int32)) (hv := by decide) dX11_end_17 rfl ?_
    cases E
    exact Rn.zret rfl rfl dX11_end_18
  · replace E := (if_of E).2 c4
    refine Rn.iload_n (pc' := 10) dX11_end_9 rfl 1 rfl rfl ?_
    refine Rn.aload_n (pc' := 11) dX11_end_10 rfl 0 rfl rfl ?_
    refine Rn.getI (pc' := 14) fl_X11_86_10 (kp_sI eh3 g1) rfl dX11_end_11 rfl ?_
    refine Rn.icmp_le (pc' := 17) (tgt := 19) dX11_end_14 (by decide) rfl (fun c5 => ?_) (fun c5 => ?_)
    · replace E := (if_of E).1 c5
      refine Rn.aload_n (pc' := 20) dX11_end_19 rfl 0 rfl rfl ?_
      refine Rn.iload_n (pc' := 21) dX11_end_20 rfl 1 rfl rfl ?_
      refine Rn.putI (pc' := 24) fl_X11_86_10 (fun q hq => by cases hq; decide) (kp_sI eh3 g1) rfl rfl rfl dX11_end_21 rfl ?_
      replace E := wr_of E
      generalize eh7 : sI h2 x0 9 x1 = h6 at E ⊢
      refine Rn.iconst (pc' := 25) (v := (1 : Int32)) (hv := by decide) dX11_end_24 rfl ?_
      cases E
      exact Rn.zret rfl rfl dX11_end_25
    · replace E := (if_of E).2 c5
      refine Rn.iconst (pc' := 18) (v := (0 : Int32)) (hv := by decide) dX11_end_17 rfl ?_
      cases E
      exact Rn.zret rfl rfl dX11_end_18
def f_Model_end (h : Hp) (x0 : Nat) (x1 : Int32) : Option (Int32 × Hp) := f_Model_end_b0  h x0 x1
theorem f_Model_end_ok {l : Launch} {X : Nat × (Nat → Int32)} (hst : l.stackTraces = false) {h : Hp} {x0 : Nat} {x1 : Int32} {r : Int32 × Hp} (E : f_Model_end h x0 x1 = some r) : MC l X yX11_end mX11_end 0 [.ref x0, .int x1] h (eI r) r.2 :=
  MC.body (by decide +kernel) rfl (by decide) hst (Nat.le_of_ble_eq_true rfl) (f_Model_end_b0_ok hst (Nat.le_refl _) E)
abbrev mX9_add : MI := (RX9, cX9_add, 3, none, [], false)
theorem ws_X9_add : ∀ w ∈ wsM yX9_add mX9_add, w ∈ gw := List.forall_mem_cons.mpr ⟨gw_at 479 (by decide +kernel) (by decide +kernel), fun _ h => h⟩
def f_Tape_add_b2  (k2 : Hp → Nat → Int32 → Int32 → Option (Hp)) (h : Hp) (x0 : Nat) (x1 : Int32) (x2 : Int32)  : Option (Hp) :=
if x2 < 0 then (
some h

) else (
if hS h x0 = 9 then (
if hS h (hR h x0 0) = 21 then (
if (Int32.ofNat (hL h (hR h x0 0))) ≤ (hI h x0 1) then (
some h

) else (
if ib (hI h x0 1) (hL h (hR h x0 0)) = true then (
wr (sI h (hR h x0 0) (ix (hI h x0 1)) (Int8.toInt32 (Int32.toInt8 (Int8.toInt32 (Int32.toInt8 (jshr x1 ((8 : Int32) * x2))))))) fun h6 =>
wr (sI h6 x0 1 ((hI h6 x0 1) + (1 : Int32))) fun h8 =>
k2 h8 x0 x1 (x2 + (-1 : Int32))
) else none
)
) else none) else none
)

set_option maxRecDepth 20000 in
set_option maxHeartbeats 4000000 in
theorem f_Tape_add_b2_ok {l : Launch} {X : Nat × (Nat → Int32)} (hst : l.stackTraces = false) {d : Nat} (hd : 0 ≤ d)   {k2 : Hp → Nat → Int32 → Int32 → Option (Hp)} (hk2 : ∀ (h : Hp) (x0 : Nat) (x1 : Int32) (x2 : Int32)  (r : Hp), k2 h x0 x1 x2 = some r → Rn l X mX9_add d 2 [(0, .ref x0), (1, .int x1), (2, .int x2)] [] h (eV r) r) {h : Hp} {x0 : Nat} {x1 : Int32} {x2 : Int32}  {r : Hp} (E : f_Tape_add_b2  k2 h x0 x1 x2 = some r) : Rn l X mX9_add d 2 [(0, .ref x0), (1, .int x1), (2, .int x2)] [] h (eV r) r := by
  unfold f_Tape_add_b2 at E
  refine Rn.iload_n (pc' := 3) dX9_add_2 rfl 2 rfl rfl ?_
  refine Rn.if_lt (pc' := 6) (tgt := 50) dX9_add_3 (by decide) rfl (fun c1 => ?_) (fun c1 => ?_)
  · replace E := (if_of E).1 c1
    cases E
    exact Rn.vret rfl dX9_add_50
  · replace E := (if_of E).2 c1
    refine Rn.aload_n (pc' := 7) dX9_add_6 rfl 0 rfl rfl ?_
    obtain ⟨g2, E⟩ := gd_of E
    refine Rn.getI (pc' := 10) fl_X9_22_8 g2 rfl dX9_add_7 rfl ?_
    refine Rn.aload_n (pc' := 11) dX9_add_10 rfl 0 rfl rfl ?_
    refine Rn.getR (pc' := 14) fl_X9_9_8 g2 rfl dX9_add_11 rfl ?_
    obtain ⟨g3, E⟩ := gd_of E
    refine Rn.alen (pc' := 15) g3 (by decide) (by decide) dX9_add_14 rfl ?_
    refine Rn.icmp_ge (pc' := 18) (tgt := 50) dX9_add_15 (by decide) rfl (fun c4 => ?_) (fun c4 => ?_)
    · replace E := (if_of E).1 c4
      cases E
      exact Rn.vret rfl dX9_add_50
    · replace E := (if_of E).2 c4
      refine Rn.aload_n (pc' := 19) dX9_add_18 rfl 0 rfl rfl ?_
      refine Rn.getR (pc' := 22) fl_X9_9_8 g2 rfl dX9_add_19 rfl ?_
      refine Rn.aload_n (pc' := 23) dX9_add_22 rfl 0 rfl rfl ?_
      refine Rn.getI (pc' := 26) fl_X9_22_8 g2 rfl dX9_add_23 rfl ?_
      refine Rn.iload_n (pc' := 27) dX9_add_26 rfl 1 rfl rfl ?_
      refine Rn.bipush (pc' := 29) (v := (8 : Int32)) (hv := by decide) dX9_add_27 rfl ?_
      refine Rn.iload_n (pc' := 30) dX9_add_29 rfl 2 rfl rfl ?_
      refine Rn.imul (pc' := 31) dX9_add_30 rfl ?_
      refine Rn.ishr (pc' := 32) dX9_add_31 rfl ?_
      refine Rn.i2b (pc' := 33) dX9_add_32 rfl ?_
      obtain ⟨g5, E⟩ := gd_of E
      refine Rn.bast (pc' := 34) g3 g5 dX9_add_33 rfl ?_
      replace E := wr_of E
      generalize eh7 : sI h (hR h x0 0) (ix (hI h x0 1)) (Int8.toInt32 (Int32.toInt8 (Int8.toInt32 (Int32.toInt8 (jshr x1 ((8 : Int32) * x2)))))) = h6 at E ⊢
      refine Rn.aload_n (pc' := 35) dX9_add_34 rfl 0 rfl rfl ?_
      refine Rn.dup (pc' := 36) (hc := rfl) dX9_add_35 rfl ?_
      refine Rn.getI (pc' := 39) fl_X9_22_8 (kp_sI eh7 g2) rfl dX9_add_36 rfl ?_
      refine Rn.iconst (pc' := 40) (v := (1 : Int32)) (hv := by decide) dX9_add_39 rfl ?_
      refine Rn.iadd (pc' := 41) dX9_add_40 rfl ?_
      refine Rn.putI (pc' := 44) fl_X9_22_8 (fun q hq => by cases hq; decide) (kp_sI eh7 g2) rfl rfl rfl dX9_add_41 rfl ?_
      replace E := wr_of E
      generalize eh9 : sI h6 x0 1 ((hI h6 x0 1) + (1 : Int32)) = h8 at E ⊢
      refine Rn.iinc (pc' := 47) (v := (x2 + (-1 : Int32))) (L' := [(2, .int (x2 + (-1 : Int32))), (0, .ref x0), (1, .int x1)]) dX9_add_44 2 rfl rfl (by decide) rfl rfl ?_
      refine Rn.goto (pc' := 2) dX9_add_47 (by decide) ?_
      refine Rn.sub [1, 2, 0] rfl ?_
      exact hk2 _ _ _ _ _ E
def f_Tape_add_L2   (n : Nat) : Hp → Nat → Int32 → Int32 → Option (Hp) := Nat.rec (motive := fun _ => Hp → Nat → Int32 → Int32 → Option (Hp)) (fun _ _ _ _ => none) (fun _ rec => f_Tape_add_b2   rec) n
theorem f_Tape_add_L2_ok {l : Launch} {X : Nat × (Nat → Int32)} (hst : l.stackTraces = false) {d : Nat} (hd : 0 ≤ d)     : ∀ (n : Nat) (h : Hp) (x0 : Nat) (x1 : Int32) (x2 : Int32)  (r : Hp), f_Tape_add_L2   n h x0 x1 x2 = some r → Rn l X mX9_add d 2 [(0, .ref x0), (1, .int x1), (2, .int x2)] [] h (eV r) r := by
  intro n
  induction n with
  | zero => intro h x0 x1 x2 r E; cases E
  | succ n ih => intro h x0 x1 x2 r E; exact f_Tape_add_b2_ok hst hd   ih E
def f_Tape_add_b0   (h : Hp) (x0 : Nat) (x1 : Int32)  : Option (Hp) :=
f_Tape_add_L2   FU h x0 x1 (3 : Int32)

set_option maxRecDepth 20000 in
set_option maxHeartbeats 4000000 in
theorem f_Tape_add_b0_ok {l : Launch} {X : Nat × (Nat → Int32)} (hst : l.stackTraces = false) {d : Nat} (hd : 0 ≤ d)     {h : Hp} {x0 : Nat} {x1 : Int32}  {r : Hp} (E : f_Tape_add_b0   h x0 x1 = some r) : Rn l X mX9_add d 0 [(0, .ref x0), (1, .int x1)] [] h (eV r) r := by
  unfold f_Tape_add_b0 at E
  refine Rn.iconst (pc' := 1) (v := (3 : Int32)) (hv := by decide) dX9_add_0 rfl ?_
  refine Rn.istore_n (pc' := 2) (L' := [(2, .int (3 : Int32)), (0, .ref x0), (1, .int x1)]) dX9_add_1 rfl (by decide) rfl rfl ?_
  refine Rn.sub [1, 2, 0] rfl ?_
  exact f_Tape_add_L2_ok hst hd   FU _ _ _ _ _ E
def f_Tape_add (h : Hp) (x0 : Nat) (x1 : Int32) : Option (Hp) := f_Tape_add_b0  h x0 x1
theorem f_Tape_add_ok {l : Launch} {X : Nat × (Nat → Int32)} (hst : l.stackTraces = false) {h : Hp} {x0 : Nat} {x1 : Int32} {r : Hp} (E : f_Tape_add h x0 x1 = some r) : MC l X yX9_add mX9_add 0 [.ref x0, .int x1] h (eV r) r :=
  MC.body (by decide +kernel) rfl (by decide) hst (Nat.le_of_ble_eq_true rfl) (f_Tape_add_b0_ok hst (Nat.le_refl _) E)
abbrev mX10_feed : MI := (RX10, cX10_feed, 6, (some Jvm.ClassFile.FieldType.int), [], false)
theorem ws_X10_feed : ∀ w ∈ wsM yX10_feed mX10_feed, w ∈ gw := List.forall_mem_cons.mpr ⟨gw_at 475 (by decide +kernel) (by decide +kernel), fun _ h => h⟩
theorem kb_X10_69 : KB RX10 69 yX9_add mX9_add 1 := ⟨gw_at 476 (by decide +kernel) (by decide +kernel), gw_at 108 (by decide +kernel) (by decide +kernel), trivial, ws_X9_add, by decide +kernel, by decide +kernel, by decide +kernel, by decide⟩
theorem ki_X9_add : Cond.instanceMethod yX9_add ∈ gw ∧ Cond.selects yX9_add.cls yX9_add yX9_add ∈ gw := ⟨gw_at 477 (by decide +kernel) (by decide +kernel), gw_at 478 (by decide +kernel) (by decide +kernel)⟩
def f_Water_feed_b0   (h : Hp) (x0 : Nat) (x1 : Int32) (x2 : Int32) (x3 : Int32) (x4 : Int32) (x5 : Int32)  : Option (Int32 × Hp) :=
if hS h x0 = 10 then (
if hS h (hR h x0 0) = 9 then (
if (hI h (hR h x0 0) 1) ≤ (380 : Int32) then (
bV (f_Tape_add h (hR h x0 0) x1) fun h5 =>
if hS h5 x0 = 10 then (
if hS h5 (hR h5 x0 0) = 9 then (
bV (f_Tape_add h5 (hR h5 x0 0) x2) fun h10 =>
if hS h10 x0 = 10 then (
if hS h10 (hR h10 x0 0) = 9 then (
bV (f_Tape_add h10 (hR h10 x0 0) x3) fun h15 =>
if hS h15 x0 = 10 then (
if hS h15 (hR h15 x0 0) = 9 then (
bV (f_Tape_add h15 (hR h15 x0 0) x4) fun h20 =>
if hS h20 x0 = 10 then (
if hS h20 (hR h20 x0 0) = 9 then (
bV (f_Tape_add h20 (hR h20 x0 0) x5) fun h25 =>
if hS h25 x0 = 10 then (
if hS h25 (hR h25 x0 0) = 9 then (
some ((hI h25 (hR h25 x0 0) 1), h25)
) else none) else none) else none) else none) else none) else none) else none) else none) else none) else none
) else (
some ((-1 : Int32), h)

)
) else none) else none
set_option maxRecDepth 20000 in
set_option maxHeartbeats 4000000 in
theorem f_Water_feed_b0_ok {l : Launch} {X : Nat × (Nat → Int32)} (hst : l.stackTraces = false) {d : Nat} (hd : 1 ≤ d)     {h : Hp} {x0 : Nat} {x1 : Int32} {x2 : Int32} {x3 : Int32} {x4 : Int32} {x5 : Int32}  {r : Int32 × Hp} (E : f_Water_feed_b0   h x0 x1 x2 x3 x4 x5 = some r) : Rn l X mX10_feed d 0 [(0, .ref x0), (1, .int x1), (2, .int x2), (3, .int x3), (4, .int x4), (5, .int x5)] [] h (eI r) r.2 := by
  unfold f_Water_feed_b0 at E
  refine Rn.aload_n (pc' := 1) dX10_feed_0 rfl 0 rfl rfl ?_
  obtain ⟨g1, E⟩ := gd_of E
  refine Rn.getR (pc' := 4) fl_X10_12_9 g1 rfl dX10_feed_1 rfl ?_
  obtain ⟨g2, E⟩ := gd_of E
  refine Rn.getI (pc' := 7) fl_X10_66_8 g2 rfl dX10_feed_4 rfl ?_
  refine Rn.sipush (pc' := 10) (v := (380 : Int32)) (hv := by decide) dX10_feed_7 rfl ?_
  refine Rn.icmp_le (pc' := 13) (tgt := 15) dX10_feed_10 (by decide) rfl (fun c3 => ?_) (fun c3 => ?_)
  · replace E := (if_of E).1 c3
    refine Rn.aload_n (pc' := 16) dX10_feed_15 rfl 0 rfl rfl ?_
    refine Rn.getR (pc' := 19) fl_X10_12_9 g1 rfl dX10_feed_16 rfl ?_
    refine Rn.iload_n (pc' := 20) dX10_feed_19 rfl 1 rfl rfl ?_
    obtain ⟨h5, e6, E⟩ := bV_of E
    refine Rn.callV1 (pc' := 23) (As := [.int x1]) (rest := []) (f_Tape_add_ok hst e6) (Nat.le_trans (by decide) hd) rfl kb_X10_69 ki_X9_add rfl g2 rfl rfl (Nat.le_of_ble_eq_true rfl) dX10_feed_20 rfl rfl ?_
    refine Rn.aload_n (pc' := 24) dX10_feed_23 rfl 0 rfl rfl ?_
    obtain ⟨g7, E⟩ := gd_of E
    refine Rn.getR (pc' := 27) fl_X10_12_9 g7 rfl dX10_feed_24 rfl ?_
    refine Rn.iload_n (pc' := 28) dX10_feed_27 rfl 2 rfl rfl ?_
    obtain ⟨g8, E⟩ := gd_of E
    obtain ⟨h10, e11, E⟩ := bV_of E
    refine Rn.callV1 (pc' := 31) (As := [.int x2]) (rest := []) (f_Tape_add_ok hst e11) (Nat.le_trans (by decide) hd) rfl kb_X10_69 ki_X9_add rfl g8 rfl rfl (Nat.le_of_ble_eq_true rfl) dX10_feed_28 rfl rfl ?_
    refine Rn.aload_n (pc' := 32) dX10_feed_31 rfl 0 rfl rfl ?_
    obtain ⟨g12, E⟩ := gd_of E
    refine Rn.getR (pc' := 35) fl_X10_12_9 g12 rfl dX10_feed_32 rfl ?_
    refine Rn.iload_n (pc' := 36) dX10_feed_35 rfl 3 rfl rfl ?_
    obtain ⟨g13, E⟩ := gd_of E
    obtain ⟨h15, e16, E⟩ := bV_of E
    refine Rn.callV1 (pc' := 39) (As := [.int x3]) (rest := []) (f_Tape_add_ok hst e16) (Nat.le_trans (by decide) hd) rfl kb_X10_69 ki_X9_add rfl g13 rfl rfl (Nat.le_of_ble_eq_true rfl) dX10_feed_36 rfl rfl ?_
    refine Rn.aload_n (pc' := 40) dX10_feed_39 rfl 0 rfl rfl ?_
    obtain ⟨g17, E⟩ := gd_of E
    refine Rn.getR (pc' := 43) fl_X10_12_9 g17 rfl dX10_feed_40 rfl ?_
    refine Rn.iload (pc' := 45) dX10_feed_43 4 rfl rfl ?_
    obtain ⟨g18, E⟩ := gd_of E
    obtain ⟨h20, e21, E⟩ := bV_of E
    refine Rn.callV1 (pc' := 48) (As := [.int x4]) (rest := []) (f_Tape_add_ok hst e21) (Nat.le_trans (by decide) hd) rfl kb_X10_69 ki_X9_add rfl g18 rfl rfl (Nat.le_of_ble_eq_true rfl) dX10_feed_45 rfl rfl ?_
    refine Rn.aload_n (pc' := 49) dX10_feed_48 rfl 0 rfl rfl ?_
    obtain ⟨g22, E⟩ := gd_of E
    refine Rn.getR (pc' := 52) fl_X10_12_9 g22 rfl dX10_feed_49 rfl ?_
    refine Rn.iload (pc' := 54) dX10_feed_52 5 rfl rfl ?_
    obtain ⟨g23, E⟩ := gd_of E
    obtain ⟨h25, e26, E⟩ := bV_of E
    refine Rn.callV1 (pc' := 57) (As := [.int x5]) (rest := []) (f_Tape_add_ok hst e26) (Nat.le_trans (by decide) hd) rfl kb_X10_69 ki_X9_add rfl g23 rfl rfl (Nat.le_of_ble_eq_true rfl) dX10_feed_54 rfl rfl ?_
    refine Rn.aload_n (pc' := 58) dX10_feed_57 rfl 0 rfl rfl ?_
    obtain ⟨g27, E⟩ := gd_of E
    refine Rn.getR (pc' := 61) fl_X10_12_9 g27 rfl dX10_feed_58 rfl ?_
    obtain ⟨g28, E⟩ := gd_of E
    refine Rn.getI (pc' := 64) fl_X10_66_8 g28 rfl dX10_feed_61 rfl ?_
    cases E
    exact Rn.zret rfl rfl dX10_feed_64
  · replace E := (if_of E).2 c3
    refine Rn.iconst (pc' := 14) (v := (-1 : Int32)) (hv := by decide) dX10_feed_13 rfl ?_
    cases E
    exact Rn.zret rfl rfl dX10_feed_14
def f_Water_feed (h : Hp) (x0 : Nat) (x1 : Int32) (x2 : Int32) (x3 : Int32) (x4 : Int32) (x5 : Int32) : Option (Int32 × Hp) := f_Water_feed_b0  h x0 x1 x2 x3 x4 x5
theorem f_Water_feed_ok {l : Launch} {X : Nat × (Nat → Int32)} (hst : l.stackTraces = false) {h : Hp} {x0 : Nat} {x1 : Int32} {x2 : Int32} {x3 : Int32} {x4 : Int32} {x5 : Int32} {r : Int32 × Hp} (E : f_Water_feed h x0 x1 x2 x3 x4 x5 = some r) : MC l X yX10_feed mX10_feed 1 [.ref x0, .int x1, .int x2, .int x3, .int x4, .int x5] h (eI r) r.2 :=
  MC.body (by decide +kernel) rfl (by decide) hst (Nat.le_of_ble_eq_true rfl) (f_Water_feed_b0_ok hst (Nat.le_refl _) E)
abbrev mX11_feed : MI := (RX11, cX11_feed, 7, (some Jvm.ClassFile.FieldType.int), [], false)
theorem ws_X11_feed : ∀ w ∈ wsM yX11_feed mX11_feed, w ∈ gw := List.forall_mem_cons.mpr ⟨gw_at 1498 (by decide +kernel) (by decide +kernel), fun _ h => h⟩
def f_Model_feed_b60  (k60 : Hp → Nat → Int32 → Option (Int32 × Hp)) (h : Hp) (x0 : Nat) (x6 : Int32)  : Option (Int32 × Hp) :=
if (20 : Int32) ≤ x6 then (
if hS h x0 = 11 then (
wr (sI h x0 9 ((hI h x0 9) + (20 : Int32))) fun h3 =>
some ((hI h3 x0 9), h3)
) else none
) else (
if hS h x0 = 11 then (
if hS h (hR h x0 15) = 20 then (
if ib (x6 / (4 : Int32)) (hL h (hR h x0 15)) = true then (
if hS h (hR h x0 8) = 21 then (
if ib ((hI h x0 9) + x6) (hL h (hR h x0 8)) = true then (
wr (sI h (hR h x0 8) (ix ((hI h x0 9) + x6)) (Int8.toInt32 (Int32.toInt8 (Int8.toInt32 (Int32.toInt8 (jshr (hI h (hR h x0 15) (ix (x6 / (4 : Int32)))) ((24 : Int32) - ((8 : Int32) * (jrem x6 (4 : Int32)))))))))) fun h10 =>
k60 h10 x0 (x6 + (1 : Int32))
) else none) else none) else none) else none) else none
)

set_option maxRecDepth 20000 in
set_option maxHeartbeats 4000000 in
theorem f_Model_feed_b60_ok {l : Launch} {X : Nat × (Nat → Int32)} (hst : l.stackTraces = false) {d : Nat} (hd : 0 ≤ d)   {k60 : Hp → Nat → Int32 → Option (Int32 × Hp)} (hk60 : ∀ (h : Hp) (x0 : Nat) (x6 : Int32)  (r : Int32 × Hp), k60 h x0 x6 = some r → Rn l X mX11_feed d 60 [(0, .ref x0), (6, .int x6)] [] h (eI r) r.2) {h : Hp} {x0 : Nat} {x6 : Int32}  {r : Int32 × Hp} (E : f_Model_feed_b60  k60 h x0 x6 = some r) : Rn l X mX11_feed d 60 [(0, .ref x0), (6, .int x6)] [] h (eI r) r.2 := by
  unfold f_Model_feed_b60 at E
  refine Rn.iload (pc' := 62) dX11_feed_60 1 rfl rfl ?_
  refine Rn.bipush (pc' := 64) (v := (20 : Int32)) (hv := by decide) dX11_feed_62 rfl ?_
  refine Rn.icmp_ge (pc' := 67) (tgt := 106) dX11_feed_64 (by decide) rfl (fun c1 => ?_) (fun c1 => ?_)
  · replace E := (if_of E).1 c1
    refine Rn.aload_n (pc' := 107) dX11_feed_106 rfl 0 rfl rfl ?_
    refine Rn.dup (pc' := 108) (hc := rfl) dX11_feed_107 rfl ?_
    obtain ⟨g2, E⟩ := gd_of E
    refine Rn.getI (pc' := 111) fl_X11_86_10 g2 rfl dX11_feed_108 rfl ?_
    refine Rn.bipush (pc' := 113) (v := (20 : Int32)) (hv := by decide) dX11_feed_111 rfl ?_
    refine Rn.iadd (pc' := 114) dX11_feed_113 rfl ?_
    refine Rn.putI (pc' := 117) fl_X11_86_10 (fun q hq => by cases hq; decide) g2 rfl rfl rfl dX11_feed_114 rfl ?_
    replace E := wr_of E
    generalize eh4 : sI h x0 9 ((hI h x0 9) + (20 : Int32)) = h3 at E ⊢
    refine Rn.aload_n (pc' := 118) dX11_feed_117 rfl 0 rfl rfl ?_
    refine Rn.getI (pc' := 121) fl_X11_86_10 (kp_sI eh4 g2) rfl dX11_feed_118 rfl ?_
    cases E
    exact Rn.zret rfl rfl dX11_feed_121
  · replace E := (if_of E).2 c1
    refine Rn.aload_n (pc' := 68) dX11_feed_67 rfl 0 rfl rfl ?_
    obtain ⟨g5, E⟩ := gd_of E
    refine Rn.getR (pc' := 71) fl_X11_29_10 g5 rfl dX11_feed_68 rfl ?_
    refine Rn.aload_n (pc' := 72) dX11_feed_71 rfl 0 rfl rfl ?_
    refine Rn.getI (pc' := 75) fl_X11_86_10 g5 rfl dX11_feed_72 rfl ?_
    refine Rn.iload (pc' := 77) dX11_feed_75 1 rfl rfl ?_
    refine Rn.iadd (pc' := 78) dX11_feed_77 rfl ?_
    refine Rn.aload_n (pc' := 79) dX11_feed_78 rfl 0 rfl rfl ?_
    refine Rn.getR (pc' := 82) fl_X11_36_10 g5 rfl dX11_feed_79 rfl ?_
    refine Rn.iload (pc' := 84) dX11_feed_82 1 rfl rfl ?_
    refine Rn.iconst (pc' := 85) (v := (4 : Int32)) (hv := by decide) dX11_feed_84 rfl ?_
    refine Rn.idiv (pc' := 86) (hne := (by decide)) dX11_feed_85 rfl ?_
    obtain ⟨g6, E⟩ := gd_of E
    obtain ⟨g7, E⟩ := gd_of E
    refine Rn.iald (pc' := 87) g6 g7 dX11_feed_86 rfl ?_
    refine Rn.bipush (pc' := 89) (v := (24 : Int32)) (hv := by decide) dX11_feed_87 rfl ?_
    refine Rn.bipush (pc' := 91) (v := (8 : Int32)) (hv := by decide) dX11_feed_89 rfl ?_
    refine Rn.iload (pc' := 93) dX11_feed_91 1 rfl rfl ?_
    refine Rn.iconst (pc' := 94) (v := (4 : Int32)) (hv := by decide) dX11_feed_93 rfl ?_
    refine Rn.irem (pc' := 95) (hne := (by decide)) dX11_feed_94 rfl ?_
    refine Rn.imul (pc' := 96) dX11_feed_95 rfl ?_
    refine Rn.isub (pc' := 97) dX11_feed_96 rfl ?_
    refine Rn.ishr (pc' := 98) dX11_feed_97 rfl ?_
    refine Rn.i2b (pc' := 99) dX11_feed_98 rfl ?_
    obtain ⟨g8, E⟩ := gd_of E
    obtain ⟨g9, E⟩ := gd_of E
    refine Rn.bast (pc' := 100) g8 g9 dX11_feed_99 rfl ?_
    replace E := wr_of E
    generalize eh11 : sI h (hR h x0 8) (ix ((hI h x0 9) + x6)) (Int8.toInt32 (Int32.toInt8 (Int8.toInt32 (Int32.toInt8 (jshr (hI h (hR h x0 15) (ix (x6 / (4 : Int32)))) ((24 : Int32) - ((8 : Int32) * (jrem x6 (4 : Int32))))))))) = h10 at E ⊢
    refine Rn.iinc (pc' := 103) (v := (x6 + (1 : Int32))) (L' := [(6, .int (x6 + (1 : Int32))), (0, .ref x0)]) dX11_feed_100 1 rfl rfl (by decide) rfl rfl ?_
    refine Rn.goto (pc' := 60) dX11_feed_103 (by decide) ?_
    refine Rn.sub [1, 0] rfl ?_
    exact hk60 _ _ _ _ E
def f_Model_feed_L60   (n : Nat) : Hp → Nat → Int32 → Option (Int32 × Hp) := Nat.rec (motive := fun _ => Hp → Nat → Int32 → Option (Int32 × Hp)) (fun _ _ _ => none) (fun _ rec => f_Model_feed_b60   rec) n
theorem f_Model_feed_L60_ok {l : Launch} {X : Nat × (Nat → Int32)} (hst : l.stackTraces = false) {d : Nat} (hd : 0 ≤ d)     : ∀ (n : Nat) (h : Hp) (x0 : Nat) (x6 : Int32)  (r : Int32 × Hp), f_Model_feed_L60   n h x0 x6 = some r → Rn l X mX11_feed d 60 [(0, .ref x0), (6, .int x6)] [] h (eI r) r.2 := by
  intro n
  induction n with
  | zero => intro h x0 x6 r E; cases E
  | succ n ih => intro h x0 x6 r E; exact f_Model_feed_b60_ok hst hd   ih E
def f_Model_feed_b0   (h : Hp) (x0 : Nat) (x1 : Int32) (x2 : Int32) (x3 : Int32) (x4 : Int32) (x5 : Int32)  : Option (Int32 × Hp) :=
if hS h x0 = 11 then (
wr (sI h x0 0 (0 : Int32)) fun h2 =>
if ((hI h2 x0 9) + (20 : Int32)) ≤ (400 : Int32) then (
if hS h2 (hR h2 x0 15) = 20 then (
if ib (0 : Int32) (hL h2 (hR h2 x0 15)) = true then (
wr (sI h2 (hR h2 x0 15) (ix (0 : Int32)) x1) fun h7 =>
if hS h7 (hR h7 x0 15) = 20 then (
if ib (1 : Int32) (hL h7 (hR h7 x0 15)) = true then (
wr (sI h7 (hR h7 x0 15) (ix (1 : Int32)) x2) fun h11 =>
if hS h11 (hR h11 x0 15) = 20 then (
if ib (2 : Int32) (hL h11 (hR h11 x0 15)) = true then (
wr (sI h11 (hR h11 x0 15) (ix (2 : Int32)) x3) fun h15 =>
if hS h15 (hR h15 x0 15) = 20 then (
if ib (3 : Int32) (hL h15 (hR h15 x0 15)) = true then (
wr (sI h15 (hR h15 x0 15) (ix (3 : Int32)) x4) fun h19 =>
if hS h19 (hR h19 x0 15) = 20 then (
if ib (4 : Int32) (hL h19 (hR h19 x0 15)) = true then (
wr (sI h19 (hR h19 x0 15) (ix (4 : Int32)) x5) fun h23 =>
f_Model_feed_L60   FU h23 x0 (0 : Int32)
) else none) else none) else none) else none) else none) else none) else none) else none) else none) else none
) else (
some ((-1 : Int32), h2)

)
) else none
set_option maxRecDepth 20000 in
set_option maxHeartbeats 4000000 in
theorem f_Model_feed_b0_ok {l : Launch} {X : Nat × (Nat → Int32)} (hst : l.stackTraces = false) {d : Nat} (hd : 0 ≤ d)     {h : Hp} {x0 : Nat} {x1 : Int32} {x2 : Int32} {x3 : Int32} {x4 : Int32} {x5 : Int32}  {r : Int32 × Hp} (E : f_Model_feed_b0   h x0 x1 x2 x3 x4 x5 = some r) : Rn l X mX11_feed d 0 [(0, .ref x0), (1, .int x1), (2, .int x2), (3, .int x3), (4, .int x4), (5, .int x5)] [] h (eI r) r.2 := by
  unfold f_Model_feed_b0 at E
  refine Rn.aload_n (pc' := 1) dX11_feed_0 rfl 0 rfl rfl ?_
  refine Rn.iconst (pc' := 2) (v := (0 : Int32)) (hv := by decide) dX11_feed_1 rfl ?_
  obtain ⟨g1, E⟩ := gd_of E
  refine Rn.putI (pc' := 5) fl_X11_3_10 (fun q hq => by cases hq; decide) g1 rfl rfl rfl dX11_feed_2 rfl ?_
  replace E := wr_of E
  generalize eh3 : sI h x0 0 (0 : Int32) = h2 at E ⊢
  refine Rn.aload_n (pc' := 6) dX11_feed_5 rfl 0 rfl rfl ?_
  refine Rn.getI (pc' := 9) fl_X11_86_10 (kp_sI eh3 g1) rfl dX11_feed_6 rfl ?_
  refine Rn.bipush (pc' := 11) (v := (20 : Int32)) (hv := by decide) dX11_feed_9 rfl ?_
  refine Rn.iadd (pc' := 12) dX11_feed_11 rfl ?_
  refine Rn.sipush (pc' := 15) (v := (400 : Int32)) (hv := by decide) dX11_feed_12 rfl ?_
  refine Rn.icmp_le (pc' := 18) (tgt := 20) dX11_feed_15 (by decide) rfl (fun c4 => ?_) (fun c4 => ?_)
  · replace E := (if_of E).1 c4
    refine Rn.aload_n (pc' := 21) dX11_feed_20 rfl 0 rfl rfl ?_
    refine Rn.getR (pc' := 24) fl_X11_36_10 (kp_sI eh3 g1) rfl dX11_feed_21 rfl ?_
    refine Rn.iconst (pc' := 25) (v := (0 : Int32)) (hv := by decide) dX11_feed_24 rfl ?_
    refine Rn.iload_n (pc' := 26) dX11_feed_25 rfl 1 rfl rfl ?_
    obtain ⟨g5, E⟩ := gd_of E
    obtain ⟨g6, E⟩ := gd_of E
    refine Rn.iast (pc' := 27) g5 g6 dX11_feed_26 rfl ?_
    replace E := wr_of E
    generalize eh8 : sI h2 (hR h2 x0 15) (ix (0 : Int32)) x1 = h7 at E ⊢
    refine Rn.aload_n (pc' := 28) dX11_feed_27 rfl 0 rfl rfl ?_
    refine Rn.getR (pc' := 31) fl_X11_36_10 (kp_sI eh8 (kp_sI eh3 g1)) rfl dX11_feed_28 rfl ?_
    refine Rn.iconst (pc' := 32) (v := (1 : Int32)) (hv := by decide) dX11_feed_31 rfl ?_
    refine Rn.iload_n (pc' := 33) dX11_feed_32 rfl 2 rfl rfl ?_
    obtain ⟨g9, E⟩ := gd_of E
    obtain ⟨g10, E⟩ := gd_of E
    refine Rn.iast (pc' := 34) g9 g10 dX11_feed_33 rfl ?_
    replace E := wr_of E
    generalize eh12 : sI h7 (hR h7 x0 15) (ix (1 : Int32)) x2 = h11 at E ⊢
    refine Rn.aload_n (pc' := 35) dX11_feed_34 rfl 0 rfl rfl ?_
    refine Rn.getR (pc' := 38) fl_X11_36_10 (kp_sI eh12 (kp_sI eh8 (kp_sI eh3 g1))) rfl dX11_feed_35 rfl ?_
    refine Rn.iconst (pc' := 39) (v := (2 : Int32)) (hv := by decide) dX11_feed_38 rfl ?_
    refine Rn.iload_n (pc' := 40) dX11_feed_39 rfl 3 rfl rfl ?_
    obtain ⟨g13, E⟩ := gd_of E
    obtain ⟨g14, E⟩ := gd_of E
    refine Rn.iast (pc' := 41) g13 g14 dX11_feed_40 rfl ?_
    replace E := wr_of E
    generalize eh16 : sI h11 (hR h11 x0 15) (ix (2 : Int32)) x3 = h15 at E ⊢
    refine Rn.aload_n (pc' := 42) dX11_feed_41 rfl 0 rfl rfl ?_
    refine Rn.getR (pc' := 45) fl_X11_36_10 (kp_sI eh16 (kp_sI eh12 (kp_sI eh8 (kp_sI eh3 g1)))) rfl dX11_feed_42 rfl ?_
    refine Rn.iconst (pc' := 46) (v := (3 : Int32)) (hv := by decide) dX11_feed_45 rfl ?_
    refine Rn.iload (pc' := 48) dX11_feed_46 4 rfl rfl ?_
    obtain ⟨g17, E⟩ := gd_of E
    obtain ⟨g18, E⟩ := gd_of E
    refine Rn.iast (pc' := 49) g17 g18 dX11_feed_48 rfl ?_
    replace E := wr_of E
    generalize eh20 : sI h15 (hR h15 x0 15) (ix (3 : Int32)) x4 = h19 at E ⊢
    refine Rn.aload_n (pc' := 50) dX11_feed_49 rfl 0 rfl rfl ?_
    refine Rn.getR (pc' := 53) fl_X11_36_10 (kp_sI eh20 (kp_sI eh16 (kp_sI eh12 (kp_sI eh8 (kp_sI eh3 g1))))) rfl dX11_feed_50 rfl ?_
    refine Rn.iconst (pc' := 54) (v := (4 : Int32)) (hv := by decide) dX11_feed_53 rfl ?_
    refine Rn.iload (pc' := 56) dX11_feed_54 5 rfl rfl ?_
    obtain ⟨g21, E⟩ := gd_of E
    obtain ⟨g22, E⟩ := gd_of E
    refine Rn.iast (pc' := 57) g21 g22 dX11_feed_56 rfl ?_
    replace E := wr_of E
    generalize eh24 : sI h19 (hR h19 x0 15) (ix (4 : Int32)) x5 = h23 at E ⊢
    refine Rn.iconst (pc' := 58) (v := (0 : Int32)) (hv := by decide) dX11_feed_57 rfl ?_
    refine Rn.istore (pc' := 60) (L' := [(6, .int (0 : Int32)), (0, .ref x0), (1, .int x1), (2, .int x2), (3, .int x3), (4, .int x4), (5, .int x5)]) dX11_feed_58 (by decide) rfl rfl ?_
    refine Rn.sub [1, 0] rfl ?_
    exact f_Model_feed_L60_ok hst hd   FU _ _ _ _ E
  · replace E := (if_of E).2 c4
    refine Rn.iconst (pc' := 19) (v := (-1 : Int32)) (hv := by decide) dX11_feed_18 rfl ?_
    cases E
    exact Rn.zret rfl rfl dX11_feed_19
def f_Model_feed (h : Hp) (x0 : Nat) (x1 : Int32) (x2 : Int32) (x3 : Int32) (x4 : Int32) (x5 : Int32) : Option (Int32 × Hp) := f_Model_feed_b0  h x0 x1 x2 x3 x4 x5
theorem f_Model_feed_ok {l : Launch} {X : Nat × (Nat → Int32)} (hst : l.stackTraces = false) {h : Hp} {x0 : Nat} {x1 : Int32} {x2 : Int32} {x3 : Int32} {x4 : Int32} {x5 : Int32} {r : Int32 × Hp} (E : f_Model_feed h x0 x1 x2 x3 x4 x5 = some r) : MC l X yX11_feed mX11_feed 0 [.ref x0, .int x1, .int x2, .int x3, .int x4, .int x5] h (eI r) r.2 :=
  MC.body (by decide +kernel) rfl (by decide) hst (Nat.le_of_ble_eq_true rfl) (f_Model_feed_b0_ok hst (Nat.le_refl _) E)
abbrev mL_law_ : MI := (RL, cL_law_, 7, (some Jvm.ClassFile.FieldType.boolean), [], false)
def f_Lw_main_b2138 (X : Nat × (Nat → Int32))  (k23 : Hp → Nat → Nat → Nat → Nat → Int32 → Option (Int32 × Hp)) (h : Hp) (x0 : Nat) (x1 : Nat) (x2 : Nat) (x3 : Nat) (x4 : Int32)  : Option (Int32 × Hp) :=
k23 h x0 x1 x2 x3 (x4 + (6 : Int32))

set_option maxRecDepth 20000 in
set_option maxHeartbeats 4000000 in
theorem f_Lw_main_b2138_ok {l : Launch} {X : Nat × (Nat → Int32)} (hst : l.stackTraces = false) {d : Nat} (hd : 52 ≤ d)   {k23 : Hp → Nat → Nat → Nat → Nat → Int32 → Option (Int32 × Hp)} (hk23 : ∀ (h : Hp) (x0 : Nat) (x1 : Nat) (x2 : Nat) (x3 : Nat) (x4 : Int32)  (r : Int32 × Hp), k23 h x0 x1 x2 x3 x4 = some r → Rn l X mL_law_ d 23 [(0, .ref x0), (1, .ref x1), (2, .ref x2), (3, .ref x3), (4, .int x4)] [] h (eI r) r.2) {h : Hp} {x0 : Nat} {x1 : Nat} {x2 : Nat} {x3 : Nat} {x4 : Int32}  {r : Int32 × Hp} (E : f_Lw_main_b2138 X  k23 h x0 x1 x2 x3 x4 = some r) : Rn l X mL_law_ d 2138 [(0, .ref x0), (1, .ref x1), (2, .ref x2), (3, .ref x3), (4, .int x4)] [] h (eI r) r.2 := by
  unfold f_Lw_main_b2138 at E
  refine Rn.iinc (pc' := 2141) (v := (x4 + (6 : Int32))) (L' := [(4, .int (x4 + (6 : Int32))), (0, .ref x0), (1, .ref x1), (2, .ref x2), (3, .ref x3)]) dL_law__2138 4 rfl rfl (by decide) rfl rfl ?_
  refine Rn.goto (pc' := 23) dL_law__2141 (by decide) ?_
  refine Rn.sub [1, 2, 3, 4, 0] rfl ?_
  exact hk23 _ _ _ _ _ _ _ E
def f_Lw_main_b2086 (X : Nat × (Nat → Int32))  (k23 : Hp → Nat → Nat → Nat → Nat → Int32 → Option (Int32 × Hp)) (h : Hp) (x0 : Nat) (x1 : Nat) (x2 : Nat) (x3 : Nat) (x4 : Int32)  : Option (Int32 × Hp) :=
f_Lw_main_b2138 X  k23 h x0 x1 x2 x3 x4

set_option maxRecDepth 20000 in
set_option maxHeartbeats 4000000 in
theorem f_Lw_main_b2086_ok {l : Launch} {X : Nat × (Nat → Int32)} (hst : l.stackTraces = false) {d : Nat} (hd : 52 ≤ d)   {k23 : Hp → Nat → Nat → Nat → Nat → Int32 → Option (Int32 × Hp)} (hk23 : ∀ (h : Hp) (x0 : Nat) (x1 : Nat) (x2 : Nat) (x3 : Nat) (x4 : Int32)  (r : Int32 × Hp), k23 h x0 x1 x2 x3 x4 = some r → Rn l X mL_law_ d 23 [(0, .ref x0), (1, .ref x1), (2, .ref x2), (3, .ref x3), (4, .int x4)] [] h (eI r) r.2) {h : Hp} {x0 : Nat} {x1 : Nat} {x2 : Nat} {x3 : Nat} {x4 : Int32}  {r : Int32 × Hp} (E : f_Lw_main_b2086 X  k23 h x0 x1 x2 x3 x4 = some r) : Rn l X mL_law_ d 2086 [(0, .ref x0), (1, .ref x1), (2, .ref x2), (3, .ref x3), (4, .int x4)] [] h (eI r) r.2 := by
  unfold f_Lw_main_b2086 at E
  refine Rn.goto (pc' := 2138) dL_law__2086 (by decide) ?_
  exact f_Lw_main_b2138_ok hst hd  hk23 E
def f_Lw_main_b2018 (X : Nat × (Nat → Int32))  (k23 : Hp → Nat → Nat → Nat → Nat → Int32 → Option (Int32 × Hp)) (h : Hp) (x0 : Nat) (x1 : Nat) (x2 : Nat) (x3 : Nat) (x4 : Int32)  : Option (Int32 × Hp) :=
f_Lw_main_b2138 X  k23 h x0 x1 x2 x3 x4

set_option maxRecDepth 20000 in
set_option maxHeartbeats 4000000 in
theorem f_Lw_main_b2018_ok {l : Launch} {X : Nat × (Nat → Int32)} (hst : l.stackTraces = false) {d : Nat} (hd : 52 ≤ d)   {k23 : Hp → Nat → Nat → Nat → Nat → Int32 → Option (Int32 × Hp)} (hk23 : ∀ (h : Hp) (x0 : Nat) (x1 : Nat) (x2 : Nat) (x3 : Nat) (x4 : Int32)  (r : Int32 × Hp), k23 h x0 x1 x2 x3 x4 = some r → Rn l X mL_law_ d 23 [(0, .ref x0), (1, .ref x1), (2, .ref x2), (3, .ref x3), (4, .int x4)] [] h (eI r) r.2) {h : Hp} {x0 : Nat} {x1 : Nat} {x2 : Nat} {x3 : Nat} {x4 : Int32}  {r : Int32 × Hp} (E : f_Lw_main_b2018 X  k23 h x0 x1 x2 x3 x4 = some r) : Rn l X mL_law_ d 2018 [(0, .ref x0), (1, .ref x1), (2, .ref x2), (3, .ref x3), (4, .int x4)] [] h (eI r) r.2 := by
  unfold f_Lw_main_b2018 at E
  refine Rn.goto (pc' := 2138) dL_law__2018 (by decide) ?_
  exact f_Lw_main_b2138_ok hst hd  hk23 E
theorem kb_L_223 : KB RL 223 yX11_order mX11_order 1 := ⟨gw_at 1922 (by decide +kernel) (by decide +kernel), gw_at 117 (by decide +kernel) (by decide +kernel), trivial, ws_X11_order, by decide +kernel, by decide +kernel, by decide +kernel, by decide⟩
theorem ki_X11_order : Cond.instanceMethod yX11_order ∈ gw ∧ Cond.selects yX11_order.cls yX11_order yX11_order ∈ gw := ⟨gw_at 1923 (by decide +kernel) (by decide +kernel), gw_at 1924 (by decide +kernel) (by decide +kernel)⟩
def f_Lw_main_b1945 (X : Nat × (Nat → Int32))  (k23 : Hp → Nat → Nat → Nat → Nat → Int32 → Option (Int32 × Hp)) (h : Hp) (x0 : Nat) (x1 : Nat) (x2 : Nat) (x3 : Nat) (x4 : Int32) (s0 : Int32) (s1 : Nat) (s2 : Int32) : Option (Int32 × Hp) :=
if hS h s1 = 11 then (
bI (f_Model_order h s1 s2) fun v2 h3 =>
if s0 = v2 then (
f_Lw_main_b2138 X  k23 h3 x0 x1 x2 x3 x4

) else (
some ((0 : Int32), h3)

)
) else none
set_option maxRecDepth 20000 in
set_option maxHeartbeats 4000000 in
theorem f_Lw_main_b1945_ok {l : Launch} {X : Nat × (Nat → Int32)} (hst : l.stackTraces = false) {d : Nat} (hd : 52 ≤ d)   {k23 : Hp → Nat → Nat → Nat → Nat → Int32 → Option (Int32 × Hp)} (hk23 : ∀ (h : Hp) (x0 : Nat) (x1 : Nat) (x2 : Nat) (x3 : Nat) (x4 : Int32)  (r : Int32 × Hp), k23 h x0 x1 x2 x3 x4 = some r → Rn l X mL_law_ d 23 [(0, .ref x0), (1, .ref x1), (2, .ref x2), (3, .ref x3), (4, .int x4)] [] h (eI r) r.2) {h : Hp} {x0 : Nat} {x1 : Nat} {x2 : Nat} {x3 : Nat} {x4 : Int32} {s0 : Int32} {s1 : Nat} {s2 : Int32} {r : Int32 × Hp} (E : f_Lw_main_b1945 X  k23 h x0 x1 x2 x3 x4 s0 s1 s2 = some r) : Rn l X mL_law_ d 1945 [(0, .ref x0), (1, .ref x1), (2, .ref x2), (3, .ref x3), (4, .int x4)] [.int s2, .ref s1, .int s0] h (eI r) r.2 := by
  unfold f_Lw_main_b1945 at E
  obtain ⟨g1, E⟩ := gd_of E
  obtain ⟨v2, h3, e4, E⟩ := bI_of E
  refine Rn.callV1 (pc' := 1948) (As := [.int s2]) (rest := [.int s0]) (f_Model_order_ok hst e4) (Nat.le_trans (by decide) hd) rfl kb_L_223 ki_X11_order rfl g1 rfl rfl (Nat.le_of_ble_eq_true rfl) dL_law__1945 rfl rfl ?_
  refine Rn.icmp_eq (pc' := 1951) (tgt := 2138) dL_law__1948 (by decide) rfl (fun c5 => ?_) (fun c5 => ?_)
  · replace E := (if_of E).1 c5
    exact f_Lw_main_b2138_ok hst hd  hk23 E
  · replace E := (if_of E).2 c5
    refine Rn.iconst (pc' := 1952) (v := (0 : Int32)) (hv := by decide) dL_law__1951 rfl ?_
    cases E
    exact Rn.zret rfl rfl dL_law__1952
theorem kb_L_219 : KB RL 219 yX10_order mX10_order 1 := ⟨gw_at 658 (by decide +kernel) (by decide +kernel), gw_at 107 (by decide +kernel) (by decide +kernel), trivial, ws_X10_order, by decide +kernel, by decide +kernel, by decide +kernel, by decide⟩
theorem ki_X10_order : Cond.instanceMethod yX10_order ∈ gw ∧ Cond.selects yX10_order.cls yX10_order yX10_order ∈ gw := ⟨gw_at 659 (by decide +kernel) (by decide +kernel), gw_at 660 (by decide +kernel) (by decide +kernel)⟩
def f_Lw_main_b1927 (X : Nat × (Nat → Int32))  (k23 : Hp → Nat → Nat → Nat → Nat → Int32 → Option (Int32 × Hp)) (h : Hp) (x0 : Nat) (x1 : Nat) (x2 : Nat) (x3 : Nat) (x4 : Int32) (s0 : Nat) (s1 : Int32) : Option (Int32 × Hp) :=
if hS h s0 = 10 then (
bI (f_Water_order h s0 s1) fun v2 h3 =>
if x0 = SCR then (
if ib (x4 + (1 : Int32)) X.1 = true then (
if (X.2 (ix (x4 + (1 : Int32)))) = 0 then (
f_Lw_main_b1945 X  k23 h3 x0 x1 x2 x3 x4 v2 x2 (0 : Int32)

) else (
f_Lw_main_b1945 X  k23 h3 x0 x1 x2 x3 x4 v2 x2 (1 : Int32)

)
) else none) else none) else none
set_option maxRecDepth 20000 in
set_option maxHeartbeats 4000000 in
theorem f_Lw_main_b1927_ok {l : Launch} {X : Nat × (Nat → Int32)} (hst : l.stackTraces = false) {d : Nat} (hd : 52 ≤ d)   {k23 : Hp → Nat → Nat → Nat → Nat → Int32 → Option (Int32 × Hp)} (hk23 : ∀ (h : Hp) (x0 : Nat) (x1 : Nat) (x2 : Nat) (x3 : Nat) (x4 : Int32)  (r : Int32 × Hp), k23 h x0 x1 x2 x3 x4 = some r → Rn l X mL_law_ d 23 [(0, .ref x0), (1, .ref x1), (2, .ref x2), (3, .ref x3), (4, .int x4)] [] h (eI r) r.2) {h : Hp} {x0 : Nat} {x1 : Nat} {x2 : Nat} {x3 : Nat} {x4 : Int32} {s0 : Nat} {s1 : Int32} {r : Int32 × Hp} (E : f_Lw_main_b1927 X  k23 h x0 x1 x2 x3 x4 s0 s1 = some r) : Rn l X mL_law_ d 1927 [(0, .ref x0), (1, .ref x1), (2, .ref x2), (3, .ref x3), (4, .int x4)] [.int s1, .ref s0] h (eI r) r.2 := by
  unfold f_Lw_main_b1927 at E
  obtain ⟨g1, E⟩ := gd_of E
  obtain ⟨v2, h3, e4, E⟩ := bI_of E
  refine Rn.callV1 (pc' := 1930) (As := [.int s1]) (rest := []) (f_Water_order_ok hst e4) (Nat.le_trans (by decide) hd) rfl kb_L_219 ki_X10_order rfl g1 rfl rfl (Nat.le_of_ble_eq_true rfl) dL_law__1927 rfl rfl ?_
  refine Rn.aload_n (pc' := 1931) dL_law__1930 rfl 2 rfl rfl ?_
  refine Rn.aload_n (pc' := 1932) dL_law__1931 rfl 0 rfl rfl ?_
  refine Rn.iload (pc' := 1934) dL_law__1932 4 rfl rfl ?_
  refine Rn.iconst (pc' := 1935) (v := (1 : Int32)) (hv := by decide) dL_law__1934 rfl ?_
  refine Rn.iadd (pc' := 1936) dL_law__1935 rfl ?_
  obtain ⟨g5, E⟩ := gd_of E
  obtain ⟨g6, E⟩ := gd_of E
  refine Rn.sldE (pc' := 1937) g5 g6 dL_law__1936 rfl ?_
  refine Rn.if_eq (pc' := 1940) (tgt := 1944) dL_law__1937 (by decide) rfl (fun c7 => ?_) (fun c7 => ?_)
  · replace E := (if_of E).1 c7
    refine Rn.iconst (pc' := 1945) (v := (0 : Int32)) (hv := by decide) dL_law__1944 rfl ?_
    exact f_Lw_main_b1945_ok hst hd  hk23 E
  · replace E := (if_of E).2 c7
    refine Rn.iconst (pc' := 1941) (v := (1 : Int32)) (hv := by decide) dL_law__1940 rfl ?_
    refine Rn.goto (pc' := 1945) dL_law__1941 (by decide) ?_
    exact f_Lw_main_b1945_ok hst hd  hk23 E
def f_Lw_main_b1909 (X : Nat × (Nat → Int32))  (k23 : Hp → Nat → Nat → Nat → Nat → Int32 → Option (Int32 × Hp)) (h : Hp) (x0 : Nat) (x1 : Nat) (x2 : Nat) (x3 : Nat) (x4 : Int32)  : Option (Int32 × Hp) :=
f_Lw_main_b2138 X  k23 h x0 x1 x2 x3 x4

set_option maxRecDepth 20000 in
set_option maxHeartbeats 4000000 in
theorem f_Lw_main_b1909_ok {l : Launch} {X : Nat × (Nat → Int32)} (hst : l.stackTraces = false) {d : Nat} (hd : 52 ≤ d)   {k23 : Hp → Nat → Nat → Nat → Nat → Int32 → Option (Int32 × Hp)} (hk23 : ∀ (h : Hp) (x0 : Nat) (x1 : Nat) (x2 : Nat) (x3 : Nat) (x4 : Int32)  (r : Int32 × Hp), k23 h x0 x1 x2 x3 x4 = some r → Rn l X mL_law_ d 23 [(0, .ref x0), (1, .ref x1), (2, .ref x2), (3, .ref x3), (4, .int x4)] [] h (eI r) r.2) {h : Hp} {x0 : Nat} {x1 : Nat} {x2 : Nat} {x3 : Nat} {x4 : Int32}  {r : Int32 × Hp} (E : f_Lw_main_b1909 X  k23 h x0 x1 x2 x3 x4 = some r) : Rn l X mL_law_ d 1909 [(0, .ref x0), (1, .ref x1), (2, .ref x2), (3, .ref x3), (4, .int x4)] [] h (eI r) r.2 := by
  unfold f_Lw_main_b1909 at E
  refine Rn.goto (pc' := 2138) dL_law__1909 (by decide) ?_
  exact f_Lw_main_b2138_ok hst hd  hk23 E
def f_Lw_main_b1829 (X : Nat × (Nat → Int32))  (k23 : Hp → Nat → Nat → Nat → Nat → Int32 → Option (Int32 × Hp)) (h : Hp) (x0 : Nat) (x1 : Nat) (x2 : Nat) (x3 : Nat) (x4 : Int32)  : Option (Int32 × Hp) :=
f_Lw_main_b2138 X  k23 h x0 x1 x2 x3 x4

set_option maxRecDepth 20000 in
set_option maxHeartbeats 4000000 in
theorem f_Lw_main_b1829_ok {l : Launch} {X : Nat × (Nat → Int32)} (hst : l.stackTraces = false) {d : Nat} (hd : 52 ≤ d)   {k23 : Hp → Nat → Nat → Nat → Nat → Int32 → Option (Int32 × Hp)} (hk23 : ∀ (h : Hp) (x0 : Nat) (x1 : Nat) (x2 : Nat) (x3 : Nat) (x4 : Int32)  (r : Int32 × Hp), k23 h x0 x1 x2 x3 x4 = some r → Rn l X mL_law_ d 23 [(0, .ref x0), (1, .ref x1), (2, .ref x2), (3, .ref x3), (4, .int x4)] [] h (eI r) r.2) {h : Hp} {x0 : Nat} {x1 : Nat} {x2 : Nat} {x3 : Nat} {x4 : Int32}  {r : Int32 × Hp} (E : f_Lw_main_b1829 X  k23 h x0 x1 x2 x3 x4 = some r) : Rn l X mL_law_ d 1829 [(0, .ref x0), (1, .ref x1), (2, .ref x2), (3, .ref x3), (4, .int x4)] [] h (eI r) r.2 := by
  unfold f_Lw_main_b1829 at E
  refine Rn.goto (pc' := 2138) dL_law__1829 (by decide) ?_
  exact f_Lw_main_b2138_ok hst hd  hk23 E
def f_Lw_main_b1773 (X : Nat × (Nat → Int32))  (k23 : Hp → Nat → Nat → Nat → Nat → Int32 → Option (Int32 × Hp)) (h : Hp) (x0 : Nat) (x1 : Nat) (x2 : Nat) (x3 : Nat) (x4 : Int32)  : Option (Int32 × Hp) :=
f_Lw_main_b2138 X  k23 h x0 x1 x2 x3 x4

set_option maxRecDepth 20000 in
set_option maxHeartbeats 4000000 in
theorem f_Lw_main_b1773_ok {l : Launch} {X : Nat × (Nat → Int32)} (hst : l.stackTraces = false) {d : Nat} (hd : 52 ≤ d)   {k23 : Hp → Nat → Nat → Nat → Nat → Int32 → Option (Int32 × Hp)} (hk23 : ∀ (h : Hp) (x0 : Nat) (x1 : Nat) (x2 : Nat) (x3 : Nat) (x4 : Int32)  (r : Int32 × Hp), k23 h x0 x1 x2 x3 x4 = some r → Rn l X mL_law_ d 23 [(0, .ref x0), (1, .ref x1), (2, .ref x2), (3, .ref x3), (4, .int x4)] [] h (eI r) r.2) {h : Hp} {x0 : Nat} {x1 : Nat} {x2 : Nat} {x3 : Nat} {x4 : Int32}  {r : Int32 × Hp} (E : f_Lw_main_b1773 X  k23 h x0 x1 x2 x3 x4 = some r) : Rn l X mL_law_ d 1773 [(0, .ref x0), (1, .ref x1), (2, .ref x2), (3, .ref x3), (4, .int x4)] [] h (eI r) r.2 := by
  unfold f_Lw_main_b1773 at E
  refine Rn.goto (pc' := 2138) dL_law__1773 (by decide) ?_
  exact f_Lw_main_b2138_ok hst hd  hk23 E
def f_Lw_main_b1717 (X : Nat × (Nat → Int32))  (k23 : Hp → Nat → Nat → Nat → Nat → Int32 → Option (Int32 × Hp)) (h : Hp) (x0 : Nat) (x1 : Nat) (x2 : Nat) (x3 : Nat) (x4 : Int32)  : Option (Int32 × Hp) :=
f_Lw_main_b2138 X  k23 h x0 x1 x2 x3 x4

set_option maxRecDepth 20000 in
set_option maxHeartbeats 4000000 in
theorem f_Lw_main_b1717_ok {l : Launch} {X : Nat × (Nat → Int32)} (hst : l.stackTraces = false) {d : Nat} (hd : 52 ≤ d)   {k23 : Hp → Nat → Nat → Nat → Nat → Int32 → Option (Int32 × Hp)} (hk23 : ∀ (h : Hp) (x0 : Nat) (x1 : Nat) (x2 : Nat) (x3 : Nat) (x4 : Int32)  (r : Int32 × Hp), k23 h x0 x1 x2 x3 x4 = some r → Rn l X mL_law_ d 23 [(0, .ref x0), (1, .ref x1), (2, .ref x2), (3, .ref x3), (4, .int x4)] [] h (eI r) r.2) {h : Hp} {x0 : Nat} {x1 : Nat} {x2 : Nat} {x3 : Nat} {x4 : Int32}  {r : Int32 × Hp} (E : f_Lw_main_b1717 X  k23 h x0 x1 x2 x3 x4 = some r) : Rn l X mL_law_ d 1717 [(0, .ref x0), (1, .ref x1), (2, .ref x2), (3, .ref x3), (4, .int x4)] [] h (eI r) r.2 := by
  unfold f_Lw_main_b1717 at E
  refine Rn.goto (pc' := 2138) dL_law__1717 (by decide) ?_
  exact f_Lw_main_b2138_ok hst hd  hk23 E
def f_Lw_main_b1637 (X : Nat × (Nat → Int32))  (k23 : Hp → Nat → Nat → Nat → Nat → Int32 → Option (Int32 × Hp)) (h : Hp) (x0 : Nat) (x1 : Nat) (x2 : Nat) (x3 : Nat) (x4 : Int32)  : Option (Int32 × Hp) :=
f_Lw_main_b2138 X  k23 h x0 x1 x2 x3 x4

set_option maxRecDepth 20000 in
set_option maxHeartbeats 4000000 in
theorem f_Lw_main_b1637_ok {l : Launch} {X : Nat × (Nat → Int32)} (hst : l.stackTraces = false) {d : Nat} (hd : 52 ≤ d)   {k23 : Hp → Nat → Nat → Nat → Nat → Int32 → Option (Int32 × Hp)} (hk23 : ∀ (h : Hp) (x0 : Nat) (x1 : Nat) (x2 : Nat) (x3 : Nat) (x4 : Int32)  (r : Int32 × Hp), k23 h x0 x1 x2 x3 x4 = some r → Rn l X mL_law_ d 23 [(0, .ref x0), (1, .ref x1), (2, .ref x2), (3, .ref x3), (4, .int x4)] [] h (eI r) r.2) {h : Hp} {x0 : Nat} {x1 : Nat} {x2 : Nat} {x3 : Nat} {x4 : Int32}  {r : Int32 × Hp} (E : f_Lw_main_b1637 X  k23 h x0 x1 x2 x3 x4 = some r) : Rn l X mL_law_ d 1637 [(0, .ref x0), (1, .ref x1), (2, .ref x2), (3, .ref x3), (4, .int x4)] [] h (eI r) r.2 := by
  unfold f_Lw_main_b1637 at E
  refine Rn.goto (pc' := 2138) dL_law__1637 (by decide) ?_
  exact f_Lw_main_b2138_ok hst hd  hk23 E
def f_Lw_main_b1569 (X : Nat × (Nat → Int32))  (k23 : Hp → Nat → Nat → Nat → Nat → Int32 → Option (Int32 × Hp)) (h : Hp) (x0 : Nat) (x1 : Nat) (x2 : Nat) (x3 : Nat) (x4 : Int32)  : Option (Int32 × Hp) :=
f_Lw_main_b2138 X  k23 h x0 x1 x2 x3 x4

set_option maxRecDepth 20000 in
set_option maxHeartbeats 4000000 in
theorem f_Lw_main_b1569_ok {l : Launch} {X : Nat × (Nat → Int32)} (hst : l.stackTraces = false) {d : Nat} (hd : 52 ≤ d)   {k23 : Hp → Nat → Nat → Nat → Nat → Int32 → Option (Int32 × Hp)} (hk23 : ∀ (h : Hp) (x0 : Nat) (x1 : Nat) (x2 : Nat) (x3 : Nat) (x4 : Int32)  (r : Int32 × Hp), k23 h x0 x1 x2 x3 x4 = some r → Rn l X mL_law_ d 23 [(0, .ref x0), (1, .ref x1), (2, .ref x2), (3, .ref x3), (4, .int x4)] [] h (eI r) r.2) {h : Hp} {x0 : Nat} {x1 : Nat} {x2 : Nat} {x3 : Nat} {x4 : Int32}  {r : Int32 × Hp} (E : f_Lw_main_b1569 X  k23 h x0 x1 x2 x3 x4 = some r) : Rn l X mL_law_ d 1569 [(0, .ref x0), (1, .ref x1), (2, .ref x2), (3, .ref x3), (4, .int x4)] [] h (eI r) r.2 := by
  unfold f_Lw_main_b1569 at E
  refine Rn.goto (pc' := 2138) dL_law__1569 (by decide) ?_
  exact f_Lw_main_b2138_ok hst hd  hk23 E
def f_Lw_main_b1513 (X : Nat × (Nat → Int32))  (k23 : Hp → Nat → Nat → Nat → Nat → Int32 → Option (Int32 × Hp)) (h : Hp) (x0 : Nat) (x1 : Nat) (x2 : Nat) (x3 : Nat) (x4 : Int32)  : Option (Int32 × Hp) :=
f_Lw_main_b2138 X  k23 h x0 x1 x2 x3 x4

set_option maxRecDepth 20000 in
set_option maxHeartbeats 4000000 in
theorem f_Lw_main_b1513_ok {l : Launch} {X : Nat × (Nat → Int32)} (hst : l.stackTraces = false) {d : Nat} (hd : 52 ≤ d)   {k23 : Hp → Nat → Nat → Nat → Nat → Int32 → Option (Int32 × Hp)} (hk23 : ∀ (h : Hp) (x0 : Nat) (x1 : Nat) (x2 : Nat) (x3 : Nat) (x4 : Int32)  (r : Int32 × Hp), k23 h x0 x1 x2 x3 x4 = some r → Rn l X mL_law_ d 23 [(0, .ref x0), (1, .ref x1), (2, .ref x2), (3, .ref x3), (4, .int x4)] [] h (eI r) r.2) {h : Hp} {x0 : Nat} {x1 : Nat} {x2 : Nat} {x3 : Nat} {x4 : Int32}  {r : Int32 × Hp} (E : f_Lw_main_b1513 X  k23 h x0 x1 x2 x3 x4 = some r) : Rn l X mL_law_ d 1513 [(0, .ref x0), (1, .ref x1), (2, .ref x2), (3, .ref x3), (4, .int x4)] [] h (eI r) r.2 := by
  unfold f_Lw_main_b1513 at E
  refine Rn.goto (pc' := 2138) dL_law__1513 (by decide) ?_
  exact f_Lw_main_b2138_ok hst hd  hk23 E
def f_Lw_main_b1419 (X : Nat × (Nat → Int32))  (k23 : Hp → Nat → Nat → Nat → Nat → Int32 → Option (Int32 × Hp)) (h : Hp) (x0 : Nat) (x1 : Nat) (x2 : Nat) (x3 : Nat) (x4 : Int32)  : Option (Int32 × Hp) :=
f_Lw_main_b2138 X  k23 h x0 x1 x2 x3 x4

set_option maxRecDepth 20000 in
set_option maxHeartbeats 4000000 in
theorem f_Lw_main_b1419_ok {l : Launch} {X : Nat × (Nat → Int32)} (hst : l.stackTraces = false) {d : Nat} (hd : 52 ≤ d)   {k23 : Hp → Nat → Nat → Nat → Nat → Int32 → Option (Int32 × Hp)} (hk23 : ∀ (h : Hp) (x0 : Nat) (x1 : Nat) (x2 : Nat) (x3 : Nat) (x4 : Int32)  (r : Int32 × Hp), k23 h x0 x1 x2 x3 x4 = some r → Rn l X mL_law_ d 23 [(0, .ref x0), (1, .ref x1), (2, .ref x2), (3, .ref x3), (4, .int x4)] [] h (eI r) r.2) {h : Hp} {x0 : Nat} {x1 : Nat} {x2 : Nat} {x3 : Nat} {x4 : Int32}  {r : Int32 × Hp} (E : f_Lw_main_b1419 X  k23 h x0 x1 x2 x3 x4 = some r) : Rn l X mL_law_ d 1419 [(0, .ref x0), (1, .ref x1), (2, .ref x2), (3, .ref x3), (4, .int x4)] [] h (eI r) r.2 := by
  unfold f_Lw_main_b1419 at E
  refine Rn.goto (pc' := 2138) dL_law__1419 (by decide) ?_
  exact f_Lw_main_b2138_ok hst hd  hk23 E
def f_Lw_main_b1315 (X : Nat × (Nat → Int32))  (k23 : Hp → Nat → Nat → Nat → Nat → Int32 → Option (Int32 × Hp)) (h : Hp) (x0 : Nat) (x1 : Nat) (x2 : Nat) (x3 : Nat) (x4 : Int32)  : Option (Int32 × Hp) :=
f_Lw_main_b2138 X  k23 h x0 x1 x2 x3 x4

set_option maxRecDepth 20000 in
set_option maxHeartbeats 4000000 in
theorem f_Lw_main_b1315_ok {l : Launch} {X : Nat × (Nat → Int32)} (hst : l.stackTraces = false) {d : Nat} (hd : 52 ≤ d)   {k23 : Hp → Nat → Nat → Nat → Nat → Int32 → Option (Int32 × Hp)} (hk23 : ∀ (h : Hp) (x0 : Nat) (x1 : Nat) (x2 : Nat) (x3 : Nat) (x4 : Int32)  (r : Int32 × Hp), k23 h x0 x1 x2 x3 x4 = some r → Rn l X mL_law_ d 23 [(0, .ref x0), (1, .ref x1), (2, .ref x2), (3, .ref x3), (4, .int x4)] [] h (eI r) r.2) {h : Hp} {x0 : Nat} {x1 : Nat} {x2 : Nat} {x3 : Nat} {x4 : Int32}  {r : Int32 × Hp} (E : f_Lw_main_b1315 X  k23 h x0 x1 x2 x3 x4 = some r) : Rn l X mL_law_ d 1315 [(0, .ref x0), (1, .ref x1), (2, .ref x2), (3, .ref x3), (4, .int x4)] [] h (eI r) r.2 := by
  unfold f_Lw_main_b1315 at E
  refine Rn.goto (pc' := 2138) dL_law__1315 (by decide) ?_
  exact f_Lw_main_b2138_ok hst hd  hk23 E
def f_Lw_main_b1245 (X : Nat × (Nat → Int32))  (k23 : Hp → Nat → Nat → Nat → Nat → Int32 → Option (Int32 × Hp)) (h : Hp) (x0 : Nat) (x1 : Nat) (x2 : Nat) (x3 : Nat) (x4 : Int32)  : Option (Int32 × Hp) :=
f_Lw_main_b2138 X  k23 h x0 x1 x2 x3 x4

set_option maxRecDepth 20000 in
set_option maxHeartbeats 4000000 in
theorem f_Lw_main_b1245_ok {l : Launch} {X : Nat × (Nat → Int32)} (hst : l.stackTraces = false) {d : Nat} (hd : 52 ≤ d)   {k23 : Hp → Nat → Nat → Nat → Nat → Int32 → Option (Int32 × Hp)} (hk23 : ∀ (h : Hp) (x0 : Nat) (x1 : Nat) (x2 : Nat) (x3 : Nat) (x4 : Int32)  (r : Int32 × Hp), k23 h x0 x1 x2 x3 x4 = some r → Rn l X mL_law_ d 23 [(0, .ref x0), (1, .ref x1), (2, .ref x2), (3, .ref x3), (4, .int x4)] [] h (eI r) r.2) {h : Hp} {x0 : Nat} {x1 : Nat} {x2 : Nat} {x3 : Nat} {x4 : Int32}  {r : Int32 × Hp} (E : f_Lw_main_b1245 X  k23 h x0 x1 x2 x3 x4 = some r) : Rn l X mL_law_ d 1245 [(0, .ref x0), (1, .ref x1), (2, .ref x2), (3, .ref x3), (4, .int x4)] [] h (eI r) r.2 := by
  unfold f_Lw_main_b1245 at E
  refine Rn.goto (pc' := 2138) dL_law__1245 (by decide) ?_
  exact f_Lw_main_b2138_ok hst hd  hk23 E
def f_Lw_main_b1140 (X : Nat × (Nat → Int32))  (k23 : Hp → Nat → Nat → Nat → Nat → Int32 → Option (Int32 × Hp)) (h : Hp) (x0 : Nat) (x1 : Nat) (x2 : Nat) (x3 : Nat) (x4 : Int32)  : Option (Int32 × Hp) :=
f_Lw_main_b2138 X  k23 h x0 x1 x2 x3 x4

set_option maxRecDepth 20000 in
set_option maxHeartbeats 4000000 in
theorem f_Lw_main_b1140_ok {l : Launch} {X : Nat × (Nat → Int32)} (hst : l.stackTraces = false) {d : Nat} (hd : 52 ≤ d)   {k23 : Hp → Nat → Nat → Nat → Nat → Int32 → Option (Int32 × Hp)} (hk23 : ∀ (h : Hp) (x0 : Nat) (x1 : Nat) (x2 : Nat) (x3 : Nat) (x4 : Int32)  (r : Int32 × Hp), k23 h x0 x1 x2 x3 x4 = some r → Rn l X mL_law_ d 23 [(0, .ref x0), (1, .ref x1), (2, .ref x2), (3, .ref x3), (4, .int x4)] [] h (eI r) r.2) {h : Hp} {x0 : Nat} {x1 : Nat} {x2 : Nat} {x3 : Nat} {x4 : Int32}  {r : Int32 × Hp} (E : f_Lw_main_b1140 X  k23 h x0 x1 x2 x3 x4 = some r) : Rn l X mL_law_ d 1140 [(0, .ref x0), (1, .ref x1), (2, .ref x2), (3, .ref x3), (4, .int x4)] [] h (eI r) r.2 := by
  unfold f_Lw_main_b1140 at E
  refine Rn.goto (pc' := 2138) dL_law__1140 (by decide) ?_
  exact f_Lw_main_b2138_ok hst hd  hk23 E
def f_Lw_main_b1134 (X : Nat × (Nat → Int32))  (k23 : Hp → Nat → Nat → Nat → Nat → Int32 → Option (Int32 × Hp)) (h : Hp) (x0 : Nat) (x1 : Nat) (x2 : Nat) (x3 : Nat) (x4 : Int32) (s0 : Int64) (s1 : Int64) : Option (Int32 × Hp) :=
if (lg_cmp s0 s1) = 0 then (
f_Lw_main_b1140 X  k23 h x0 x1 x2 x3 x4

) else (
some ((0 : Int32), h)

)

set_option maxRecDepth 20000 in
set_option maxHeartbeats 4000000 in
theorem f_Lw_main_b1134_ok {l : Launch} {X : Nat × (Nat → Int32)} (hst : l.stackTraces = false) {d : Nat} (hd : 52 ≤ d)   {k23 : Hp → Nat → Nat → Nat → Nat → Int32 → Option (Int32 × Hp)} (hk23 : ∀ (h : Hp) (x0 : Nat) (x1 : Nat) (x2 : Nat) (x3 : Nat) (x4 : Int32)  (r : Int32 × Hp), k23 h x0 x1 x2 x3 x4 = some r → Rn l X mL_law_ d 23 [(0, .ref x0), (1, .ref x1), (2, .ref x2), (3, .ref x3), (4, .int x4)] [] h (eI r) r.2) {h : Hp} {x0 : Nat} {x1 : Nat} {x2 : Nat} {x3 : Nat} {x4 : Int32} {s0 : Int64} {s1 : Int64} {r : Int32 × Hp} (E : f_Lw_main_b1134 X  k23 h x0 x1 x2 x3 x4 s0 s1 = some r) : Rn l X mL_law_ d 1134 [(0, .ref x0), (1, .ref x1), (2, .ref x2), (3, .ref x3), (4, .int x4)] [.long s1, .long s0] h (eI r) r.2 := by
  unfold f_Lw_main_b1134 at E
  refine Rn.lcmp (pc' := 1135) dL_law__1134 rfl ?_
  refine Rn.if_eq (pc' := 1138) (tgt := 1140) dL_law__1135 (by decide) rfl (fun c1 => ?_) (fun c1 => ?_)
  · replace E := (if_of E).1 c1
    exact f_Lw_main_b1140_ok hst hd  hk23 E
  · replace E := (if_of E).2 c1
    refine Rn.iconst (pc' := 1139) (v := (0 : Int32)) (hv := by decide) dL_law__1138 rfl ?_
    cases E
    exact Rn.zret rfl rfl dL_law__1139
theorem kb_L_166 : KB RL 166 yX11_seal mX11_seal 2 := ⟨gw_at 1825 (by decide +kernel) (by decide +kernel), gw_at 117 (by decide +kernel) (by decide +kernel), trivial, ws_X11_seal, by decide +kernel, by decide +kernel, by decide +kernel, by decide⟩
theorem ki_X11_seal : Cond.instanceMethod yX11_seal ∈ gw ∧ Cond.selects yX11_seal.cls yX11_seal yX11_seal ∈ gw := ⟨gw_at 1826 (by decide +kernel) (by decide +kernel), gw_at 1827 (by decide +kernel) (by decide +kernel)⟩
theorem kb_L_117 : KB RL 117 yX11_thrown mX11_thrown 0 := ⟨gw_at 1416 (by decide +kernel) (by decide +kernel), gw_at 117 (by decide +kernel) (by decide +kernel), trivial, ws_X11_thrown, by decide +kernel, by decide +kernel, by decide +kernel, by decide⟩
theorem ki_X11_thrown : Cond.instanceMethod yX11_thrown ∈ gw ∧ Cond.selects yX11_thrown.cls yX11_thrown yX11_thrown ∈ gw := ⟨gw_at 1417 (by decide +kernel) (by decide +kernel), gw_at 1418 (by decide +kernel) (by decide +kernel)⟩
def f_Lw_main_b1100 (X : Nat × (Nat → Int32))  (k23 : Hp → Nat → Nat → Nat → Nat → Int32 → Option (Int32 × Hp)) (h : Hp) (x0 : Nat) (x1 : Nat) (x2 : Nat) (x3 : Nat) (x4 : Int32) (x5 : Int32) (s0 : Nat) (s1 : Int32) (s2 : Int32) : Option (Int32 × Hp) :=
if hS h s0 = 11 then (
bI (f_Model_seal h s0 s1 s2) fun v2 h3 =>
if hS h3 x2 = 11 then (
bI (f_Model_thrown h3 x2) fun v6 h7 =>
if v6 = x5 then (
if x5 = 0 then (
if hS h7 x3 = 22 then (
if ib (0 : Int32) (hL h7 x3) = true then (
if v2 = 0 then (
f_Lw_main_b1134 X  k23 h7 x0 x1 x2 x3 x4 (hJ h7 x3 (ix (0 : Int32))) (0 : Int64)

) else (
f_Lw_main_b1134 X  k23 h7 x0 x1 x2 x3 x4 (hJ h7 x3 (ix (0 : Int32))) (1 : Int64)

)
) else none) else none
) else (
f_Lw_main_b1140 X  k23 h7 x0 x1 x2 x3 x4

)

) else (
some ((0 : Int32), h7)

)
) else none) else none
set_option maxRecDepth 20000 in
set_option maxHeartbeats 4000000 in
theorem f_Lw_main_b1100_ok {l : Launch} {X : Nat × (Nat → Int32)} (hst : l.stackTraces = false) {d : Nat} (hd : 52 ≤ d)   {k23 : Hp → Nat → Nat → Nat → Nat → Int32 → Option (Int32 × Hp)} (hk23 : ∀ (h : Hp) (x0 : Nat) (x1 : Nat) (x2 : Nat) (x3 : Nat) (x4 : Int32)  (r : Int32 × Hp), k23 h x0 x1 x2 x3 x4 = some r → Rn l X mL_law_ d 23 [(0, .ref x0), (1, .ref x1), (2, .ref x2), (3, .ref x3), (4, .int x4)] [] h (eI r) r.2) {h : Hp} {x0 : Nat} {x1 : Nat} {x2 : Nat} {x3 : Nat} {x4 : Int32} {x5 : Int32} {s0 : Nat} {s1 : Int32} {s2 : Int32} {r : Int32 × Hp} (E : f_Lw_main_b1100 X  k23 h x0 x1 x2 x3 x4 x5 s0 s1 s2 = some r) : Rn l X mL_law_ d 1100 [(0, .ref x0), (1, .ref x1), (2, .ref x2), (3, .ref x3), (4, .int x4), (5, .int x5)] [.int s2, .int s1, .ref s0] h (eI r) r.2 := by
  unfold f_Lw_main_b1100 at E
  obtain ⟨g1, E⟩ := gd_of E
  obtain ⟨v2, h3, e4, E⟩ := bI_of E
  refine Rn.callV1 (pc' := 1103) (As := [.int s1, .int s2]) (rest := []) (f_Model_seal_ok hst e4) (Nat.le_trans (by decide) hd) rfl kb_L_166 ki_X11_seal rfl g1 rfl rfl (Nat.le_of_ble_eq_true rfl) dL_law__1100 rfl rfl ?_
  refine Rn.istore (pc' := 1105) (L' := [(6, .int v2), (0, .ref x0), (1, .ref x1), (2, .ref x2), (3, .ref x3), (4, .int x4), (5, .int x5)]) dL_law__1103 (by decide) rfl rfl ?_
  refine Rn.aload_n (pc' := 1106) dL_law__1105 rfl 3 rfl rfl ?_
  obtain ⟨g5, E⟩ := gd_of E
  obtain ⟨v6, h7, e8, E⟩ := bI_of E
  refine Rn.callV1 (pc' := 1109) (As := []) (rest := []) (f_Model_thrown_ok hst e8) (Nat.le_trans (by decide) hd) rfl kb_L_117 ki_X11_thrown rfl g5 rfl rfl (Nat.le_of_ble_eq_true rfl) dL_law__1106 rfl rfl ?_
  refine Rn.iload (pc' := 1111) dL_law__1109 6 rfl rfl ?_
  refine Rn.icmp_eq (pc' := 1114) (tgt := 1116) dL_law__1111 (by decide) rfl (fun c9 => ?_) (fun c9 => ?_)
  · replace E := (if_of E).1 c9
    refine Rn.iload (pc' := 1118) dL_law__1116 6 rfl rfl ?_
    refine Rn.if_ne (pc' := 1121) (tgt := 1140) dL_law__1118 (by decide) rfl (fun c10 => ?_) (fun c10 => ?_)
    · replace E := (if_of E).2 c10
      refine Rn.sub [1, 2, 3, 4, 5] rfl ?_
      exact f_Lw_main_b1140_ok hst hd  hk23 E
    · replace E := (if_of E).1 c10
      refine Rn.aload_n (pc' := 1122) dL_law__1121 rfl 4 rfl rfl ?_
      refine Rn.iconst (pc' := 1123) (v := (0 : Int32)) (hv := by decide) dL_law__1122 rfl ?_
      obtain ⟨g11, E⟩ := gd_of E
      obtain ⟨g12, E⟩ := gd_of E
      refine Rn.lald (pc' := 1124) g11 g12 dL_law__1123 rfl ?_
      refine Rn.iload (pc' := 1126) dL_law__1124 0 rfl rfl ?_
      refine Rn.if_eq (pc' := 1129) (tgt := 1133) dL_law__1126 (by decide) rfl (fun c13 => ?_) (fun c13 => ?_)
      · replace E := (if_of E).1 c13
        refine Rn.lconst (pc' := 1134) (v := (0 : Int64)) (hv := by decide) dL_law__1133 rfl ?_
        refine Rn.sub [1, 2, 3, 4, 5] rfl ?_
        exact f_Lw_main_b1134_ok hst hd  hk23 E
      · replace E := (if_of E).2 c13
        refine Rn.lconst (pc' := 1130) (v := (1 : Int64)) (hv := by decide) dL_law__1129 rfl ?_
        refine Rn.goto (pc' := 1134) dL_law__1130 (by decide) ?_
        refine Rn.sub [1, 2, 3, 4, 5] rfl ?_
        exact f_Lw_main_b1134_ok hst hd  hk23 E
  · replace E := (if_of E).2 c9
    refine Rn.iconst (pc' := 1115) (v := (0 : Int32)) (hv := by decide) dL_law__1114 rfl ?_
    cases E
    exact Rn.zret rfl rfl dL_law__1115
theorem kb_L_163 : KB RL 163 yL_seal mL_seal 4 := ⟨gw_at 1254 (by decide +kernel) (by decide +kernel), gw_at 106 (by decide +kernel) (by decide +kernel), trivial, ws_L_seal, by decide +kernel, by decide +kernel, by decide +kernel, by decide⟩
theorem ks_L_seal : Cond.static yL_seal ∈ gw := gw_at 1255 (by decide +kernel) (by decide +kernel)
def f_Lw_main_b1073 (X : Nat × (Nat → Int32))  (k23 : Hp → Nat → Nat → Nat → Nat → Int32 → Option (Int32 × Hp)) (h : Hp) (x0 : Nat) (x1 : Nat) (x2 : Nat) (x3 : Nat) (x4 : Int32) (s0 : Nat) (s1 : Int32) (s2 : Int32) : Option (Int32 × Hp) :=
bI (f_Lw_seal h s0 s1 s2 x3) fun v1 h2 =>
if x0 = SCR then (
if ib (x4 + (1 : Int32)) X.1 = true then (
if x0 = SCR then (
if ib (x4 + (2 : Int32)) X.1 = true then (
if (X.2 (ix (x4 + (2 : Int32)))) = 0 then (
f_Lw_main_b1100 X  k23 h2 x0 x1 x2 x3 x4 v1 x2 (X.2 (ix (x4 + (1 : Int32)))) (0 : Int32)

) else (
f_Lw_main_b1100 X  k23 h2 x0 x1 x2 x3 x4 v1 x2 (X.2 (ix (x4 + (1 : Int32)))) (1 : Int32)

)
) else none) else none) else none) else none
set_option maxRecDepth 20000 in
set_option maxHeartbeats 4000000 in
theorem f_Lw_main_b1073_ok {l : Launch} {X : Nat × (Nat → Int32)} (hst : l.stackTraces = false) {d : Nat} (hd : 52 ≤ d)   {k23 : Hp → Nat → Nat → Nat → Nat → Int32 → Option (Int32 × Hp)} (hk23 : ∀ (h : Hp) (x0 : Nat) (x1 : Nat) (x2 : Nat) (x3 : Nat) (x4 : Int32)  (r : Int32 × Hp), k23 h x0 x1 x2 x3 x4 = some r → Rn l X mL_law_ d 23 [(0, .ref x0), (1, .ref x1), (2, .ref x2), (3, .ref x3), (4, .int x4)] [] h (eI r) r.2) {h : Hp} {x0 : Nat} {x1 : Nat} {x2 : Nat} {x3 : Nat} {x4 : Int32} {s0 : Nat} {s1 : Int32} {s2 : Int32} {r : Int32 × Hp} (E : f_Lw_main_b1073 X  k23 h x0 x1 x2 x3 x4 s0 s1 s2 = some r) : Rn l X mL_law_ d 1073 [(0, .ref x0), (1, .ref x1), (2, .ref x2), (3, .ref x3), (4, .int x4)] [.int s2, .int s1, .ref s0] h (eI r) r.2 := by
  unfold f_Lw_main_b1073 at E
  refine Rn.aload_n (pc' := 1074) dL_law__1073 rfl 3 rfl rfl ?_
  obtain ⟨v1, h2, e3, E⟩ := bI_of E
  refine Rn.callSX1 (pc' := 1077) (As := [.ref s0, .int s1, .int s2, .ref x3]) (rest := []) (f_Lw_seal_ok hst e3) (Nat.le_trans (by decide) hd) rfl kb_L_163 ks_L_seal rfl rfl (Nat.le_of_ble_eq_true rfl) dL_law__1074 rfl rfl ?_
  refine Rn.istore (pc' := 1079) (L' := [(5, .int v1), (0, .ref x0), (1, .ref x1), (2, .ref x2), (3, .ref x3), (4, .int x4)]) dL_law__1077 (by decide) rfl rfl ?_
  refine Rn.aload_n (pc' := 1080) dL_law__1079 rfl 3 rfl rfl ?_
  refine Rn.aload_n (pc' := 1081) dL_law__1080 rfl 1 rfl rfl ?_
  refine Rn.iload (pc' := 1083) dL_law__1081 5 rfl rfl ?_
  refine Rn.iconst (pc' := 1084) (v := (1 : Int32)) (hv := by decide) dL_law__1083 rfl ?_
  refine Rn.iadd (pc' := 1085) dL_law__1084 rfl ?_
  obtain ⟨g4, E⟩ := gd_of E
  obtain ⟨g5, E⟩ := gd_of E
  refine Rn.sldE (pc' := 1086) g4 g5 dL_law__1085 rfl ?_
  refine Rn.aload_n (pc' := 1087) dL_law__1086 rfl 1 rfl rfl ?_
  refine Rn.iload (pc' := 1089) dL_law__1087 5 rfl rfl ?_
  refine Rn.iconst (pc' := 1090) (v := (2 : Int32)) (hv := by decide) dL_law__1089 rfl ?_
  refine Rn.iadd (pc' := 1091) dL_law__1090 rfl ?_
  obtain ⟨g6, E⟩ := gd_of E
  obtain ⟨g7, E⟩ := gd_of E
  refine Rn.sldE (pc' := 1092) g6 g7 dL_law__1091 rfl ?_
  refine Rn.if_eq (pc' := 1095) (tgt := 1099) dL_law__1092 (by decide) rfl (fun c8 => ?_) (fun c8 => ?_)
  · replace E := (if_of E).1 c8
    refine Rn.iconst (pc' := 1100) (v := (0 : Int32)) (hv := by decide) dL_law__1099 rfl ?_
    refine Rn.sub [1, 2, 3, 4, 5, 0] rfl ?_
    exact f_Lw_main_b1100_ok hst hd  hk23 E
  · replace E := (if_of E).2 c8
    refine Rn.iconst (pc' := 1096) (v := (1 : Int32)) (hv := by decide) dL_law__1095 rfl ?_
    refine Rn.goto (pc' := 1100) dL_law__1096 (by decide) ?_
    refine Rn.sub [1, 2, 3, 4, 5, 0] rfl ?_
    exact f_Lw_main_b1100_ok hst hd  hk23 E
def f_Lw_main_b1049 (X : Nat × (Nat → Int32))  (k23 : Hp → Nat → Nat → Nat → Nat → Int32 → Option (Int32 × Hp)) (h : Hp) (x0 : Nat) (x1 : Nat) (x2 : Nat) (x3 : Nat) (x4 : Int32)  : Option (Int32 × Hp) :=
f_Lw_main_b2138 X  k23 h x0 x1 x2 x3 x4

set_option maxRecDepth 20000 in
set_option maxHeartbeats 4000000 in
theorem f_Lw_main_b1049_ok {l : Launch} {X : Nat × (Nat → Int32)} (hst : l.stackTraces = false) {d : Nat} (hd : 52 ≤ d)   {k23 : Hp → Nat → Nat → Nat → Nat → Int32 → Option (Int32 × Hp)} (hk23 : ∀ (h : Hp) (x0 : Nat) (x1 : Nat) (x2 : Nat) (x3 : Nat) (x4 : Int32)  (r : Int32 × Hp), k23 h x0 x1 x2 x3 x4 = some r → Rn l X mL_law_ d 23 [(0, .ref x0), (1, .ref x1), (2, .ref x2), (3, .ref x3), (4, .int x4)] [] h (eI r) r.2) {h : Hp} {x0 : Nat} {x1 : Nat} {x2 : Nat} {x3 : Nat} {x4 : Int32}  {r : Int32 × Hp} (E : f_Lw_main_b1049 X  k23 h x0 x1 x2 x3 x4 = some r) : Rn l X mL_law_ d 1049 [(0, .ref x0), (1, .ref x1), (2, .ref x2), (3, .ref x3), (4, .int x4)] [] h (eI r) r.2 := by
  unfold f_Lw_main_b1049 at E
  refine Rn.goto (pc' := 2138) dL_law__1049 (by decide) ?_
  exact f_Lw_main_b2138_ok hst hd  hk23 E
def f_Lw_main_b993 (X : Nat × (Nat → Int32))  (k23 : Hp → Nat → Nat → Nat → Nat → Int32 → Option (Int32 × Hp)) (h : Hp) (x0 : Nat) (x1 : Nat) (x2 : Nat) (x3 : Nat) (x4 : Int32)  : Option (Int32 × Hp) :=
f_Lw_main_b2138 X  k23 h x0 x1 x2 x3 x4

set_option maxRecDepth 20000 in
set_option maxHeartbeats 4000000 in
theorem f_Lw_main_b993_ok {l : Launch} {X : Nat × (Nat → Int32)} (hst : l.stackTraces = false) {d : Nat} (hd : 52 ≤ d)   {k23 : Hp → Nat → Nat → Nat → Nat → Int32 → Option (Int32 × Hp)} (hk23 : ∀ (h : Hp) (x0 : Nat) (x1 : Nat) (x2 : Nat) (x3 : Nat) (x4 : Int32)  (r : Int32 × Hp), k23 h x0 x1 x2 x3 x4 = some r → Rn l X mL_law_ d 23 [(0, .ref x0), (1, .ref x1), (2, .ref x2), (3, .ref x3), (4, .int x4)] [] h (eI r) r.2) {h : Hp} {x0 : Nat} {x1 : Nat} {x2 : Nat} {x3 : Nat} {x4 : Int32}  {r : Int32 × Hp} (E : f_Lw_main_b993 X  k23 h x0 x1 x2 x3 x4 = some r) : Rn l X mL_law_ d 993 [(0, .ref x0), (1, .ref x1), (2, .ref x2), (3, .ref x3), (4, .int x4)] [] h (eI r) r.2 := by
  unfold f_Lw_main_b993 at E
  refine Rn.goto (pc' := 2138) dL_law__993 (by decide) ?_
  exact f_Lw_main_b2138_ok hst hd  hk23 E
def f_Lw_main_b912 (X : Nat × (Nat → Int32))  (k23 : Hp → Nat → Nat → Nat → Nat → Int32 → Option (Int32 × Hp)) (h : Hp) (x0 : Nat) (x1 : Nat) (x2 : Nat) (x3 : Nat) (x4 : Int32)  : Option (Int32 × Hp) :=
f_Lw_main_b2138 X  k23 h x0 x1 x2 x3 x4

set_option maxRecDepth 20000 in
set_option maxHeartbeats 4000000 in
theorem f_Lw_main_b912_ok {l : Launch} {X : Nat × (Nat → Int32)} (hst : l.stackTraces = false) {d : Nat} (hd : 52 ≤ d)   {k23 : Hp → Nat → Nat → Nat → Nat → Int32 → Option (Int32 × Hp)} (hk23 : ∀ (h : Hp) (x0 : Nat) (x1 : Nat) (x2 : Nat) (x3 : Nat) (x4 : Int32)  (r : Int32 × Hp), k23 h x0 x1 x2 x3 x4 = some r → Rn l X mL_law_ d 23 [(0, .ref x0), (1, .ref x1), (2, .ref x2), (3, .ref x3), (4, .int x4)] [] h (eI r) r.2) {h : Hp} {x0 : Nat} {x1 : Nat} {x2 : Nat} {x3 : Nat} {x4 : Int32}  {r : Int32 × Hp} (E : f_Lw_main_b912 X  k23 h x0 x1 x2 x3 x4 = some r) : Rn l X mL_law_ d 912 [(0, .ref x0), (1, .ref x1), (2, .ref x2), (3, .ref x3), (4, .int x4)] [] h (eI r) r.2 := by
  unfold f_Lw_main_b912 at E
  refine Rn.goto (pc' := 2138) dL_law__912 (by decide) ?_
  exact f_Lw_main_b2138_ok hst hd  hk23 E
def f_Lw_main_b856 (X : Nat × (Nat → Int32))  (k23 : Hp → Nat → Nat → Nat → Nat → Int32 → Option (Int32 × Hp)) (h : Hp) (x0 : Nat) (x1 : Nat) (x2 : Nat) (x3 : Nat) (x4 : Int32)  : Option (Int32 × Hp) :=
f_Lw_main_b2138 X  k23 h x0 x1 x2 x3 x4

set_option maxRecDepth 20000 in
set_option maxHeartbeats 4000000 in
theorem f_Lw_main_b856_ok {l : Launch} {X : Nat × (Nat → Int32)} (hst : l.stackTraces = false) {d : Nat} (hd : 52 ≤ d)   {k23 : Hp → Nat → Nat → Nat → Nat → Int32 → Option (Int32 × Hp)} (hk23 : ∀ (h : Hp) (x0 : Nat) (x1 : Nat) (x2 : Nat) (x3 : Nat) (x4 : Int32)  (r : Int32 × Hp), k23 h x0 x1 x2 x3 x4 = some r → Rn l X mL_law_ d 23 [(0, .ref x0), (1, .ref x1), (2, .ref x2), (3, .ref x3), (4, .int x4)] [] h (eI r) r.2) {h : Hp} {x0 : Nat} {x1 : Nat} {x2 : Nat} {x3 : Nat} {x4 : Int32}  {r : Int32 × Hp} (E : f_Lw_main_b856 X  k23 h x0 x1 x2 x3 x4 = some r) : Rn l X mL_law_ d 856 [(0, .ref x0), (1, .ref x1), (2, .ref x2), (3, .ref x3), (4, .int x4)] [] h (eI r) r.2 := by
  unfold f_Lw_main_b856 at E
  refine Rn.goto (pc' := 2138) dL_law__856 (by decide) ?_
  exact f_Lw_main_b2138_ok hst hd  hk23 E
def f_Lw_main_b800 (X : Nat × (Nat → Int32))  (k23 : Hp → Nat → Nat → Nat → Nat → Int32 → Option (Int32 × Hp)) (h : Hp) (x0 : Nat) (x1 : Nat) (x2 : Nat) (x3 : Nat) (x4 : Int32)  : Option (Int32 × Hp) :=
f_Lw_main_b2138 X  k23 h x0 x1 x2 x3 x4

set_option maxRecDepth 20000 in
set_option maxHeartbeats 4000000 in
theorem f_Lw_main_b800_ok {l : Launch} {X : Nat × (Nat → Int32)} (hst : l.stackTraces = false) {d : Nat} (hd : 52 ≤ d)   {k23 : Hp → Nat → Nat → Nat → Nat → Int32 → Option (Int32 × Hp)} (hk23 : ∀ (h : Hp) (x0 : Nat) (x1 : Nat) (x2 : Nat) (x3 : Nat) (x4 : Int32)  (r : Int32 × Hp), k23 h x0 x1 x2 x3 x4 = some r → Rn l X mL_law_ d 23 [(0, .ref x0), (1, .ref x1), (2, .ref x2), (3, .ref x3), (4, .int x4)] [] h (eI r) r.2) {h : Hp} {x0 : Nat} {x1 : Nat} {x2 : Nat} {x3 : Nat} {x4 : Int32}  {r : Int32 × Hp} (E : f_Lw_main_b800 X  k23 h x0 x1 x2 x3 x4 = some r) : Rn l X mL_law_ d 800 [(0, .ref x0), (1, .ref x1), (2, .ref x2), (3, .ref x3), (4, .int x4)] [] h (eI r) r.2 := by
  unfold f_Lw_main_b800 at E
  refine Rn.goto (pc' := 2138) dL_law__800 (by decide) ?_
  exact f_Lw_main_b2138_ok hst hd  hk23 E
def f_Lw_main_b732 (X : Nat × (Nat → Int32))  (k23 : Hp → Nat → Nat → Nat → Nat → Int32 → Option (Int32 × Hp)) (h : Hp) (x0 : Nat) (x1 : Nat) (x2 : Nat) (x3 : Nat) (x4 : Int32)  : Option (Int32 × Hp) :=
f_Lw_main_b2138 X  k23 h x0 x1 x2 x3 x4

set_option maxRecDepth 20000 in
set_option maxHeartbeats 4000000 in
theorem f_Lw_main_b732_ok {l : Launch} {X : Nat × (Nat → Int32)} (hst : l.stackTraces = false) {d : Nat} (hd : 52 ≤ d)   {k23 : Hp → Nat → Nat → Nat → Nat → Int32 → Option (Int32 × Hp)} (hk23 : ∀ (h : Hp) (x0 : Nat) (x1 : Nat) (x2 : Nat) (x3 : Nat) (x4 : Int32)  (r : Int32 × Hp), k23 h x0 x1 x2 x3 x4 = some r → Rn l X mL_law_ d 23 [(0, .ref x0), (1, .ref x1), (2, .ref x2), (3, .ref x3), (4, .int x4)] [] h (eI r) r.2) {h : Hp} {x0 : Nat} {x1 : Nat} {x2 : Nat} {x3 : Nat} {x4 : Int32}  {r : Int32 × Hp} (E : f_Lw_main_b732 X  k23 h x0 x1 x2 x3 x4 = some r) : Rn l X mL_law_ d 732 [(0, .ref x0), (1, .ref x1), (2, .ref x2), (3, .ref x3), (4, .int x4)] [] h (eI r) r.2 := by
  unfold f_Lw_main_b732 at E
  refine Rn.goto (pc' := 2138) dL_law__732 (by decide) ?_
  exact f_Lw_main_b2138_ok hst hd  hk23 E
def f_Lw_main_b664 (X : Nat × (Nat → Int32))  (k23 : Hp → Nat → Nat → Nat → Nat → Int32 → Option (Int32 × Hp)) (h : Hp) (x0 : Nat) (x1 : Nat) (x2 : Nat) (x3 : Nat) (x4 : Int32)  : Option (Int32 × Hp) :=
f_Lw_main_b2138 X  k23 h x0 x1 x2 x3 x4

set_option maxRecDepth 20000 in
set_option maxHeartbeats 4000000 in
theorem f_Lw_main_b664_ok {l : Launch} {X : Nat × (Nat → Int32)} (hst : l.stackTraces = false) {d : Nat} (hd : 52 ≤ d)   {k23 : Hp → Nat → Nat → Nat → Nat → Int32 → Option (Int32 × Hp)} (hk23 : ∀ (h : Hp) (x0 : Nat) (x1 : Nat) (x2 : Nat) (x3 : Nat) (x4 : Int32)  (r : Int32 × Hp), k23 h x0 x1 x2 x3 x4 = some r → Rn l X mL_law_ d 23 [(0, .ref x0), (1, .ref x1), (2, .ref x2), (3, .ref x3), (4, .int x4)] [] h (eI r) r.2) {h : Hp} {x0 : Nat} {x1 : Nat} {x2 : Nat} {x3 : Nat} {x4 : Int32}  {r : Int32 × Hp} (E : f_Lw_main_b664 X  k23 h x0 x1 x2 x3 x4 = some r) : Rn l X mL_law_ d 664 [(0, .ref x0), (1, .ref x1), (2, .ref x2), (3, .ref x3), (4, .int x4)] [] h (eI r) r.2 := by
  unfold f_Lw_main_b664 at E
  refine Rn.goto (pc' := 2138) dL_law__664 (by decide) ?_
  exact f_Lw_main_b2138_ok hst hd  hk23 E
def f_Lw_main_b596 (X : Nat × (Nat → Int32))  (k23 : Hp → Nat → Nat → Nat → Nat → Int32 → Option (Int32 × Hp)) (h : Hp) (x0 : Nat) (x1 : Nat) (x2 : Nat) (x3 : Nat) (x4 : Int32)  : Option (Int32 × Hp) :=
f_Lw_main_b2138 X  k23 h x0 x1 x2 x3 x4

set_option maxRecDepth 20000 in
set_option maxHeartbeats 4000000 in
theorem f_Lw_main_b596_ok {l : Launch} {X : Nat × (Nat → Int32)} (hst : l.stackTraces = false) {d : Nat} (hd : 52 ≤ d)   {k23 : Hp → Nat → Nat → Nat → Nat → Int32 → Option (Int32 × Hp)} (hk23 : ∀ (h : Hp) (x0 : Nat) (x1 : Nat) (x2 : Nat) (x3 : Nat) (x4 : Int32)  (r : Int32 × Hp), k23 h x0 x1 x2 x3 x4 = some r → Rn l X mL_law_ d 23 [(0, .ref x0), (1, .ref x1), (2, .ref x2), (3, .ref x3), (4, .int x4)] [] h (eI r) r.2) {h : Hp} {x0 : Nat} {x1 : Nat} {x2 : Nat} {x3 : Nat} {x4 : Int32}  {r : Int32 × Hp} (E : f_Lw_main_b596 X  k23 h x0 x1 x2 x3 x4 = some r) : Rn l X mL_law_ d 596 [(0, .ref x0), (1, .ref x1), (2, .ref x2), (3, .ref x3), (4, .int x4)] [] h (eI r) r.2 := by
  unfold f_Lw_main_b596 at E
  refine Rn.goto (pc' := 2138) dL_law__596 (by decide) ?_
  exact f_Lw_main_b2138_ok hst hd  hk23 E
def f_Lw_main_b540 (X : Nat × (Nat → Int32))  (k23 : Hp → Nat → Nat → Nat → Nat → Int32 → Option (Int32 × Hp)) (h : Hp) (x0 : Nat) (x1 : Nat) (x2 : Nat) (x3 : Nat) (x4 : Int32)  : Option (Int32 × Hp) :=
f_Lw_main_b2138 X  k23 h x0 x1 x2 x3 x4

set_option maxRecDepth 20000 in
set_option maxHeartbeats 4000000 in
theorem f_Lw_main_b540_ok {l : Launch} {X : Nat × (Nat → Int32)} (hst : l.stackTraces = false) {d : Nat} (hd : 52 ≤ d)   {k23 : Hp → Nat → Nat → Nat → Nat → Int32 → Option (Int32 × Hp)} (hk23 : ∀ (h : Hp) (x0 : Nat) (x1 : Nat) (x2 : Nat) (x3 : Nat) (x4 : Int32)  (r : Int32 × Hp), k23 h x0 x1 x2 x3 x4 = some r → Rn l X mL_law_ d 23 [(0, .ref x0), (1, .ref x1), (2, .ref x2), (3, .ref x3), (4, .int x4)] [] h (eI r) r.2) {h : Hp} {x0 : Nat} {x1 : Nat} {x2 : Nat} {x3 : Nat} {x4 : Int32}  {r : Int32 × Hp} (E : f_Lw_main_b540 X  k23 h x0 x1 x2 x3 x4 = some r) : Rn l X mL_law_ d 540 [(0, .ref x0), (1, .ref x1), (2, .ref x2), (3, .ref x3), (4, .int x4)] [] h (eI r) r.2 := by
  unfold f_Lw_main_b540 at E
  refine Rn.goto (pc' := 2138) dL_law__540 (by decide) ?_
  exact f_Lw_main_b2138_ok hst hd  hk23 E
def f_Lw_main_b472 (X : Nat × (Nat → Int32))  (k23 : Hp → Nat → Nat → Nat → Nat → Int32 → Option (Int32 × Hp)) (h : Hp) (x0 : Nat) (x1 : Nat) (x2 : Nat) (x3 : Nat) (x4 : Int32)  : Option (Int32 × Hp) :=
f_Lw_main_b2138 X  k23 h x0 x1 x2 x3 x4

set_option maxRecDepth 20000 in
set_option maxHeartbeats 4000000 in
theorem f_Lw_main_b472_ok {l : Launch} {X : Nat × (Nat → Int32)} (hst : l.stackTraces = false) {d : Nat} (hd : 52 ≤ d)   {k23 : Hp → Nat → Nat → Nat → Nat → Int32 → Option (Int32 × Hp)} (hk23 : ∀ (h : Hp) (x0 : Nat) (x1 : Nat) (x2 : Nat) (x3 : Nat) (x4 : Int32)  (r : Int32 × Hp), k23 h x0 x1 x2 x3 x4 = some r → Rn l X mL_law_ d 23 [(0, .ref x0), (1, .ref x1), (2, .ref x2), (3, .ref x3), (4, .int x4)] [] h (eI r) r.2) {h : Hp} {x0 : Nat} {x1 : Nat} {x2 : Nat} {x3 : Nat} {x4 : Int32}  {r : Int32 × Hp} (E : f_Lw_main_b472 X  k23 h x0 x1 x2 x3 x4 = some r) : Rn l X mL_law_ d 472 [(0, .ref x0), (1, .ref x1), (2, .ref x2), (3, .ref x3), (4, .int x4)] [] h (eI r) r.2 := by
  unfold f_Lw_main_b472 at E
  refine Rn.goto (pc' := 2138) dL_law__472 (by decide) ?_
  exact f_Lw_main_b2138_ok hst hd  hk23 E
def f_Lw_main_b391 (X : Nat × (Nat → Int32))  (k23 : Hp → Nat → Nat → Nat → Nat → Int32 → Option (Int32 × Hp)) (h : Hp) (x0 : Nat) (x1 : Nat) (x2 : Nat) (x3 : Nat) (x4 : Int32)  : Option (Int32 × Hp) :=
f_Lw_main_b2138 X  k23 h x0 x1 x2 x3 x4

set_option maxRecDepth 20000 in
set_option maxHeartbeats 4000000 in
theorem f_Lw_main_b391_ok {l : Launch} {X : Nat × (Nat → Int32)} (hst : l.stackTraces = false) {d : Nat} (hd : 52 ≤ d)   {k23 : Hp → Nat → Nat → Nat → Nat → Int32 → Option (Int32 × Hp)} (hk23 : ∀ (h : Hp) (x0 : Nat) (x1 : Nat) (x2 : Nat) (x3 : Nat) (x4 : Int32)  (r : Int32 × Hp), k23 h x0 x1 x2 x3 x4 = some r → Rn l X mL_law_ d 23 [(0, .ref x0), (1, .ref x1), (2, .ref x2), (3, .ref x3), (4, .int x4)] [] h (eI r) r.2) {h : Hp} {x0 : Nat} {x1 : Nat} {x2 : Nat} {x3 : Nat} {x4 : Int32}  {r : Int32 × Hp} (E : f_Lw_main_b391 X  k23 h x0 x1 x2 x3 x4 = some r) : Rn l X mL_law_ d 391 [(0, .ref x0), (1, .ref x1), (2, .ref x2), (3, .ref x3), (4, .int x4)] [] h (eI r) r.2 := by
  unfold f_Lw_main_b391 at E
  refine Rn.goto (pc' := 2138) dL_law__391 (by decide) ?_
  exact f_Lw_main_b2138_ok hst hd  hk23 E
def f_Lw_main_b347 (X : Nat × (Nat → Int32))  (k23 : Hp → Nat → Nat → Nat → Nat → Int32 → Option (Int32 × Hp)) (h : Hp) (x0 : Nat) (x1 : Nat) (x2 : Nat) (x3 : Nat) (x4 : Int32)  : Option (Int32 × Hp) :=
f_Lw_main_b2138 X  k23 h x0 x1 x2 x3 x4

set_option maxRecDepth 20000 in
set_option maxHeartbeats 4000000 in
theorem f_Lw_main_b347_ok {l : Launch} {X : Nat × (Nat → Int32)} (hst : l.stackTraces = false) {d : Nat} (hd : 52 ≤ d)   {k23 : Hp → Nat → Nat → Nat → Nat → Int32 → Option (Int32 × Hp)} (hk23 : ∀ (h : Hp) (x0 : Nat) (x1 : Nat) (x2 : Nat) (x3 : Nat) (x4 : Int32)  (r : Int32 × Hp), k23 h x0 x1 x2 x3 x4 = some r → Rn l X mL_law_ d 23 [(0, .ref x0), (1, .ref x1), (2, .ref x2), (3, .ref x3), (4, .int x4)] [] h (eI r) r.2) {h : Hp} {x0 : Nat} {x1 : Nat} {x2 : Nat} {x3 : Nat} {x4 : Int32}  {r : Int32 × Hp} (E : f_Lw_main_b347 X  k23 h x0 x1 x2 x3 x4 = some r) : Rn l X mL_law_ d 347 [(0, .ref x0), (1, .ref x1), (2, .ref x2), (3, .ref x3), (4, .int x4)] [] h (eI r) r.2 := by
  unfold f_Lw_main_b347 at E
  refine Rn.goto (pc' := 2138) dL_law__347 (by decide) ?_
  exact f_Lw_main_b2138_ok hst hd  hk23 E
theorem kb_L_102 : KB RL 102 yX10_feed mX10_feed 5 := ⟨gw_at 472 (by decide +kernel) (by decide +kernel), gw_at 107 (by decide +kernel) (by decide +kernel), trivial, ws_X10_feed, by decide +kernel, by decide +kernel, by decide +kernel, by decide⟩
theorem ki_X10_feed : Cond.instanceMethod yX10_feed ∈ gw ∧ Cond.selects yX10_feed.cls yX10_feed yX10_feed ∈ gw := ⟨gw_at 473 (by decide +kernel) (by decide +kernel), gw_at 474 (by decide +kernel) (by decide +kernel)⟩
theorem kb_L_105 : KB RL 105 yX11_feed mX11_feed 5 := ⟨gw_at 1495 (by decide +kernel) (by decide +kernel), gw_at 117 (by decide +kernel) (by decide +kernel), trivial, ws_X11_feed, by decide +kernel, by decide +kernel, by decide +kernel, by decide⟩
theorem ki_X11_feed : Cond.instanceMethod yX11_feed ∈ gw ∧ Cond.selects yX11_feed.cls yX11_feed yX11_feed ∈ gw := ⟨gw_at 1496 (by decide +kernel) (by decide +kernel), gw_at 1497 (by decide +kernel) (by decide +kernel)⟩
theorem kb_L_106 : KB RL 106 yX10_end mX10_end 1 := ⟨gw_at 480 (by decide +kernel) (by decide +kernel), gw_at 107 (by decide +kernel) (by decide +kernel), trivial, ws_X10_end, by decide +kernel, by decide +kernel, by decide +kernel, by decide⟩
theorem ki_X10_end : Cond.instanceMethod yX10_end ∈ gw ∧ Cond.selects yX10_end.cls yX10_end yX10_end ∈ gw := ⟨gw_at 481 (by decide +kernel) (by decide +kernel), gw_at 482 (by decide +kernel) (by decide +kernel)⟩
theorem kb_L_110 : KB RL 110 yX11_end mX11_end 1 := ⟨gw_at 1499 (by decide +kernel) (by decide +kernel), gw_at 117 (by decide +kernel) (by decide +kernel), trivial, ws_X11_end, by decide +kernel, by decide +kernel, by decide +kernel, by decide⟩
theorem ki_X11_end : Cond.instanceMethod yX11_end ∈ gw ∧ Cond.selects yX11_end.cls yX11_end yX11_end ∈ gw := ⟨gw_at 1500 (by decide +kernel) (by decide +kernel), gw_at 1501 (by decide +kernel) (by decide +kernel)⟩
theorem kb_L_111 : KB RL 111 yL_land mL_land 2 := ⟨gw_at 710 (by decide +kernel) (by decide +kernel), gw_at 106 (by decide +kernel) (by decide +kernel), trivial, ws_L_land, by decide +kernel, by decide +kernel, by decide +kernel, by decide⟩
theorem ks_L_land : Cond.static yL_land ∈ gw := gw_at 711 (by decide +kernel) (by decide +kernel)
theorem kb_L_116 : KB RL 116 yX11_land mX11_land 0 := ⟨gw_at 1507 (by decide +kernel) (by decide +kernel), gw_at 117 (by decide +kernel) (by decide +kernel), trivial, ws_X11_land, by decide +kernel, by decide +kernel, by decide +kernel, by decide⟩
theorem ki_X11_land : Cond.instanceMethod yX11_land ∈ gw ∧ Cond.selects yX11_land.cls yX11_land yX11_land ∈ gw := ⟨gw_at 1508 (by decide +kernel) (by decide +kernel), gw_at 1509 (by decide +kernel) (by decide +kernel)⟩
theorem kb_L_120 : KB RL 120 yL_law mL_law 2 := ⟨gw_at 1041 (by decide +kernel) (by decide +kernel), gw_at 106 (by decide +kernel) (by decide +kernel), trivial, ws_L_law, by decide +kernel, by decide +kernel, by decide +kernel, by decide⟩
theorem ks_L_law : Cond.static yL_law ∈ gw := gw_at 1042 (by decide +kernel) (by decide +kernel)
theorem kb_L_122 : KB RL 122 yX11_law mX11_law 0 := ⟨gw_at 1693 (by decide +kernel) (by decide +kernel), gw_at 117 (by decide +kernel) (by decide +kernel), trivial, ws_X11_law, by decide +kernel, by decide +kernel, by decide +kernel, by decide⟩
theorem ki_X11_law : Cond.instanceMethod yX11_law ∈ gw ∧ Cond.selects yX11_law.cls yX11_law yX11_law ∈ gw := ⟨gw_at 1694 (by decide +kernel) (by decide +kernel), gw_at 1695 (by decide +kernel) (by decide +kernel)⟩
theorem kb_L_123 : KB RL 123 yX10_fault mX10_fault 0 := ⟨gw_at 484 (by decide +kernel) (by decide +kernel), gw_at 107 (by decide +kernel) (by decide +kernel), trivial, ws_X10_fault, by decide +kernel, by decide +kernel, by decide +kernel, by decide⟩
theorem ki_X10_fault : Cond.instanceMethod yX10_fault ∈ gw ∧ Cond.selects yX10_fault.cls yX10_fault yX10_fault ∈ gw := ⟨gw_at 485 (by decide +kernel) (by decide +kernel), gw_at 486 (by decide +kernel) (by decide +kernel)⟩
theorem kb_L_126 : KB RL 126 yX11_fault mX11_fault 0 := ⟨gw_at 1503 (by decide +kernel) (by decide +kernel), gw_at 117 (by decide +kernel) (by decide +kernel), trivial, ws_X11_fault, by decide +kernel, by decide +kernel, by decide +kernel, by decide⟩
theorem ki_X11_fault : Cond.instanceMethod yX11_fault ∈ gw ∧ Cond.selects yX11_fault.cls yX11_fault yX11_fault ∈ gw := ⟨gw_at 1504 (by decide +kernel) (by decide +kernel), gw_at 1505 (by decide +kernel) (by decide +kernel)⟩
theorem kb_L_127 : KB RL 127 yL_cistern mL_cistern 4 := ⟨gw_at 1101 (by decide +kernel) (by decide +kernel), gw_at 106 (by decide +kernel) (by decide +kernel), trivial, ws_L_cistern, by decide +kernel, by decide +kernel, by decide +kernel, by decide⟩
theorem ks_L_cistern : Cond.static yL_cistern ∈ gw := gw_at 1102 (by decide +kernel) (by decide +kernel)
theorem kb_L_130 : KB RL 130 yX11_cistern mX11_cistern 2 := ⟨gw_at 1697 (by decide +kernel) (by decide +kernel), gw_at 117 (by decide +kernel) (by decide +kernel), trivial, ws_X11_cistern, by decide +kernel, by decide +kernel, by decide +kernel, by decide⟩
theorem ki_X11_cistern : Cond.instanceMethod yX11_cistern ∈ gw ∧ Cond.selects yX11_cistern.cls yX11_cistern yX11_cistern ∈ gw := ⟨gw_at 1698 (by decide +kernel) (by decide +kernel), gw_at 1699 (by decide +kernel) (by decide +kernel)⟩
theorem kb_L_131 : KB RL 131 yL_layer mL_layer 4 := ⟨gw_at 1154 (by decide +kernel) (by decide +kernel), gw_at 106 (by decide +kernel) (by decide +kernel), trivial, ws_L_layer, by decide +kernel, by decide +kernel, by decide +kernel, by decide⟩
theorem ks_L_layer : Cond.static yL_layer ∈ gw := gw_at 1155 (by decide +kernel) (by decide +kernel)
theorem kb_L_133 : KB RL 133 yX11_layer mX11_layer 2 := ⟨gw_at 1716 (by decide +kernel) (by decide +kernel), gw_at 117 (by decide +kernel) (by decide +kernel), trivial, ws_X11_layer, by decide +kernel, by decide +kernel, by decide +kernel, by decide⟩
theorem ki_X11_layer : Cond.instanceMethod yX11_layer ∈ gw ∧ Cond.selects yX11_layer.cls yX11_layer yX11_layer ∈ gw := ⟨gw_at 1717 (by decide +kernel) (by decide +kernel), gw_at 1718 (by decide +kernel) (by decide +kernel)⟩
theorem kb_L_134 : KB RL 134 yL_salt mL_salt 3 := ⟨gw_at 1166 (by decide +kernel) (by decide +kernel), gw_at 106 (by decide +kernel) (by decide +kernel), trivial, ws_L_salt, by decide +kernel, by decide +kernel, by decide +kernel, by decide⟩
theorem ks_L_salt : Cond.static yL_salt ∈ gw := gw_at 1167 (by decide +kernel) (by decide +kernel)
theorem kb_L_137 : KB RL 137 yX11_salt mX11_salt 1 := ⟨gw_at 1723 (by decide +kernel) (by decide +kernel), gw_at 117 (by decide +kernel) (by decide +kernel), trivial, ws_X11_salt, by decide +kernel, by decide +kernel, by decide +kernel, by decide⟩
theorem ki_X11_salt : Cond.instanceMethod yX11_salt ∈ gw ∧ Cond.selects yX11_salt.cls yX11_salt yX11_salt ∈ gw := ⟨gw_at 1724 (by decide +kernel) (by decide +kernel), gw_at 1725 (by decide +kernel) (by decide +kernel)⟩
theorem kb_L_138 : KB RL 138 yL_house mL_house 4 := ⟨gw_at 1173 (by decide +kernel) (by decide +kernel), gw_at 106 (by decide +kernel) (by decide +kernel), trivial, ws_L_house, by decide +kernel, by decide +kernel, by decide +kernel, by decide⟩
theorem ks_L_house : Cond.static yL_house ∈ gw := gw_at 1174 (by decide +kernel) (by decide +kernel)
theorem kb_L_140 : KB RL 140 yX11_house mX11_house 2 := ⟨gw_at 1727 (by decide +kernel) (by decide +kernel), gw_at 117 (by decide +kernel) (by decide +kernel), trivial, ws_X11_house, by decide +kernel, by decide +kernel, by decide +kernel, by decide⟩
theorem ki_X11_house : Cond.instanceMethod yX11_house ∈ gw ∧ Cond.selects yX11_house.cls yX11_house yX11_house ∈ gw := ⟨gw_at 1728 (by decide +kernel) (by decide +kernel), gw_at 1729 (by decide +kernel) (by decide +kernel)⟩
theorem kb_L_141 : KB RL 141 yL_drank mL_drank 4 := ⟨gw_at 1187 (by decide +kernel) (by decide +kernel), gw_at 106 (by decide +kernel) (by decide +kernel), trivial, ws_L_drank, by decide +kernel, by decide +kernel, by decide +kernel, by decide⟩
theorem ks_L_drank : Cond.static yL_drank ∈ gw := gw_at 1188 (by decide +kernel) (by decide +kernel)
theorem kb_L_143 : KB RL 143 yX11_drank mX11_drank 2 := ⟨gw_at 1739 (by decide +kernel) (by decide +kernel), gw_at 117 (by decide +kernel) (by decide +kernel), trivial, ws_X11_drank, by decide +kernel, by decide +kernel, by decide +kernel, by decide⟩
theorem ki_X11_drank : Cond.instanceMethod yX11_drank ∈ gw ∧ Cond.selects yX11_drank.cls yX11_drank yX11_drank ∈ gw := ⟨gw_at 1740 (by decide +kernel) (by decide +kernel), gw_at 1741 (by decide +kernel) (by decide +kernel)⟩
theorem kb_L_144 : KB RL 144 yL_place mL_place 4 := ⟨gw_at 1194 (by decide +kernel) (by decide +kernel), gw_at 106 (by decide +kernel) (by decide +kernel), trivial, ws_L_place, by decide +kernel, by decide +kernel, by decide +kernel, by decide⟩
theorem ks_L_place : Cond.static yL_place ∈ gw := gw_at 1195 (by decide +kernel) (by decide +kernel)
theorem kb_L_146 : KB RL 146 yX11_place mX11_place 2 := ⟨gw_at 1743 (by decide +kernel) (by decide +kernel), gw_at 117 (by decide +kernel) (by decide +kernel), trivial, ws_X11_place, by decide +kernel, by decide +kernel, by decide +kernel, by decide⟩
theorem ki_X11_place : Cond.instanceMethod yX11_place ∈ gw ∧ Cond.selects yX11_place.cls yX11_place yX11_place ∈ gw := ⟨gw_at 1744 (by decide +kernel) (by decide +kernel), gw_at 1745 (by decide +kernel) (by decide +kernel)⟩
theorem kb_L_147 : KB RL 147 yL_next mL_next 3 := ⟨gw_at 1202 (by decide +kernel) (by decide +kernel), gw_at 106 (by decide +kernel) (by decide +kernel), trivial, ws_L_next, by decide +kernel, by decide +kernel, by decide +kernel, by decide⟩
theorem ks_L_next : Cond.static yL_next ∈ gw := gw_at 1203 (by decide +kernel) (by decide +kernel)
theorem kb_L_149 : KB RL 149 yX11_next mX11_next 1 := ⟨gw_at 1764 (by decide +kernel) (by decide +kernel), gw_at 117 (by decide +kernel) (by decide +kernel), trivial, ws_X11_next, by decide +kernel, by decide +kernel, by decide +kernel, by decide⟩
theorem ki_X11_next : Cond.instanceMethod yX11_next ∈ gw ∧ Cond.selects yX11_next.cls yX11_next yX11_next ∈ gw := ⟨gw_at 1765 (by decide +kernel) (by decide +kernel), gw_at 1766 (by decide +kernel) (by decide +kernel)⟩
theorem kb_L_150 : KB RL 150 yL_months mL_months 3 := ⟨gw_at 1213 (by decide +kernel) (by decide +kernel), gw_at 106 (by decide +kernel) (by decide +kernel), trivial, ws_L_months, by decide +kernel, by decide +kernel, by decide +kernel, by decide⟩
theorem ks_L_months : Cond.static yL_months ∈ gw := gw_at 1214 (by decide +kernel) (by decide +kernel)
theorem kb_L_152 : KB RL 152 yX11_months mX11_months 1 := ⟨gw_at 1772 (by decide +kernel) (by decide +kernel), gw_at 117 (by decide +kernel) (by decide +kernel), trivial, ws_X11_months, by decide +kernel, by decide +kernel, by decide +kernel, by decide⟩
theorem ki_X11_months : Cond.instanceMethod yX11_months ∈ gw ∧ Cond.selects yX11_months.cls yX11_months yX11_months ∈ gw := ⟨gw_at 1773 (by decide +kernel) (by decide +kernel), gw_at 1774 (by decide +kernel) (by decide +kernel)⟩
theorem kb_L_153 : KB RL 153 yX10_undo mX10_undo 0 := ⟨gw_at 488 (by decide +kernel) (by decide +kernel), gw_at 107 (by decide +kernel) (by decide +kernel), trivial, ws_X10_undo, by decide +kernel, by decide +kernel, by decide +kernel, by decide⟩
theorem ki_X10_undo : Cond.instanceMethod yX10_undo ∈ gw ∧ Cond.selects yX10_undo.cls yX10_undo yX10_undo ∈ gw := ⟨gw_at 489 (by decide +kernel) (by decide +kernel), gw_at 490 (by decide +kernel) (by decide +kernel)⟩
theorem kb_L_156 : KB RL 156 yX11_undo mX11_undo 0 := ⟨gw_at 1809 (by decide +kernel) (by decide +kernel), gw_at 117 (by decide +kernel) (by decide +kernel), trivial, ws_X11_undo, by decide +kernel, by decide +kernel, by decide +kernel, by decide⟩
theorem ki_X11_undo : Cond.instanceMethod yX11_undo ∈ gw ∧ Cond.selects yX11_undo.cls yX11_undo yX11_undo ∈ gw := ⟨gw_at 1810 (by decide +kernel) (by decide +kernel), gw_at 1811 (by decide +kernel) (by decide +kernel)⟩
theorem kb_L_157 : KB RL 157 yL_oath mL_oath 4 := ⟨gw_at 1229 (by decide +kernel) (by decide +kernel), gw_at 106 (by decide +kernel) (by decide +kernel), trivial, ws_L_oath, by decide +kernel, by decide +kernel, by decide +kernel, by decide⟩
theorem ks_L_oath : Cond.static yL_oath ∈ gw := gw_at 1230 (by decide +kernel) (by decide +kernel)
theorem kb_L_159 : KB RL 159 yX11_oath mX11_oath 2 := ⟨gw_at 1813 (by decide +kernel) (by decide +kernel), gw_at 117 (by decide +kernel) (by decide +kernel), trivial, ws_X11_oath, by decide +kernel, by decide +kernel, by decide +kernel, by decide⟩
theorem ki_X11_oath : Cond.instanceMethod yX11_oath ∈ gw ∧ Cond.selects yX11_oath.cls yX11_oath yX11_oath ∈ gw := ⟨gw_at 1814 (by decide +kernel) (by decide +kernel), gw_at 1815 (by decide +kernel) (by decide +kernel)⟩
theorem kb_L_160 : KB RL 160 yL_winter mL_winter 3 := ⟨gw_at 1241 (by decide +kernel) (by decide +kernel), gw_at 106 (by decide +kernel) (by decide +kernel), trivial, ws_L_winter, by decide +kernel, by decide +kernel, by decide +kernel, by decide⟩
theorem ks_L_winter : Cond.static yL_winter ∈ gw := gw_at 1242 (by decide +kernel) (by decide +kernel)
theorem kb_L_162 : KB RL 162 yX11_winter mX11_winter 1 := ⟨gw_at 1817 (by decide +kernel) (by decide +kernel), gw_at 117 (by decide +kernel) (by decide +kernel), trivial, ws_X11_winter, by decide +kernel, by decide +kernel, by decide +kernel, by decide⟩
theorem ki_X11_winter : Cond.instanceMethod yX11_winter ∈ gw ∧ Cond.selects yX11_winter.cls yX11_winter yX11_winter ∈ gw := ⟨gw_at 1818 (by decide +kernel) (by decide +kernel), gw_at 1819 (by decide +kernel) (by decide +kernel)⟩
theorem kb_L_167 : KB RL 167 yX10_seed mX10_seed 1 := ⟨gw_at 527 (by decide +kernel) (by decide +kernel), gw_at 107 (by decide +kernel) (by decide +kernel), trivial, ws_X10_seed, by decide +kernel, by decide +kernel, by decide +kernel, by decide⟩
theorem ki_X10_seed : Cond.instanceMethod yX10_seed ∈ gw ∧ Cond.selects yX10_seed.cls yX10_seed yX10_seed ∈ gw := ⟨gw_at 528 (by decide +kernel) (by decide +kernel), gw_at 529 (by decide +kernel) (by decide +kernel)⟩
theorem kb_L_170 : KB RL 170 yX11_seed mX11_seed 1 := ⟨gw_at 1829 (by decide +kernel) (by decide +kernel), gw_at 117 (by decide +kernel) (by decide +kernel), trivial, ws_X11_seed, by decide +kernel, by decide +kernel, by decide +kernel, by decide⟩
theorem ki_X11_seed : Cond.instanceMethod yX11_seed ∈ gw ∧ Cond.selects yX11_seed.cls yX11_seed yX11_seed ∈ gw := ⟨gw_at 1830 (by decide +kernel) (by decide +kernel), gw_at 1831 (by decide +kernel) (by decide +kernel)⟩
theorem kb_L_171 : KB RL 171 yL_blend mL_blend 5 := ⟨gw_at 1261 (by decide +kernel) (by decide +kernel), gw_at 106 (by decide +kernel) (by decide +kernel), trivial, ws_L_blend, by decide +kernel, by decide +kernel, by decide +kernel, by decide⟩
theorem ks_L_blend : Cond.static yL_blend ∈ gw := gw_at 1262 (by decide +kernel) (by decide +kernel)
theorem kb_L_174 : KB RL 174 yX11_blend mX11_blend 3 := ⟨gw_at 1833 (by decide +kernel) (by decide +kernel), gw_at 117 (by decide +kernel) (by decide +kernel), trivial, ws_X11_blend, by decide +kernel, by decide +kernel, by decide +kernel, by decide⟩
theorem ki_X11_blend : Cond.instanceMethod yX11_blend ∈ gw ∧ Cond.selects yX11_blend.cls yX11_blend yX11_blend ∈ gw := ⟨gw_at 1834 (by decide +kernel) (by decide +kernel), gw_at 1835 (by decide +kernel) (by decide +kernel)⟩
theorem kb_L_175 : KB RL 175 yX10_lasts mX10_lasts 0 := ⟨gw_at 531 (by decide +kernel) (by decide +kernel), gw_at 107 (by decide +kernel) (by decide +kernel), trivial, ws_X10_lasts, by decide +kernel, by decide +kernel, by decide +kernel, by decide⟩
theorem ki_X10_lasts : Cond.instanceMethod yX10_lasts ∈ gw ∧ Cond.selects yX10_lasts.cls yX10_lasts yX10_lasts ∈ gw := ⟨gw_at 532 (by decide +kernel) (by decide +kernel), gw_at 533 (by decide +kernel) (by decide +kernel)⟩
theorem kb_L_178 : KB RL 178 yX11_lasts mX11_lasts 0 := ⟨gw_at 1837 (by decide +kernel) (by decide +kernel), gw_at 117 (by decide +kernel) (by decide +kernel), trivial, ws_X11_lasts, by decide +kernel, by decide +kernel, by decide +kernel, by decide⟩
theorem ki_X11_lasts : Cond.instanceMethod yX11_lasts ∈ gw ∧ Cond.selects yX11_lasts.cls yX11_lasts yX11_lasts ∈ gw := ⟨gw_at 1838 (by decide +kernel) (by decide +kernel), gw_at 1839 (by decide +kernel) (by decide +kernel)⟩
theorem kb_L_179 : KB RL 179 yX10_worst mX10_worst 0 := ⟨gw_at 631 (by decide +kernel) (by decide +kernel), gw_at 107 (by decide +kernel) (by decide +kernel), trivial, ws_X10_worst, by decide +kernel, by decide +kernel, by decide +kernel, by decide⟩
theorem ki_X10_worst : Cond.instanceMethod yX10_worst ∈ gw ∧ Cond.selects yX10_worst.cls yX10_worst yX10_worst ∈ gw := ⟨gw_at 632 (by decide +kernel) (by decide +kernel), gw_at 633 (by decide +kernel) (by decide +kernel)⟩
theorem kb_L_182 : KB RL 182 yX11_worst mX11_worst 0 := ⟨gw_at 1853 (by decide +kernel) (by decide +kernel), gw_at 117 (by decide +kernel) (by decide +kernel), trivial, ws_X11_worst, by decide +kernel, by decide +kernel, by decide +kernel, by decide⟩
theorem ki_X11_worst : Cond.instanceMethod yX11_worst ∈ gw ∧ Cond.selects yX11_worst.cls yX11_worst yX11_worst ∈ gw := ⟨gw_at 1854 (by decide +kernel) (by decide +kernel), gw_at 1855 (by decide +kernel) (by decide +kernel)⟩
theorem kb_L_183 : KB RL 183 yL_judge mL_judge 2 := ⟨gw_at 1280 (by decide +kernel) (by decide +kernel), gw_at 106 (by decide +kernel) (by decide +kernel), trivial, ws_L_judge, by decide +kernel, by decide +kernel, by decide +kernel, by decide⟩
theorem ks_L_judge : Cond.static yL_judge ∈ gw := gw_at 1281 (by decide +kernel) (by decide +kernel)
theorem kb_L_185 : KB RL 185 yX11_judge mX11_judge 0 := ⟨gw_at 1857 (by decide +kernel) (by decide +kernel), gw_at 117 (by decide +kernel) (by decide +kernel), trivial, ws_X11_judge, by decide +kernel, by decide +kernel, by decide +kernel, by decide⟩
theorem ki_X11_judge : Cond.instanceMethod yX11_judge ∈ gw ∧ Cond.selects yX11_judge.cls yX11_judge yX11_judge ∈ gw := ⟨gw_at 1858 (by decide +kernel) (by decide +kernel), gw_at 1859 (by decide +kernel) (by decide +kernel)⟩
theorem kb_L_186 : KB RL 186 yL_swap mL_swap 7 := ⟨gw_at 1302 (by decide +kernel) (by decide +kernel), gw_at 106 (by decide +kernel) (by decide +kernel), trivial, ws_L_swap, by decide +kernel, by decide +kernel, by decide +kernel, by decide⟩
theorem ks_L_swap : Cond.static yL_swap ∈ gw := gw_at 1303 (by decide +kernel) (by decide +kernel)
theorem kb_L_189 : KB RL 189 yX11_swap mX11_swap 5 := ⟨gw_at 1865 (by decide +kernel) (by decide +kernel), gw_at 117 (by decide +kernel) (by decide +kernel), trivial, ws_X11_swap, by decide +kernel, by decide +kernel, by decide +kernel, by decide⟩
theorem ki_X11_swap : Cond.instanceMethod yX11_swap ∈ gw ∧ Cond.selects yX11_swap.cls yX11_swap yX11_swap ∈ gw := ⟨gw_at 1866 (by decide +kernel) (by decide +kernel), gw_at 1867 (by decide +kernel) (by decide +kernel)⟩
theorem kb_L_190 : KB RL 190 yX10_foul mX10_foul 1 := ⟨gw_at 639 (by decide +kernel) (by decide +kernel), gw_at 107 (by decide +kernel) (by decide +kernel), trivial, ws_X10_foul, by decide +kernel, by decide +kernel, by decide +kernel, by decide⟩
theorem ki_X10_foul : Cond.instanceMethod yX10_foul ∈ gw ∧ Cond.selects yX10_foul.cls yX10_foul yX10_foul ∈ gw := ⟨gw_at 640 (by decide +kernel) (by decide +kernel), gw_at 641 (by decide +kernel) (by decide +kernel)⟩
theorem kb_L_193 : KB RL 193 yX11_foul mX11_foul 1 := ⟨gw_at 1869 (by decide +kernel) (by decide +kernel), gw_at 117 (by decide +kernel) (by decide +kernel), trivial, ws_X11_foul, by decide +kernel, by decide +kernel, by decide +kernel, by decide⟩
theorem ki_X11_foul : Cond.instanceMethod yX11_foul ∈ gw ∧ Cond.selects yX11_foul.cls yX11_foul yX11_foul ∈ gw := ⟨gw_at 1870 (by decide +kernel) (by decide +kernel), gw_at 1871 (by decide +kernel) (by decide +kernel)⟩
theorem kb_L_194 : KB RL 194 yX10_fewest mX10_fewest 1 := ⟨gw_at 651 (by decide +kernel) (by decide +kernel), gw_at 107 (by decide +kernel) (by decide +kernel), trivial, ws_X10_fewest, by decide +kernel, by decide +kernel, by decide +kernel, by decide⟩
theorem ki_X10_fewest : Cond.instanceMethod yX10_fewest ∈ gw ∧ Cond.selects yX10_fewest.cls yX10_fewest yX10_fewest ∈ gw := ⟨gw_at 652 (by decide +kernel) (by decide +kernel), gw_at 653 (by decide +kernel) (by decide +kernel)⟩
theorem kb_L_197 : KB RL 197 yX11_fewest mX11_fewest 1 := ⟨gw_at 1877 (by decide +kernel) (by decide +kernel), gw_at 117 (by decide +kernel) (by decide +kernel), trivial, ws_X11_fewest, by decide +kernel, by decide +kernel, by decide +kernel, by decide⟩
theorem ki_X11_fewest : Cond.instanceMethod yX11_fewest ∈ gw ∧ Cond.selects yX11_fewest.cls yX11_fewest yX11_fewest ∈ gw := ⟨gw_at 1878 (by decide +kernel) (by decide +kernel), gw_at 1879 (by decide +kernel) (by decide +kernel)⟩
theorem kb_L_198 : KB RL 198 yL_look mL_look 2 := ⟨gw_at 1312 (by decide +kernel) (by decide +kernel), gw_at 106 (by decide +kernel) (by decide +kernel), trivial, ws_L_look, by decide +kernel, by decide +kernel, by decide +kernel, by decide⟩
theorem ks_L_look : Cond.static yL_look ∈ gw := gw_at 1313 (by decide +kernel) (by decide +kernel)
theorem kb_L_200 : KB RL 200 yX11_look mX11_look 0 := ⟨gw_at 1885 (by decide +kernel) (by decide +kernel), gw_at 117 (by decide +kernel) (by decide +kernel), trivial, ws_X11_look, by decide +kernel, by decide +kernel, by decide +kernel, by decide⟩
theorem ki_X11_look : Cond.instanceMethod yX11_look ∈ gw ∧ Cond.selects yX11_look.cls yX11_look yX11_look ∈ gw := ⟨gw_at 1886 (by decide +kernel) (by decide +kernel), gw_at 1887 (by decide +kernel) (by decide +kernel)⟩
theorem kb_L_201 : KB RL 201 yL_site mL_site 3 := ⟨gw_at 1324 (by decide +kernel) (by decide +kernel), gw_at 106 (by decide +kernel) (by decide +kernel), trivial, ws_L_site, by decide +kernel, by decide +kernel, by decide +kernel, by decide⟩
theorem ks_L_site : Cond.static yL_site ∈ gw := gw_at 1325 (by decide +kernel) (by decide +kernel)
theorem kb_L_203 : KB RL 203 yX11_site mX11_site 1 := ⟨gw_at 1889 (by decide +kernel) (by decide +kernel), gw_at 117 (by decide +kernel) (by decide +kernel), trivial, ws_X11_site, by decide +kernel, by decide +kernel, by decide +kernel, by decide⟩
theorem ki_X11_site : Cond.instanceMethod yX11_site ∈ gw ∧ Cond.selects yX11_site.cls yX11_site yX11_site ∈ gw := ⟨gw_at 1890 (by decide +kernel) (by decide +kernel), gw_at 1891 (by decide +kernel) (by decide +kernel)⟩
theorem kb_L_204 : KB RL 204 yL_owed mL_owed 4 := ⟨gw_at 1337 (by decide +kernel) (by decide +kernel), gw_at 106 (by decide +kernel) (by decide +kernel), trivial, ws_L_owed, by decide +kernel, by decide +kernel, by decide +kernel, by decide⟩
theorem ks_L_owed : Cond.static yL_owed ∈ gw := gw_at 1338 (by decide +kernel) (by decide +kernel)
theorem kb_L_206 : KB RL 206 yX11_owed mX11_owed 2 := ⟨gw_at 1893 (by decide +kernel) (by decide +kernel), gw_at 117 (by decide +kernel) (by decide +kernel), trivial, ws_X11_owed, by decide +kernel, by decide +kernel, by decide +kernel, by decide⟩
theorem ki_X11_owed : Cond.instanceMethod yX11_owed ∈ gw ∧ Cond.selects yX11_owed.cls yX11_owed yX11_owed ∈ gw := ⟨gw_at 1894 (by decide +kernel) (by decide +kernel), gw_at 1895 (by decide +kernel) (by decide +kernel)⟩
theorem kb_L_207 : KB RL 207 yL_owe mL_owe 5 := ⟨gw_at 1355 (by decide +kernel) (by decide +kernel), gw_at 106 (by decide +kernel) (by decide +kernel), trivial, ws_L_owe, by decide +kernel, by decide +kernel, by decide +kernel, by decide⟩
theorem ks_L_owe : Cond.static yL_owe ∈ gw := gw_at 1356 (by decide +kernel) (by decide +kernel)
theorem kb_L_209 : KB RL 209 yX11_owe mX11_owe 3 := ⟨gw_at 1898 (by decide +kernel) (by decide +kernel), gw_at 117 (by decide +kernel) (by decide +kernel), trivial, ws_X11_owe, by decide +kernel, by decide +kernel, by decide +kernel, by decide⟩
theorem ki_X11_owe : Cond.instanceMethod yX11_owe ∈ gw ∧ Cond.selects yX11_owe.cls yX11_owe yX11_owe ∈ gw := ⟨gw_at 1899 (by decide +kernel) (by decide +kernel), gw_at 1900 (by decide +kernel) (by decide +kernel)⟩
theorem kb_L_210 : KB RL 210 yL_debt mL_debt 3 := ⟨gw_at 1368 (by decide +kernel) (by decide +kernel), gw_at 106 (by decide +kernel) (by decide +kernel), trivial, ws_L_debt, by decide +kernel, by decide +kernel, by decide +kernel, by decide⟩
theorem ks_L_debt : Cond.static yL_debt ∈ gw := gw_at 1369 (by decide +kernel) (by decide +kernel)
theorem kb_L_212 : KB RL 212 yX11_debt mX11_debt 1 := ⟨gw_at 1902 (by decide +kernel) (by decide +kernel), gw_at 117 (by decide +kernel) (by decide +kernel), trivial, ws_X11_debt, by decide +kernel, by decide +kernel, by decide +kernel, by decide⟩
theorem ki_X11_debt : Cond.instanceMethod yX11_debt ∈ gw ∧ Cond.selects yX11_debt.cls yX11_debt yX11_debt ∈ gw := ⟨gw_at 1903 (by decide +kernel) (by decide +kernel), gw_at 1904 (by decide +kernel) (by decide +kernel)⟩
theorem kb_L_213 : KB RL 213 yL_settle mL_settle 3 := ⟨gw_at 1380 (by decide +kernel) (by decide +kernel), gw_at 106 (by decide +kernel) (by decide +kernel), trivial, ws_L_settle, by decide +kernel, by decide +kernel, by decide +kernel, by decide⟩
theorem ks_L_settle : Cond.static yL_settle ∈ gw := gw_at 1381 (by decide +kernel) (by decide +kernel)
theorem kb_L_215 : KB RL 215 yX11_settle mX11_settle 1 := ⟨gw_at 1914 (by decide +kernel) (by decide +kernel), gw_at 117 (by decide +kernel) (by decide +kernel), trivial, ws_X11_settle, by decide +kernel, by decide +kernel, by decide +kernel, by decide⟩
theorem ki_X11_settle : Cond.instanceMethod yX11_settle ∈ gw ∧ Cond.selects yX11_settle.cls yX11_settle yX11_settle ∈ gw := ⟨gw_at 1915 (by decide +kernel) (by decide +kernel), gw_at 1916 (by decide +kernel) (by decide +kernel)⟩
theorem kb_L_216 : KB RL 216 yL_mix mL_mix 5 := ⟨gw_at 1391 (by decide +kernel) (by decide +kernel), gw_at 106 (by decide +kernel) (by decide +kernel), trivial, ws_L_mix, by decide +kernel, by decide +kernel, by decide +kernel, by decide⟩
theorem ks_L_mix : Cond.static yL_mix ∈ gw := gw_at 1392 (by decide +kernel) (by decide +kernel)
theorem kb_L_218 : KB RL 218 yX11_mix mX11_mix 3 := ⟨gw_at 1918 (by decide +kernel) (by decide +kernel), gw_at 117 (by decide +kernel) (by decide +kernel), trivial, ws_X11_mix, by decide +kernel, by decide +kernel, by decide +kernel, by decide⟩
theorem ki_X11_mix : Cond.instanceMethod yX11_mix ∈ gw ∧ Cond.selects yX11_mix.cls yX11_mix yX11_mix ∈ gw := ⟨gw_at 1919 (by decide +kernel) (by decide +kernel), gw_at 1920 (by decide +kernel) (by decide +kernel)⟩
theorem kb_L_224 : KB RL 224 yL_enough mL_enough 4 := ⟨gw_at 1401 (by decide +kernel) (by decide +kernel), gw_at 106 (by decide +kernel) (by decide +kernel), trivial, ws_L_enough, by decide +kernel, by decide +kernel, by decide +kernel, by decide⟩
theorem ks_L_enough : Cond.static yL_enough ∈ gw := gw_at 1402 (by decide +kernel) (by decide +kernel)
theorem kb_L_226 : KB RL 226 yX11_enough mX11_enough 2 := ⟨gw_at 1930 (by decide +kernel) (by decide +kernel), gw_at 117 (by decide +kernel) (by decide +kernel), trivial, ws_X11_enough, by decide +kernel, by decide +kernel, by decide +kernel, by decide⟩
theorem ki_X11_enough : Cond.instanceMethod yX11_enough ∈ gw ∧ Cond.selects yX11_enough.cls yX11_enough yX11_enough ∈ gw := ⟨gw_at 1931 (by decide +kernel) (by decide +kernel), gw_at 1932 (by decide +kernel) (by decide +kernel)⟩
theorem kb_L_227 : KB RL 227 yL_latest mL_latest 4 := ⟨gw_at 1409 (by decide +kernel) (by decide +kernel), gw_at 106 (by decide +kernel) (by decide +kernel), trivial, ws_L_latest, by decide +kernel, by decide +kernel, by decide +kernel, by decide⟩
theorem ks_L_latest : Cond.static yL_latest ∈ gw := gw_at 1410 (by decide +kernel) (by decide +kernel)
theorem kb_L_229 : KB RL 229 yX11_latest mX11_latest 2 := ⟨gw_at 1934 (by decide +kernel) (by decide +kernel), gw_at 117 (by decide +kernel) (by decide +kernel), trivial, ws_X11_latest, by decide +kernel, by decide +kernel, by decide +kernel, by decide⟩
theorem ki_X11_latest : Cond.instanceMethod yX11_latest ∈ gw ∧ Cond.selects yX11_latest.cls yX11_latest yX11_latest ∈ gw := ⟨gw_at 1935 (by decide +kernel) (by decide +kernel), gw_at 1936 (by decide +kernel) (by decide +kernel)⟩
theorem kb_L_230 : KB RL 230 yX10_image mX10_image 0 := ⟨gw_at 681 (by decide +kernel) (by decide +kernel), gw_at 107 (by decide +kernel) (by decide +kernel), trivial, ws_X10_image, by decide +kernel, by decide +kernel, by decide +kernel, by decide⟩
theorem ki_X10_image : Cond.instanceMethod yX10_image ∈ gw ∧ Cond.selects yX10_image.cls yX10_image yX10_image ∈ gw := ⟨gw_at 682 (by decide +kernel) (by decide +kernel), gw_at 683 (by decide +kernel) (by decide +kernel)⟩
theorem kb_L_233 : KB RL 233 yX11_image mX11_image 0 := ⟨gw_at 1487 (by decide +kernel) (by decide +kernel), gw_at 117 (by decide +kernel) (by decide +kernel), trivial, ws_X11_image, by decide +kernel, by decide +kernel, by decide +kernel, by decide⟩
theorem ki_X11_image : Cond.instanceMethod yX11_image ∈ gw ∧ Cond.selects yX11_image.cls yX11_image yX11_image ∈ gw := ⟨gw_at 1488 (by decide +kernel) (by decide +kernel), gw_at 1489 (by decide +kernel) (by decide +kernel)⟩
theorem kb_L_234 : KB RL 234 yX10_back mX10_back 0 := ⟨gw_at 685 (by decide +kernel) (by decide +kernel), gw_at 107 (by decide +kernel) (by decide +kernel), trivial, ws_X10_back, by decide +kernel, by decide +kernel, by decide +kernel, by decide⟩
theorem ki_X10_back : Cond.instanceMethod yX10_back ∈ gw ∧ Cond.selects yX10_back.cls yX10_back yX10_back ∈ gw := ⟨gw_at 686 (by decide +kernel) (by decide +kernel), gw_at 687 (by decide +kernel) (by decide +kernel)⟩
theorem kb_L_238 : KB RL 238 yX11_back mX11_back 0 := ⟨gw_at 1491 (by decide +kernel) (by decide +kernel), gw_at 117 (by decide +kernel) (by decide +kernel), trivial, ws_X11_back, by decide +kernel, by decide +kernel, by decide +kernel, by decide⟩
theorem ki_X11_back : Cond.instanceMethod yX11_back ∈ gw ∧ Cond.selects yX11_back.cls yX11_back yX11_back ∈ gw := ⟨gw_at 1492 (by decide +kernel) (by decide +kernel), gw_at 1493 (by decide +kernel) (by decide +kernel)⟩
theorem kb_L_239 : KB RL 239 yX10_count mX10_count 1 := ⟨gw_at 689 (by decide +kernel) (by decide +kernel), gw_at 107 (by decide +kernel) (by decide +kernel), trivial, ws_X10_count, by decide +kernel, by decide +kernel, by decide +kernel, by decide⟩
theorem ki_X10_count : Cond.instanceMethod yX10_count ∈ gw ∧ Cond.selects yX10_count.cls yX10_count yX10_count ∈ gw := ⟨gw_at 690 (by decide +kernel) (by decide +kernel), gw_at 691 (by decide +kernel) (by decide +kernel)⟩
theorem kb_L_242 : KB RL 242 yX11_count mX11_count 1 := ⟨gw_at 1938 (by decide +kernel) (by decide +kernel), gw_at 117 (by decide +kernel) (by decide +kernel), trivial, ws_X11_count, by decide +kernel, by decide +kernel, by decide +kernel, by decide⟩
theorem ki_X11_count : Cond.instanceMethod yX11_count ∈ gw ∧ Cond.selects yX11_count.cls yX11_count yX11_count ∈ gw := ⟨gw_at 1939 (by decide +kernel) (by decide +kernel), gw_at 1940 (by decide +kernel) (by decide +kernel)⟩
def f_Lw_main_b23 (X : Nat × (Nat → Int32))  (k23 : Hp → Nat → Nat → Nat → Nat → Int32 → Option (Int32 × Hp)) (h : Hp) (x0 : Nat) (x1 : Nat) (x2 : Nat) (x3 : Nat) (x4 : Int32)  : Option (Int32 × Hp) :=
if x0 = SCR then (
if ((Int32.ofNat X.1) - (6 : Int32)) < x4 then (
some ((1 : Int32), h)

) else (
if x0 = SCR then (
if ib x4 X.1 = true then (
if ((X.2 (ix x4)) &&& (63 : Int32)) = (0 : Int32) then (
if x0 = SCR then (
if ib (x4 + (1 : Int32)) X.1 = true then (
if x0 = SCR then (
if ib (x4 + (2 : Int32)) X.1 = true then (
if x0 = SCR then (
if ib (x4 + (3 : Int32)) X.1 = true then (
if x0 = SCR then (
if ib (x4 + (4 : Int32)) X.1 = true then (
if x0 = SCR then (
if ib (x4 + (5 : Int32)) X.1 = true then (
if hS h x1 = 10 then (
bI (f_Water_feed h x1 (X.2 (ix (x4 + (1 : Int32)))) (X.2 (ix (x4 + (2 : Int32)))) (X.2 (ix (x4 + (3 : Int32)))) (X.2 (ix (x4 + (4 : Int32)))) (X.2 (ix (x4 + (5 : Int32))))) fun v19 h20 =>
if x0 = SCR then (
if ib (x4 + (1 : Int32)) X.1 = true then (
if x0 = SCR then (
if ib (x4 + (2 : Int32)) X.1 = true then (
if x0 = SCR then (
if ib (x4 + (3 : Int32)) X.1 = true then (
if x0 = SCR then (
if ib (x4 + (4 : Int32)) X.1 = true then (
if x0 = SCR then (
if ib (x4 + (5 : Int32)) X.1 = true then (
if hS h20 x2 = 11 then (
bI (f_Model_feed h20 x2 (X.2 (ix (x4 + (1 : Int32)))) (X.2 (ix (x4 + (2 : Int32)))) (X.2 (ix (x4 + (3 : Int32)))) (X.2 (ix (x4 + (4 : Int32)))) (X.2 (ix (x4 + (5 : Int32))))) fun v33 h34 =>
if v19 = v33 then (
f_Lw_main_b2138 X  k23 h34 x0 x1 x2 x3 x4

) else (
some ((0 : Int32), h34)

)
) else none) else none) else none) else none) else none) else none) else none) else none) else none) else none) else none) else none) else none) else none) else none) else none) else none) else none) else none) else none) else none) else none
) else (
if ((X.2 (ix x4)) &&& (63 : Int32)) = (1 : Int32) then (
if x0 = SCR then (
if ib (x4 + (1 : Int32)) X.1 = true then (
if hS h x1 = 10 then (
bI (f_Water_end h x1 (X.2 (ix (x4 + (1 : Int32))))) fun v41 h42 =>
if x0 = SCR then (
if ib (x4 + (1 : Int32)) X.1 = true then (
if hS h42 x2 = 11 then (
bI (f_Model_end h42 x2 (X.2 (ix (x4 + (1 : Int32))))) fun v47 h48 =>
if v41 = v47 then (
f_Lw_main_b2138 X  k23 h48 x0 x1 x2 x3 x4

) else (
some ((0 : Int32), h48)

)
) else none) else none) else none) else none) else none) else none
) else (
if ((X.2 (ix x4)) &&& (63 : Int32)) = (2 : Int32) then (
bI (f_Lw_land h x1 x3) fun v52 h53 =>
if hS h53 x2 = 11 then (
bI (f_Model_land h53 x2) fun v56 h57 =>
if hS h57 x2 = 11 then (
bI (f_Model_thrown h57 x2) fun v60 h61 =>
if v60 = v52 then (
if v52 = 0 then (
if hS h61 x3 = 22 then (
if ib (0 : Int32) (hL h61 x3) = true then (
if (lg_cmp (hJ h61 x3 (ix (0 : Int32))) (Int32.toInt64 v56)) = 0 then (
f_Lw_main_b347 X  k23 h61 x0 x1 x2 x3 x4

) else (
some ((0 : Int32), h61)

)
) else none) else none
) else (
f_Lw_main_b347 X  k23 h61 x0 x1 x2 x3 x4

)

) else (
some ((0 : Int32), h61)

)
) else none) else none
) else (
if ((X.2 (ix x4)) &&& (63 : Int32)) = (3 : Int32) then (
bI (f_Lw_law h x1 x3) fun v69 h70 =>
if hS h70 x2 = 11 then (
bI (f_Model_law h70 x2) fun v73 h74 =>
if hS h74 x2 = 11 then (
bI (f_Model_thrown h74 x2) fun v77 h78 =>
if v77 = v69 then (
if v69 = 0 then (
if hS h78 x3 = 22 then (
if ib (0 : Int32) (hL h78 x3) = true then (
if (lg_cmp (hJ h78 x3 (ix (0 : Int32))) (Int32.toInt64 v73)) = 0 then (
f_Lw_main_b391 X  k23 h78 x0 x1 x2 x3 x4

) else (
some ((0 : Int32), h78)

)
) else none) else none
) else (
f_Lw_main_b391 X  k23 h78 x0 x1 x2 x3 x4

)

) else (
some ((0 : Int32), h78)

)
) else none) else none
) else (
if ((X.2 (ix x4)) &&& (63 : Int32)) = (4 : Int32) then (
if hS h x1 = 10 then (
bI (f_Water_fault h x1) fun v87 h88 =>
if hS h88 x2 = 11 then (
bI (f_Model_fault h88 x2) fun v91 h92 =>
if v87 = v91 then (
f_Lw_main_b2138 X  k23 h92 x0 x1 x2 x3 x4

) else (
some ((0 : Int32), h92)

)
) else none) else none
) else (
if ((X.2 (ix x4)) &&& (63 : Int32)) = (5 : Int32) then (
if x0 = SCR then (
if ib (x4 + (1 : Int32)) X.1 = true then (
if x0 = SCR then (
if ib (x4 + (2 : Int32)) X.1 = true then (
bI (f_Lw_cistern h x1 (X.2 (ix (x4 + (1 : Int32)))) (X.2 (ix (x4 + (2 : Int32)))) x3) fun v100 h101 =>
if x0 = SCR then (
if ib (x4 + (1 : Int32)) X.1 = true then (
if x0 = SCR then (
if ib (x4 + (2 : Int32)) X.1 = true then (
if hS h101 x2 = 11 then (
bI (f_Model_cistern h101 x2 (X.2 (ix (x4 + (1 : Int32)))) (X.2 (ix (x4 + (2 : Int32))))) fun v108 h109 =>
if hS h109 x2 = 11 then (
bI (f_Model_thrown h109 x2) fun v112 h113 =>
if v112 = v100 then (
if v100 = 0 then (
if hS h113 x3 = 22 then (
if ib (0 : Int32) (hL h113 x3) = true then (
if (lg_cmp (hJ h113 x3 (ix (0 : Int32))) (Int32.toInt64 v108)) = 0 then (
f_Lw_main_b472 X  k23 h113 x0 x1 x2 x3 x4

) else (
some ((0 : Int32), h113)

)
) else none) else none
) else (
f_Lw_main_b472 X  k23 h113 x0 x1 x2 x3 x4

)

) else (
some ((0 : Int32), h113)

)
) else none) else none) else none) else none) else none) else none) else none) else none) else none) else none
) else (
if ((X.2 (ix x4)) &&& (63 : Int32)) = (6 : Int32) then (
if x0 = SCR then (
if ib (x4 + (1 : Int32)) X.1 = true then (
if x0 = SCR then (
if ib (x4 + (2 : Int32)) X.1 = true then (
bI (f_Lw_layer h x1 (X.2 (ix (x4 + (1 : Int32)))) (X.2 (ix (x4 + (2 : Int32)))) x3) fun v125 h126 =>
if x0 = SCR then (
if ib (x4 + (1 : Int32)) X.1 = true then (
if x0 = SCR then (
if ib (x4 + (2 : Int32)) X.1 = true then (
if hS h126 x2 = 11 then (
bI (f_Model_layer h126 x2 (X.2 (ix (x4 + (1 : Int32)))) (X.2 (ix (x4 + (2 : Int32))))) fun v133 h134 =>
if hS h134 x2 = 11 then (
bI (f_Model_thrown h134 x2) fun v137 h138 =>
if v137 = v125 then (
if v125 = 0 then (
if hS h138 x3 = 22 then (
if ib (0 : Int32) (hL h138 x3) = true then (
if (lg_cmp (hJ h138 x3 (ix (0 : Int32))) (Int32.toInt64 v133)) = 0 then (
f_Lw_main_b540 X  k23 h138 x0 x1 x2 x3 x4

) else (
some ((0 : Int32), h138)

)
) else none) else none
) else (
f_Lw_main_b540 X  k23 h138 x0 x1 x2 x3 x4

)

) else (
some ((0 : Int32), h138)

)
) else none) else none) else none) else none) else none) else none) else none) else none) else none) else none
) else (
if ((X.2 (ix x4)) &&& (63 : Int32)) = (7 : Int32) then (
if x0 = SCR then (
if ib (x4 + (1 : Int32)) X.1 = true then (
bI (f_Lw_salt h x1 (X.2 (ix (x4 + (1 : Int32)))) x3) fun v148 h149 =>
if x0 = SCR then (
if ib (x4 + (1 : Int32)) X.1 = true then (
if hS h149 x2 = 11 then (
bI (f_Model_salt h149 x2 (X.2 (ix (x4 + (1 : Int32))))) fun v154 h155 =>
if hS h155 x2 = 11 then (
bI (f_Model_thrown h155 x2) fun v158 h159 =>
if v158 = v148 then (
if v148 = 0 then (
if hS h159 x3 = 22 then (
if ib (0 : Int32) (hL h159 x3) = true then (
if (lg_cmp (hJ h159 x3 (ix (0 : Int32))) (Int32.toInt64 v154)) = 0 then (
f_Lw_main_b596 X  k23 h159 x0 x1 x2 x3 x4

) else (
some ((0 : Int32), h159)

)
) else none) else none
) else (
f_Lw_main_b596 X  k23 h159 x0 x1 x2 x3 x4

)

) else (
some ((0 : Int32), h159)

)
) else none) else none) else none) else none) else none) else none
) else (
if ((X.2 (ix x4)) &&& (63 : Int32)) = (8 : Int32) then (
if x0 = SCR then (
if ib (x4 + (1 : Int32)) X.1 = true then (
if x0 = SCR then (
if ib (x4 + (2 : Int32)) X.1 = true then (
bI (f_Lw_house h x1 (X.2 (ix (x4 + (1 : Int32)))) (X.2 (ix (x4 + (2 : Int32)))) x3) fun v171 h172 =>
if x0 = SCR then (
if ib (x4 + (1 : Int32)) X.1 = true then (
if x0 = SCR then (
if ib (x4 + (2 : Int32)) X.1 = true then (
if hS h172 x2 = 11 then (
bI (f_Model_house h172 x2 (X.2 (ix (x4 + (1 : Int32)))) (X.2 (ix (x4 + (2 : Int32))))) fun v179 h180 =>
if hS h180 x2 = 11 then (
bI (f_Model_thrown h180 x2) fun v183 h184 =>
if v183 = v171 then (
if v171 = 0 then (
if hS h184 x3 = 22 then (
if ib (0 : Int32) (hL h184 x3) = true then (
if (lg_cmp (hJ h184 x3 (ix (0 : Int32))) (Int32.toInt64 v179)) = 0 then (
f_Lw_main_b664 X  k23 h184 x0 x1 x2 x3 x4

) else (
some ((0 : Int32), h184)

)
) else none) else none
) else (
f_Lw_main_b664 X  k23 h184 x0 x1 x2 x3 x4

)

) else (
some ((0 : Int32), h184)

)
) else none) else none) else none) else none) else none) else none) else none) else none) else none) else none
) else (
if ((X.2 (ix x4)) &&& (63 : Int32)) = (9 : Int32) then (
if x0 = SCR then (
if ib (x4 + (1 : Int32)) X.1 = true then (
if x0 = SCR then (
if ib (x4 + (2 : Int32)) X.1 = true then (
bI (f_Lw_drank h x1 (X.2 (ix (x4 + (1 : Int32)))) (X.2 (ix (x4 + (2 : Int32)))) x3) fun v196 h197 =>
if x0 = SCR then (
if ib (x4 + (1 : Int32)) X.1 = true then (
if x0 = SCR then (
if ib (x4 + (2 : Int32)) X.1 = true then (
if hS h197 x2 = 11 then (
bI (f_Model_drank h197 x2 (X.2 (ix (x4 + (1 : Int32)))) (X.2 (ix (x4 + (2 : Int32))))) fun v204 h205 =>
if hS h205 x2 = 11 then (
bI (f_Model_thrown h205 x2) fun v208 h209 =>
if v208 = v196 then (
if v196 = 0 then (
if hS h209 x3 = 22 then (
if ib (0 : Int32) (hL h209 x3) = true then (
if (lg_cmp (hJ h209 x3 (ix (0 : Int32))) (Int32.toInt64 v204)) = 0 then (
f_Lw_main_b732 X  k23 h209 x0 x1 x2 x3 x4

) else (
some ((0 : Int32), h209)

)
) else none) else none
) else (
f_Lw_main_b732 X  k23 h209 x0 x1 x2 x3 x4

)

) else (
some ((0 : Int32), h209)

)
) else none) else none) else none) else none) else none) else none) else none) else none) else none) else none
) else (
if ((X.2 (ix x4)) &&& (63 : Int32)) = (10 : Int32) then (
if x0 = SCR then (
if ib (x4 + (1 : Int32)) X.1 = true then (
if x0 = SCR then (
if ib (x4 + (2 : Int32)) X.1 = true then (
bI (f_Lw_place h x1 (X.2 (ix (x4 + (1 : Int32)))) (X.2 (ix (x4 + (2 : Int32)))) x3) fun v221 h222 =>
if x0 = SCR then (
if ib (x4 + (1 : Int32)) X.1 = true then (
if x0 = SCR then (
if ib (x4 + (2 : Int32)) X.1 = true then (
if hS h222 x2 = 11 then (
bI (f_Model_place h222 x2 (X.2 (ix (x4 + (1 : Int32)))) (X.2 (ix (x4 + (2 : Int32))))) fun v229 h230 =>
if hS h230 x2 = 11 then (
bI (f_Model_thrown h230 x2) fun v233 h234 =>
if v233 = v221 then (
if v221 = 0 then (
if hS h234 x3 = 22 then (
if ib (0 : Int32) (hL h234 x3) = true then (
if (lg_cmp (hJ h234 x3 (ix (0 : Int32))) (Int32.toInt64 v229)) = 0 then (
f_Lw_main_b800 X  k23 h234 x0 x1 x2 x3 x4

) else (
some ((0 : Int32), h234)

)
) else none) else none
) else (
f_Lw_main_b800 X  k23 h234 x0 x1 x2 x3 x4

)

) else (
some ((0 : Int32), h234)

)
) else none) else none) else none) else none) else none) else none) else none) else none) else none) else none
) else (
if ((X.2 (ix x4)) &&& (63 : Int32)) = (11 : Int32) then (
if x0 = SCR then (
if ib (x4 + (1 : Int32)) X.1 = true then (
bI (f_Lw_next h x1 (X.2 (ix (x4 + (1 : Int32)))) x3) fun v244 h245 =>
if x0 = SCR then (
if ib (x4 + (1 : Int32)) X.1 = true then (
if hS h245 x2 = 11 then (
bI (f_Model_next h245 x2 (X.2 (ix (x4 + (1 : Int32))))) fun v250 h251 =>
if hS h251 x2 = 11 then (
bI (f_Model_thrown h251 x2) fun v254 h255 =>
if v254 = v244 then (
if v244 = 0 then (
if hS h255 x3 = 22 then (
if ib (0 : Int32) (hL h255 x3) = true then (
if (lg_cmp (hJ h255 x3 (ix (0 : Int32))) (Int32.toInt64 v250)) = 0 then (
f_Lw_main_b856 X  k23 h255 x0 x1 x2 x3 x4

) else (
some ((0 : Int32), h255)

)
) else none) else none
) else (
f_Lw_main_b856 X  k23 h255 x0 x1 x2 x3 x4

)

) else (
some ((0 : Int32), h255)

)
) else none) else none) else none) else none) else none) else none
) else (
if ((X.2 (ix x4)) &&& (63 : Int32)) = (12 : Int32) then (
if x0 = SCR then (
if ib (x4 + (1 : Int32)) X.1 = true then (
bI (f_Lw_months h x1 (X.2 (ix (x4 + (1 : Int32)))) x3) fun v265 h266 =>
if x0 = SCR then (
if ib (x4 + (1 : Int32)) X.1 = true then (
if hS h266 x2 = 11 then (
bI (f_Model_months h266 x2 (X.2 (ix (x4 + (1 : Int32))))) fun v271 h272 =>
if hS h272 x2 = 11 then (
bI (f_Model_thrown h272 x2) fun v275 h276 =>
if v275 = v265 then (
if v265 = 0 then (
if hS h276 x3 = 22 then (
if ib (0 : Int32) (hL h276 x3) = true then (
if (lg_cmp (hJ h276 x3 (ix (0 : Int32))) (Int32.toInt64 v271)) = 0 then (
f_Lw_main_b912 X  k23 h276 x0 x1 x2 x3 x4

) else (
some ((0 : Int32), h276)

)
) else none) else none
) else (
f_Lw_main_b912 X  k23 h276 x0 x1 x2 x3 x4

)

) else (
some ((0 : Int32), h276)

)
) else none) else none) else none) else none) else none) else none
) else (
if ((X.2 (ix x4)) &&& (63 : Int32)) = (13 : Int32) then (
if hS h x1 = 10 then (
bI (f_Water_undo h x1) fun v285 h286 =>
if hS h286 x2 = 11 then (
bI (f_Model_undo h286 x2) fun v289 h290 =>
if v285 = v289 then (
f_Lw_main_b2138 X  k23 h290 x0 x1 x2 x3 x4

) else (
some ((0 : Int32), h290)

)
) else none) else none
) else (
if ((X.2 (ix x4)) &&& (63 : Int32)) = (14 : Int32) then (
if x0 = SCR then (
if ib (x4 + (1 : Int32)) X.1 = true then (
if x0 = SCR then (
if ib (x4 + (2 : Int32)) X.1 = true then (
bI (f_Lw_oath h x1 (X.2 (ix (x4 + (1 : Int32)))) (X.2 (ix (x4 + (2 : Int32)))) x3) fun v298 h299 =>
if x0 = SCR then (
if ib (x4 + (1 : Int32)) X.1 = true then (
if x0 = SCR then (
if ib (x4 + (2 : Int32)) X.1 = true then (
if hS h299 x2 = 11 then (
bI (f_Model_oath h299 x2 (X.2 (ix (x4 + (1 : Int32)))) (X.2 (ix (x4 + (2 : Int32))))) fun v306 h307 =>
if hS h307 x2 = 11 then (
bI (f_Model_thrown h307 x2) fun v310 h311 =>
if v310 = v298 then (
if v298 = 0 then (
if hS h311 x3 = 22 then (
if ib (0 : Int32) (hL h311 x3) = true then (
if (lg_cmp (hJ h311 x3 (ix (0 : Int32))) (Int32.toInt64 v306)) = 0 then (
f_Lw_main_b993 X  k23 h311 x0 x1 x2 x3 x4

) else (
some ((0 : Int32), h311)

)
) else none) else none
) else (
f_Lw_main_b993 X  k23 h311 x0 x1 x2 x3 x4

)

) else (
some ((0 : Int32), h311)

)
) else none) else none) else none) else none) else none) else none) else none) else none) else none) else none
) else (
if ((X.2 (ix x4)) &&& (63 : Int32)) = (15 : Int32) then (
if x0 = SCR then (
if ib (x4 + (1 : Int32)) X.1 = true then (
bI (f_Lw_winter h x1 (X.2 (ix (x4 + (1 : Int32)))) x3) fun v321 h322 =>
if x0 = SCR then (
if ib (x4 + (1 : Int32)) X.1 = true then (
if hS h322 x2 = 11 then (
bI (f_Model_winter h322 x2 (X.2 (ix (x4 + (1 : Int32))))) fun v327 h328 =>
if hS h328 x2 = 11 then (
bI (f_Model_thrown h328 x2) fun v331 h332 =>
if v331 = v321 then (
if v321 = 0 then (
if hS h332 x3 = 22 then (
if ib (0 : Int32) (hL h332 x3) = true then (
if (lg_cmp (hJ h332 x3 (ix (0 : Int32))) (Int32.toInt64 v327)) = 0 then (
f_Lw_main_b1049 X  k23 h332 x0 x1 x2 x3 x4

) else (
some ((0 : Int32), h332)

)
) else none) else none
) else (
f_Lw_main_b1049 X  k23 h332 x0 x1 x2 x3 x4

)

) else (
some ((0 : Int32), h332)

)
) else none) else none) else none) else none) else none) else none
) else (
if ((X.2 (ix x4)) &&& (63 : Int32)) = (16 : Int32) then (
if x0 = SCR then (
if ib (x4 + (1 : Int32)) X.1 = true then (
if x0 = SCR then (
if ib (x4 + (2 : Int32)) X.1 = true then (
if (X.2 (ix (x4 + (2 : Int32)))) = 0 then (
f_Lw_main_b1073 X  k23 h x0 x1 x2 x3 x4 x1 (X.2 (ix (x4 + (1 : Int32)))) (0 : Int32)

) else (
f_Lw_main_b1073 X  k23 h x0 x1 x2 x3 x4 x1 (X.2 (ix (x4 + (1 : Int32)))) (1 : Int32)

)
) else none) else none) else none) else none
) else (
if ((X.2 (ix x4)) &&& (63 : Int32)) = (17 : Int32) then (
if x0 = SCR then (
if ib (x4 + (1 : Int32)) X.1 = true then (
if hS h x1 = 10 then (
bI (f_Water_seed h x1 (X.2 (ix (x4 + (1 : Int32))))) fun v349 h350 =>
if x0 = SCR then (
if ib (x4 + (1 : Int32)) X.1 = true then (
if hS h350 x2 = 11 then (
bI (f_Model_seed h350 x2 (X.2 (ix (x4 + (1 : Int32))))) fun v355 h356 =>
if v349 = v355 then (
f_Lw_main_b2138 X  k23 h356 x0 x1 x2 x3 x4

) else (
some ((0 : Int32), h356)

)
) else none) else none) else none) else none) else none) else none
) else (
if ((X.2 (ix x4)) &&& (63 : Int32)) = (18 : Int32) then (
if x0 = SCR then (
if ib (x4 + (1 : Int32)) X.1 = true then (
if x0 = SCR then (
if ib (x4 + (2 : Int32)) X.1 = true then (
if x0 = SCR then (
if ib (x4 + (3 : Int32)) X.1 = true then (
bI (f_Lw_blend h x1 (X.2 (ix (x4 + (1 : Int32)))) (X.2 (ix (x4 + (2 : Int32)))) (X.2 (ix (x4 + (3 : Int32)))) x3) fun v366 h367 =>
if x0 = SCR then (
if ib (x4 + (1 : Int32)) X.1 = true then (
if x0 = SCR then (
if ib (x4 + (2 : Int32)) X.1 = true then (
if x0 = SCR then (
if ib (x4 + (3 : Int32)) X.1 = true then (
if hS h367 x2 = 11 then (
bI (f_Model_blend h367 x2 (X.2 (ix (x4 + (1 : Int32)))) (X.2 (ix (x4 + (2 : Int32)))) (X.2 (ix (x4 + (3 : Int32))))) fun v376 h377 =>
if hS h377 x2 = 11 then (
bI (f_Model_thrown h377 x2) fun v380 h381 =>
if v380 = v366 then (
if v366 = 0 then (
if hS h381 x3 = 22 then (
if ib (0 : Int32) (hL h381 x3) = true then (
if (lg_cmp (hJ h381 x3 (ix (0 : Int32))) (Int32.toInt64 v376)) = 0 then (
f_Lw_main_b1245 X  k23 h381 x0 x1 x2 x3 x4

) else (
some ((0 : Int32), h381)

)
) else none) else none
) else (
f_Lw_main_b1245 X  k23 h381 x0 x1 x2 x3 x4

)

) else (
some ((0 : Int32), h381)

)
) else none) else none) else none) else none) else none) else none) else none) else none) else none) else none) else none) else none) else none) else none
) else (
if ((X.2 (ix x4)) &&& (63 : Int32)) = (19 : Int32) then (
if hS h x1 = 10 then (
bI (f_Water_lasts h x1) fun v390 h391 =>
if hS h391 x2 = 11 then (
bI (f_Model_lasts h391 x2) fun v394 h395 =>
if v390 = v394 then (
f_Lw_main_b2138 X  k23 h395 x0 x1 x2 x3 x4

) else (
some ((0 : Int32), h395)

)
) else none) else none
) else (
if ((X.2 (ix x4)) &&& (63 : Int32)) = (20 : Int32) then (
if hS h x1 = 10 then (
bI (f_Water_worst h x1) fun v400 h401 =>
if hS h401 x2 = 11 then (
bI (f_Model_worst h401 x2) fun v404 h405 =>
if v400 = v404 then (
f_Lw_main_b2138 X  k23 h405 x0 x1 x2 x3 x4

) else (
some ((0 : Int32), h405)

)
) else none) else none
) else (
if ((X.2 (ix x4)) &&& (63 : Int32)) = (21 : Int32) then (
bI (f_Lw_judge h x1 x3) fun v409 h410 =>
if hS h410 x2 = 11 then (
bI (f_Model_judge h410 x2) fun v413 h414 =>
if hS h414 x2 = 11 then (
bI (f_Model_thrown h414 x2) fun v417 h418 =>
if v417 = v409 then (
if v409 = 0 then (
if hS h418 x3 = 22 then (
if ib (0 : Int32) (hL h418 x3) = true then (
if (lg_cmp (hJ h418 x3 (ix (0 : Int32))) (Int32.toInt64 v413)) = 0 then (
f_Lw_main_b1315 X  k23 h418 x0 x1 x2 x3 x4

) else (
some ((0 : Int32), h418)

)
) else none) else none
) else (
f_Lw_main_b1315 X  k23 h418 x0 x1 x2 x3 x4

)

) else (
some ((0 : Int32), h418)

)
) else none) else none
) else (
if ((X.2 (ix x4)) &&& (63 : Int32)) = (22 : Int32) then (
if x0 = SCR then (
if ib (x4 + (1 : Int32)) X.1 = true then (
if x0 = SCR then (
if ib (x4 + (2 : Int32)) X.1 = true then (
if x0 = SCR then (
if ib (x4 + (3 : Int32)) X.1 = true then (
if x0 = SCR then (
if ib (x4 + (4 : Int32)) X.1 = true then (
if x0 = SCR then (
if ib (x4 + (5 : Int32)) X.1 = true then (
bI (f_Lw_swap h x1 (X.2 (ix (x4 + (1 : Int32)))) (X.2 (ix (x4 + (2 : Int32)))) (X.2 (ix (x4 + (3 : Int32)))) (X.2 (ix (x4 + (4 : Int32)))) (X.2 (ix (x4 + (5 : Int32)))) x3) fun v436 h437 =>
if x0 = SCR then (
if ib (x4 + (1 : Int32)) X.1 = true then (
if x0 = SCR then (
if ib (x4 + (2 : Int32)) X.1 = true then (
if x0 = SCR then (
if ib (x4 + (3 : Int32)) X.1 = true then (
if x0 = SCR then (
if ib (x4 + (4 : Int32)) X.1 = true then (
if x0 = SCR then (
if ib (x4 + (5 : Int32)) X.1 = true then (
if hS h437 x2 = 11 then (
bI (f_Model_swap h437 x2 (X.2 (ix (x4 + (1 : Int32)))) (X.2 (ix (x4 + (2 : Int32)))) (X.2 (ix (x4 + (3 : Int32)))) (X.2 (ix (x4 + (4 : Int32)))) (X.2 (ix (x4 + (5 : Int32))))) fun v450 h451 =>
if hS h451 x2 = 11 then (
bI (f_Model_thrown h451 x2) fun v454 h455 =>
if v454 = v436 then (
if v436 = 0 then (
if hS h455 x3 = 22 then (
if ib (0 : Int32) (hL h455 x3) = true then (
if (lg_cmp (hJ h455 x3 (ix (0 : Int32))) (Int32.toInt64 v450)) = 0 then (
f_Lw_main_b1419 X  k23 h455 x0 x1 x2 x3 x4

) else (
some ((0 : Int32), h455)

)
) else none) else none
) else (
f_Lw_main_b1419 X  k23 h455 x0 x1 x2 x3 x4

)

) else (
some ((0 : Int32), h455)

)
) else none) else none) else none) else none) else none) else none) else none) else none) else none) else none) else none) else none) else none) else none) else none) else none) else none) else none) else none) else none) else none) else none
) else (
if ((X.2 (ix x4)) &&& (63 : Int32)) = (23 : Int32) then (
if x0 = SCR then (
if ib (x4 + (1 : Int32)) X.1 = true then (
if hS h x1 = 10 then (
bI (f_Water_foul h x1 (X.2 (ix (x4 + (1 : Int32))))) fun v466 h467 =>
if x0 = SCR then (
if ib (x4 + (1 : Int32)) X.1 = true then (
if hS h467 x2 = 11 then (
bI (f_Model_foul h467 x2 (X.2 (ix (x4 + (1 : Int32))))) fun v472 h473 =>
if v466 = v472 then (
f_Lw_main_b2138 X  k23 h473 x0 x1 x2 x3 x4

) else (
some ((0 : Int32), h473)

)
) else none) else none) else none) else none) else none) else none
) else (
if ((X.2 (ix x4)) &&& (63 : Int32)) = (24 : Int32) then (
if x0 = SCR then (
if ib (x4 + (1 : Int32)) X.1 = true then (
if hS h x1 = 10 then (
bI (f_Water_fewest h x1 (X.2 (ix (x4 + (1 : Int32))))) fun v480 h481 =>
if x0 = SCR then (
if ib (x4 + (1 : Int32)) X.1 = true then (
if hS h481 x2 = 11 then (
bI (f_Model_fewest h481 x2 (X.2 (ix (x4 + (1 : Int32))))) fun v486 h487 =>
if v480 = v486 then (
f_Lw_main_b2138 X  k23 h487 x0 x1 x2 x3 x4

) else (
some ((0 : Int32), h487)

)
) else none) else none) else none) else none) else none) else none
) else (
if ((X.2 (ix x4)) &&& (63 : Int32)) = (25 : Int32) then (
bI (f_Lw_look h x1 x3) fun v491 h492 =>
if hS h492 x2 = 11 then (
bI (f_Model_look h492 x2) fun v495 h496 =>
if hS h496 x2 = 11 then (
bI (f_Model_thrown h496 x2) fun v499 h500 =>
if v499 = v491 then (
if v491 = 0 then (
if hS h500 x3 = 22 then (
if ib (0 : Int32) (hL h500 x3) = true then (
if (lg_cmp (hJ h500 x3 (ix (0 : Int32))) (Int32.toInt64 v495)) = 0 then (
f_Lw_main_b1513 X  k23 h500 x0 x1 x2 x3 x4

) else (
some ((0 : Int32), h500)

)
) else none) else none
) else (
f_Lw_main_b1513 X  k23 h500 x0 x1 x2 x3 x4

)

) else (
some ((0 : Int32), h500)

)
) else none) else none
) else (
if ((X.2 (ix x4)) &&& (63 : Int32)) = (26 : Int32) then (
if x0 = SCR then (
if ib (x4 + (1 : Int32)) X.1 = true then (
bI (f_Lw_site h x1 (X.2 (ix (x4 + (1 : Int32)))) x3) fun v510 h511 =>
if x0 = SCR then (
if ib (x4 + (1 : Int32)) X.1 = true then (
if hS h511 x2 = 11 then (
bI (f_Model_site h511 x2 (X.2 (ix (x4 + (1 : Int32))))) fun v516 h517 =>
if hS h517 x2 = 11 then (
bI (f_Model_thrown h517 x2) fun v520 h521 =>
if v520 = v510 then (
if v510 = 0 then (
if hS h521 x3 = 22 then (
if ib (0 : Int32) (hL h521 x3) = true then (
if (lg_cmp (hJ h521 x3 (ix (0 : Int32))) (Int32.toInt64 v516)) = 0 then (
f_Lw_main_b1569 X  k23 h521 x0 x1 x2 x3 x4

) else (
some ((0 : Int32), h521)

)
) else none) else none
) else (
f_Lw_main_b1569 X  k23 h521 x0 x1 x2 x3 x4

)

) else (
some ((0 : Int32), h521)

)
) else none) else none) else none) else none) else none) else none
) else (
if ((X.2 (ix x4)) &&& (63 : Int32)) = (27 : Int32) then (
if x0 = SCR then (
if ib (x4 + (1 : Int32)) X.1 = true then (
if x0 = SCR then (
if ib (x4 + (2 : Int32)) X.1 = true then (
bI (f_Lw_owed h x1 (X.2 (ix (x4 + (1 : Int32)))) (X.2 (ix (x4 + (2 : Int32)))) x3) fun v533 h534 =>
if x0 = SCR then (
if ib (x4 + (1 : Int32)) X.1 = true then (
if x0 = SCR then (
if ib (x4 + (2 : Int32)) X.1 = true then (
if hS h534 x2 = 11 then (
bI (f_Model_owed h534 x2 (X.2 (ix (x4 + (1 : Int32)))) (X.2 (ix (x4 + (2 : Int32))))) fun v541 h542 =>
if hS h542 x2 = 11 then (
bI (f_Model_thrown h542 x2) fun v545 h546 =>
if v545 = v533 then (
if v533 = 0 then (
if hS h546 x3 = 22 then (
if ib (0 : Int32) (hL h546 x3) = true then (
if (lg_cmp (hJ h546 x3 (ix (0 : Int32))) (Int32.toInt64 v541)) = 0 then (
f_Lw_main_b1637 X  k23 h546 x0 x1 x2 x3 x4

) else (
some ((0 : Int32), h546)

)
) else none) else none
) else (
f_Lw_main_b1637 X  k23 h546 x0 x1 x2 x3 x4

)

) else (
some ((0 : Int32), h546)

)
) else none) else none) else none) else none) else none) else none) else none) else none) else none) else none
) else (
if ((X.2 (ix x4)) &&& (63 : Int32)) = (28 : Int32) then (
if x0 = SCR then (
if ib (x4 + (1 : Int32)) X.1 = true then (
if x0 = SCR then (
if ib (x4 + (2 : Int32)) X.1 = true then (
if x0 = SCR then (
if ib (x4 + (3 : Int32)) X.1 = true then (
bI (f_Lw_owe h x1 (X.2 (ix (x4 + (1 : Int32)))) (X.2 (ix (x4 + (2 : Int32)))) (X.2 (ix (x4 + (3 : Int32)))) x3) fun v560 h561 =>
if x0 = SCR then (
if ib (x4 + (1 : Int32)) X.1 = true then (
if x0 = SCR then (
if ib (x4 + (2 : Int32)) X.1 = true then (
if x0 = SCR then (
if ib (x4 + (3 : Int32)) X.1 = true then (
if hS h561 x2 = 11 then (
bI (f_Model_owe h561 x2 (X.2 (ix (x4 + (1 : Int32)))) (X.2 (ix (x4 + (2 : Int32)))) (X.2 (ix (x4 + (3 : Int32))))) fun v570 h571 =>
if hS h571 x2 = 11 then (
bI (f_Model_thrown h571 x2) fun v574 h575 =>
if v574 = v560 then (
if v560 = 0 then (
if hS h575 x3 = 22 then (
if ib (0 : Int32) (hL h575 x3) = true then (
if (lg_cmp (hJ h575 x3 (ix (0 : Int32))) (Int32.toInt64 v570)) = 0 then (
f_Lw_main_b1717 X  k23 h575 x0 x1 x2 x3 x4

) else (
some ((0 : Int32), h575)

)
) else none) else none
) else (
f_Lw_main_b1717 X  k23 h575 x0 x1 x2 x3 x4

)

) else (
some ((0 : Int32), h575)

)
) else none) else none) else none) else none) else none) else none) else none) else none) else none) else none) else none) else none) else none) else none
) else (
if ((X.2 (ix x4)) &&& (63 : Int32)) = (29 : Int32) then (
if x0 = SCR then (
if ib (x4 + (1 : Int32)) X.1 = true then (
bI (f_Lw_debt h x1 (X.2 (ix (x4 + (1 : Int32)))) x3) fun v585 h586 =>
if x0 = SCR then (
if ib (x4 + (1 : Int32)) X.1 = true then (
if hS h586 x2 = 11 then (
bI (f_Model_debt h586 x2 (X.2 (ix (x4 + (1 : Int32))))) fun v591 h592 =>
if hS h592 x2 = 11 then (
bI (f_Model_thrown h592 x2) fun v595 h596 =>
if v595 = v585 then (
if v585 = 0 then (
if hS h596 x3 = 22 then (
if ib (0 : Int32) (hL h596 x3) = true then (
if (lg_cmp (hJ h596 x3 (ix (0 : Int32))) (Int32.toInt64 v591)) = 0 then (
f_Lw_main_b1773 X  k23 h596 x0 x1 x2 x3 x4

) else (
some ((0 : Int32), h596)

)
) else none) else none
) else (
f_Lw_main_b1773 X  k23 h596 x0 x1 x2 x3 x4

)

) else (
some ((0 : Int32), h596)

)
) else none) else none) else none) else none) else none) else none
) else (
if ((X.2 (ix x4)) &&& (63 : Int32)) = (30 : Int32) then (
if x0 = SCR then (
if ib (x4 + (1 : Int32)) X.1 = true then (
bI (f_Lw_settle h x1 (X.2 (ix (x4 + (1 : Int32)))) x3) fun v606 h607 =>
if x0 = SCR then (
if ib (x4 + (1 : Int32)) X.1 = true then (
if hS h607 x2 = 11 then (
bI (f_Model_settle h607 x2 (X.2 (ix (x4 + (1 : Int32))))) fun v612 h613 =>
if hS h613 x2 = 11 then (
bI (f_Model_thrown h613 x2) fun v616 h617 =>
if v616 = v606 then (
if v606 = 0 then (
if hS h617 x3 = 22 then (
if ib (0 : Int32) (hL h617 x3) = true then (
if (lg_cmp (hJ h617 x3 (ix (0 : Int32))) (Int32.toInt64 v612)) = 0 then (
f_Lw_main_b1829 X  k23 h617 x0 x1 x2 x3 x4

) else (
some ((0 : Int32), h617)

)
) else none) else none
) else (
f_Lw_main_b1829 X  k23 h617 x0 x1 x2 x3 x4

)

) else (
some ((0 : Int32), h617)

)
) else none) else none) else none) else none) else none) else none
) else (
if ((X.2 (ix x4)) &&& (63 : Int32)) = (31 : Int32) then (
if x0 = SCR then (
if ib (x4 + (1 : Int32)) X.1 = true then (
if x0 = SCR then (
if ib (x4 + (2 : Int32)) X.1 = true then (
if x0 = SCR then (
if ib (x4 + (3 : Int32)) X.1 = true then (
bI (f_Lw_mix h x1 (X.2 (ix (x4 + (1 : Int32)))) (X.2 (ix (x4 + (2 : Int32)))) (X.2 (ix (x4 + (3 : Int32)))) x3) fun v631 h632 =>
if x0 = SCR then (
if ib (x4 + (1 : Int32)) X.1 = true then (
if x0 = SCR then (
if ib (x4 + (2 : Int32)) X.1 = true then (
if x0 = SCR then (
if ib (x4 + (3 : Int32)) X.1 = true then (
if hS h632 x2 = 11 then (
bI (f_Model_mix h632 x2 (X.2 (ix (x4 + (1 : Int32)))) (X.2 (ix (x4 + (2 : Int32)))) (X.2 (ix (x4 + (3 : Int32))))) fun v641 h642 =>
if hS h642 x2 = 11 then (
bI (f_Model_thrown h642 x2) fun v645 h646 =>
if v645 = v631 then (
if v631 = 0 then (
if hS h646 x3 = 22 then (
if ib (0 : Int32) (hL h646 x3) = true then (
if (lg_cmp (hJ h646 x3 (ix (0 : Int32))) (Int32.toInt64 v641)) = 0 then (
f_Lw_main_b1909 X  k23 h646 x0 x1 x2 x3 x4

) else (
some ((0 : Int32), h646)

)
) else none) else none
) else (
f_Lw_main_b1909 X  k23 h646 x0 x1 x2 x3 x4

)

) else (
some ((0 : Int32), h646)

)
) else none) else none) else none) else none) else none) else none) else none) else none) else none) else none) else none) else none) else none) else none
) else (
if ((X.2 (ix x4)) &&& (63 : Int32)) = (32 : Int32) then (
if x0 = SCR then (
if ib (x4 + (1 : Int32)) X.1 = true then (
if (X.2 (ix (x4 + (1 : Int32)))) = 0 then (
f_Lw_main_b1927 X  k23 h x0 x1 x2 x3 x4 x1 (0 : Int32)

) else (
f_Lw_main_b1927 X  k23 h x0 x1 x2 x3 x4 x1 (1 : Int32)

)
) else none) else none
) else (
if ((X.2 (ix x4)) &&& (63 : Int32)) = (33 : Int32) then (
if x0 = SCR then (
if ib (x4 + (1 : Int32)) X.1 = true then (
if x0 = SCR then (
if ib (x4 + (2 : Int32)) X.1 = true then (
bI (f_Lw_enough h x1 (X.2 (ix (x4 + (1 : Int32)))) (X.2 (ix (x4 + (2 : Int32)))) x3) fun v662 h663 =>
if x0 = SCR then (
if ib (x4 + (1 : Int32)) X.1 = true then (
if x0 = SCR then (
if ib (x4 + (2 : Int32)) X.1 = true then (
if hS h663 x2 = 11 then (
bI (f_Model_enough h663 x2 (X.2 (ix (x4 + (1 : Int32)))) (X.2 (ix (x4 + (2 : Int32))))) fun v670 h671 =>
if hS h671 x2 = 11 then (
bI (f_Model_thrown h671 x2) fun v674 h675 =>
if v674 = v662 then (
if v662 = 0 then (
if hS h675 x3 = 22 then (
if ib (0 : Int32) (hL h675 x3) = true then (
if (lg_cmp (hJ h675 x3 (ix (0 : Int32))) (Int32.toInt64 v670)) = 0 then (
f_Lw_main_b2018 X  k23 h675 x0 x1 x2 x3 x4

) else (
some ((0 : Int32), h675)

)
) else none) else none
) else (
f_Lw_main_b2018 X  k23 h675 x0 x1 x2 x3 x4

)

) else (
some ((0 : Int32), h675)

)
) else none) else none) else none) else none) else none) else none) else none) else none) else none) else none
) else (
if ((X.2 (ix x4)) &&& (63 : Int32)) = (34 : Int32) then (
if x0 = SCR then (
if ib (x4 + (1 : Int32)) X.1 = true then (
if x0 = SCR then (
if ib (x4 + (2 : Int32)) X.1 = true then (
bI (f_Lw_latest h x1 (X.2 (ix (x4 + (1 : Int32)))) (X.2 (ix (x4 + (2 : Int32)))) x3) fun v687 h688 =>
if x0 = SCR then (
if ib (x4 + (1 : Int32)) X.1 = true then (
if x0 = SCR then (
if ib (x4 + (2 : Int32)) X.1 = true then (
if hS h688 x2 = 11 then (
bI (f_Model_latest h688 x2 (X.2 (ix (x4 + (1 : Int32)))) (X.2 (ix (x4 + (2 : Int32))))) fun v695 h696 =>
if hS h696 x2 = 11 then (
bI (f_Model_thrown h696 x2) fun v699 h700 =>
if v699 = v687 then (
if v687 = 0 then (
if hS h700 x3 = 22 then (
if ib (0 : Int32) (hL h700 x3) = true then (
if (lg_cmp (hJ h700 x3 (ix (0 : Int32))) (Int32.toInt64 v695)) = 0 then (
f_Lw_main_b2086 X  k23 h700 x0 x1 x2 x3 x4

) else (
some ((0 : Int32), h700)

)
) else none) else none
) else (
f_Lw_main_b2086 X  k23 h700 x0 x1 x2 x3 x4

)

) else (
some ((0 : Int32), h700)

)
) else none) else none) else none) else none) else none) else none) else none) else none) else none) else none
) else (
if ((X.2 (ix x4)) &&& (63 : Int32)) = (35 : Int32) then (
if hS h x1 = 10 then (
bV (f_Water_image h x1) fun h710 =>
if hS h710 x2 = 11 then (
bV (f_Model_image h710 x2) fun h714 =>
f_Lw_main_b2138 X  k23 h714 x0 x1 x2 x3 x4
) else none) else none
) else (
if ((X.2 (ix x4)) &&& (63 : Int32)) = (36 : Int32) then (
if hS h x1 = 10 then (
bI (f_Water_back h x1) fun v718 h719 =>
if hS h719 x2 = 11 then (
bI (f_Model_back h719 x2) fun v722 h723 =>
if v718 = v722 then (
f_Lw_main_b2138 X  k23 h723 x0 x1 x2 x3 x4

) else (
some ((0 : Int32), h723)

)
) else none) else none
) else (
if ((X.2 (ix x4)) &&& (63 : Int32)) = (37 : Int32) then (
if x0 = SCR then (
if ib (x4 + (1 : Int32)) X.1 = true then (
if hS h x1 = 10 then (
bI (f_Water_count h x1 (X.2 (ix (x4 + (1 : Int32))))) fun v730 h731 =>
if x0 = SCR then (
if ib (x4 + (1 : Int32)) X.1 = true then (
if hS h731 x2 = 11 then (
bI (f_Model_count h731 x2 (X.2 (ix (x4 + (1 : Int32))))) fun v736 h737 =>
if v730 = v736 then (
f_Lw_main_b2138 X  k23 h737 x0 x1 x2 x3 x4

) else (
some ((0 : Int32), h737)

)
) else none) else none) else none) else none) else none) else none
) else (
f_Lw_main_b2138 X  k23 h x0 x1 x2 x3 x4

))))))))))))))))))))))))))))))))))))))
) else none) else none
)
) else none
set_option maxRecDepth 20000 in
set_option maxHeartbeats 4000000 in
theorem f_Lw_main_b23_ok {l : Launch} {X : Nat × (Nat → Int32)} (hst : l.stackTraces = false) {d : Nat} (hd : 52 ≤ d)   {k23 : Hp → Nat → Nat → Nat → Nat → Int32 → Option (Int32 × Hp)} (hk23 : ∀ (h : Hp) (x0 : Nat) (x1 : Nat) (x2 : Nat) (x3 : Nat) (x4 : Int32)  (r : Int32 × Hp), k23 h x0 x1 x2 x3 x4 = some r → Rn l X mL_law_ d 23 [(0, .ref x0), (1, .ref x1), (2, .ref x2), (3, .ref x3), (4, .int x4)] [] h (eI r) r.2) {h : Hp} {x0 : Nat} {x1 : Nat} {x2 : Nat} {x3 : Nat} {x4 : Int32}  {r : Int32 × Hp} (E : f_Lw_main_b23 X  k23 h x0 x1 x2 x3 x4 = some r) : Rn l X mL_law_ d 23 [(0, .ref x0), (1, .ref x1), (2, .ref x2), (3, .ref x3), (4, .int x4)] [] h (eI r) r.2 := by
  unfold f_Lw_main_b23 at E
  refine Rn.iload (pc' := 25) dL_law__23 4 rfl rfl ?_
  refine Rn.aload_n (pc' := 26) dL_law__25 rfl 0 rfl rfl ?_
  obtain ⟨g1, E⟩ := gd_of E
  refine Rn.slenE (pc' := 27) g1 dL_law__26 rfl ?_
  refine Rn.bipush (pc' := 29) (v := (6 : Int32)) (hv := by decide) dL_law__27 rfl ?_
  refine Rn.isub (pc' := 30) dL_law__29 rfl ?_
  refine Rn.icmp_gt (pc' := 33) (tgt := 2144) dL_law__30 (by decide) rfl (fun c2 => ?_) (fun c2 => ?_)
  · replace E := (if_of E).1 c2
    refine Rn.iconst (pc' := 2145) (v := (1 : Int32)) (hv := by decide) dL_law__2144 rfl ?_
    cases E
    exact Rn.zret rfl rfl dL_law__2145
  · replace E := (if_of E).2 c2
    refine Rn.aload_n (pc' := 34) dL_law__33 rfl 0 rfl rfl ?_
    refine Rn.iload (pc' := 36) dL_law__34 4 rfl rfl ?_
    obtain ⟨g3, E⟩ := gd_of E
    obtain ⟨g4, E⟩ := gd_of E
    refine Rn.sldE (pc' := 37) g3 g4 dL_law__36 rfl ?_
    refine Rn.bipush (pc' := 39) (v := (63 : Int32)) (hv := by decide) dL_law__37 rfl ?_
    refine Rn.iand (pc' := 40) dL_law__39 rfl ?_
    by_cases c7 : ((X.2 (ix x4)) &&& (63 : Int32)) = (0 : Int32)
    · replace E := (if_of E).1 c7
      skip
      refine Rn.tabIn (x := ((X.2 (ix x4)) &&& (63 : Int32))) (tgt := 208) dL_law__40 (by rw [c7]; decide) (by rw [c7]; decide) (by rw [c7]; rfl) (by decide) ?_
      refine Rn.aload_n (pc' := 209) dL_law__208 rfl 1 rfl rfl ?_
      refine Rn.aload_n (pc' := 210) dL_law__209 rfl 0 rfl rfl ?_
      refine Rn.iload (pc' := 212) dL_law__210 4 rfl rfl ?_
      refine Rn.iconst (pc' := 213) (v := (1 : Int32)) (hv := by decide) dL_law__212 rfl ?_
      refine Rn.iadd (pc' := 214) dL_law__213 rfl ?_
      obtain ⟨g8, E⟩ := gd_of E
      obtain ⟨g9, E⟩ := gd_of E
      refine Rn.sldE (pc' := 215) g8 g9 dL_law__214 rfl ?_
      refine Rn.aload_n (pc' := 216) dL_law__215 rfl 0 rfl rfl ?_
      refine Rn.iload (pc' := 218) dL_law__216 4 rfl rfl ?_
      refine Rn.iconst (pc' := 219) (v := (2 : Int32)) (hv := by decide) dL_law__218 rfl ?_
      refine Rn.iadd (pc' := 220) dL_law__219 rfl ?_
      obtain ⟨g10, E⟩ := gd_of E
      obtain ⟨g11, E⟩ := gd_of E
      refine Rn.sldE (pc' := 221) g10 g11 dL_law__220 rfl ?_
      refine Rn.aload_n (pc' := 222) dL_law__221 rfl 0 rfl rfl ?_
      refine Rn.iload (pc' := 224) dL_law__222 4 rfl rfl ?_
      refine Rn.iconst (pc' := 225) (v := (3 : Int32)) (hv := by decide) dL_law__224 rfl ?_
      refine Rn.iadd (pc' := 226) dL_law__225 rfl ?_
      obtain ⟨g12, E⟩ := gd_of E
      obtain ⟨g13, E⟩ := gd_of E
      refine Rn.sldE (pc' := 227) g12 g13 dL_law__226 rfl ?_
      refine Rn.aload_n (pc' := 228) dL_law__227 rfl 0 rfl rfl ?_
      refine Rn.iload (pc' := 230) dL_law__228 4 rfl rfl ?_
      refine Rn.iconst (pc' := 231) (v := (4 : Int32)) (hv := by decide) dL_law__230 rfl ?_
      refine Rn.iadd (pc' := 232) dL_law__231 rfl ?_
      obtain ⟨g14, E⟩ := gd_of E
      obtain ⟨g15, E⟩ := gd_of E
      refine Rn.sldE (pc' := 233) g14 g15 dL_law__232 rfl ?_
      refine Rn.aload_n (pc' := 234) dL_law__233 rfl 0 rfl rfl ?_
      refine Rn.iload (pc' := 236) dL_law__234 4 rfl rfl ?_
      refine Rn.iconst (pc' := 237) (v := (5 : Int32)) (hv := by decide) dL_law__236 rfl ?_
      refine Rn.iadd (pc' := 238) dL_law__237 rfl ?_
      obtain ⟨g16, E⟩ := gd_of E
      obtain ⟨g17, E⟩ := gd_of E
      refine Rn.sldE (pc' := 239) g16 g17 dL_law__238 rfl ?_
      obtain ⟨g18, E⟩ := gd_of E
      obtain ⟨v19, h20, e21, E⟩ := bI_of E
      refine Rn.callV1 (pc' := 242) (As := [.int (X.2 (ix (x4 + (1 : Int32)))), .int (X.2 (ix (x4 + (2 : Int32)))), .int (X.2 (ix (x4 + (3 : Int32)))), .int (X.2 (ix (x4 + (4 : Int32)))), .int (X.2 (ix (x4 + (5 : Int32))))]) (rest := []) (f_Water_feed_ok hst e21) (Nat.le_trans (by decide) hd) rfl kb_L_102 ki_X10_feed rfl g18 rfl rfl (Nat.le_of_ble_eq_true rfl) dL_law__239 rfl rfl ?_
      refine Rn.aload_n (pc' := 243) dL_law__242 rfl 2 rfl rfl ?_
      refine Rn.aload_n (pc' := 244) dL_law__243 rfl 0 rfl rfl ?_
      refine Rn.iload (pc' := 246) dL_law__244 4 rfl rfl ?_
      refine Rn.iconst (pc' := 247) (v := (1 : Int32)) (hv := by decide) dL_law__246 rfl ?_
      refine Rn.iadd (pc' := 248) dL_law__247 rfl ?_
      obtain ⟨g22, E⟩ := gd_of E
      obtain ⟨g23, E⟩ := gd_of E
      refine Rn.sldE (pc' := 249) g22 g23 dL_law__248 rfl ?_
      refine Rn.aload_n (pc' := 250) dL_law__249 rfl 0 rfl rfl ?_
      refine Rn.iload (pc' := 252) dL_law__250 4 rfl rfl ?_
      refine Rn.iconst (pc' := 253) (v := (2 : Int32)) (hv := by decide) dL_law__252 rfl ?_
      refine Rn.iadd (pc' := 254) dL_law__253 rfl ?_
      obtain ⟨g24, E⟩ := gd_of E
      obtain ⟨g25, E⟩ := gd_of E
      refine Rn.sldE (pc' := 255) g24 g25 dL_law__254 rfl ?_
      refine Rn.aload_n (pc' := 256) dL_law__255 rfl 0 rfl rfl ?_
      refine Rn.iload (pc' := 258) dL_law__256 4 rfl rfl ?_
      refine Rn.iconst (pc' := 259) (v := (3 : Int32)) (hv := by decide) dL_law__258 rfl ?_
      refine Rn.iadd (pc' := 260) dL_law__259 rfl ?_
      obtain ⟨g26, E⟩ := gd_of E
      obtain ⟨g27, E⟩ := gd_of E
      refine Rn.sldE (pc' := 261) g26 g27 dL_law__260 rfl ?_
      refine Rn.aload_n (pc' := 262) dL_law__261 rfl 0 rfl rfl ?_
      refine Rn.iload (pc' := 264) dL_law__262 4 rfl rfl ?_
      refine Rn.iconst (pc' := 265) (v := (4 : Int32)) (hv := by decide) dL_law__264 rfl ?_
      refine Rn.iadd (pc' := 266) dL_law__265 rfl ?_
      obtain ⟨g28, E⟩ := gd_of E
      obtain ⟨g29, E⟩ := gd_of E
      refine Rn.sldE (pc' := 267) g28 g29 dL_law__266 rfl ?_
      refine Rn.aload_n (pc' := 268) dL_law__267 rfl 0 rfl rfl ?_
      refine Rn.iload (pc' := 270) dL_law__268 4 rfl rfl ?_
      refine Rn.iconst (pc' := 271) (v := (5 : Int32)) (hv := by decide) dL_law__270 rfl ?_
      refine Rn.iadd (pc' := 272) dL_law__271 rfl ?_
      obtain ⟨g30, E⟩ := gd_of E
      obtain ⟨g31, E⟩ := gd_of E
      refine Rn.sldE (pc' := 273) g30 g31 dL_law__272 rfl ?_
      obtain ⟨g32, E⟩ := gd_of E
      obtain ⟨v33, h34, e35, E⟩ := bI_of E
      refine Rn.callV1 (pc' := 276) (As := [.int (X.2 (ix (x4 + (1 : Int32)))), .int (X.2 (ix (x4 + (2 : Int32)))), .int (X.2 (ix (x4 + (3 : Int32)))), .int (X.2 (ix (x4 + (4 : Int32)))), .int (X.2 (ix (x4 + (5 : Int32))))]) (rest := [.int v19]) (f_Model_feed_ok hst e35) (Nat.le_trans (by decide) hd) rfl kb_L_105 ki_X11_feed rfl g32 rfl rfl (Nat.le_of_ble_eq_true rfl) dL_law__273 rfl rfl ?_
      refine Rn.icmp_eq (pc' := 279) (tgt := 2138) dL_law__276 (by decide) rfl (fun c36 => ?_) (fun c36 => ?_)
      · replace E := (if_of E).1 c36
        exact f_Lw_main_b2138_ok hst hd  hk23 E
      · replace E := (if_of E).2 c36
        refine Rn.iconst (pc' := 280) (v := (0 : Int32)) (hv := by decide) dL_law__279 rfl ?_
        cases E
        exact Rn.zret rfl rfl dL_law__280
    replace E := (if_of E).2 c7
    by_cases c37 : ((X.2 (ix x4)) &&& (63 : Int32)) = (1 : Int32)
    · replace E := (if_of E).1 c37
      skip
      refine Rn.tabIn (x := ((X.2 (ix x4)) &&& (63 : Int32))) (tgt := 281) dL_law__40 (by rw [c37]; decide) (by rw [c37]; decide) (by rw [c37]; rfl) (by decide) ?_
      refine Rn.aload_n (pc' := 282) dL_law__281 rfl 1 rfl rfl ?_
      refine Rn.aload_n (pc' := 283) dL_law__282 rfl 0 rfl rfl ?_
      refine Rn.iload (pc' := 285) dL_law__283 4 rfl rfl ?_
      refine Rn.iconst (pc' := 286) (v := (1 : Int32)) (hv := by decide) dL_law__285 rfl ?_
      refine Rn.iadd (pc' := 287) dL_law__286 rfl ?_
      obtain ⟨g38, E⟩ := gd_of E
      obtain ⟨g39, E⟩ := gd_of E
      refine Rn.sldE (pc' := 288) g38 g39 dL_law__287 rfl ?_
      obtain ⟨g40, E⟩ := gd_of E
      obtain ⟨v41, h42, e43, E⟩ := bI_of E
      refine Rn.callV1 (pc' := 291) (As := [.int (X.2 (ix (x4 + (1 : Int32))))]) (rest := []) (f_Water_end_ok hst e43) (Nat.le_trans (by decide) hd) rfl kb_L_106 ki_X10_end rfl g40 rfl rfl (Nat.le_of_ble_eq_true rfl) dL_law__288 rfl rfl ?_
      refine Rn.aload_n (pc' := 292) dL_law__291 rfl 2 rfl rfl ?_
      refine Rn.aload_n (pc' := 293) dL_law__292 rfl 0 rfl rfl ?_
      refine Rn.iload (pc' := 295) dL_law__293 4 rfl rfl ?_
      refine Rn.iconst (pc' := 296) (v := (1 : Int32)) (hv := by decide) dL_law__295 rfl ?_
      refine Rn.iadd (pc' := 297) dL_law__296 rfl ?_
      obtain ⟨g44, E⟩ := gd_of E
      obtain ⟨g45, E⟩ := gd_of E
      refine Rn.sldE (pc' := 298) g44 g45 dL_law__297 rfl ?_
      obtain ⟨g46, E⟩ := gd_of E
      obtain ⟨v47, h48, e49, E⟩ := bI_of E
      refine Rn.callV1 (pc' := 301) (As := [.int (X.2 (ix (x4 + (1 : Int32))))]) (rest := [.int v41]) (f_Model_end_ok hst e49) (Nat.le_trans (by decide) hd) rfl kb_L_110 ki_X11_end rfl g46 rfl rfl (Nat.le_of_ble_eq_true rfl) dL_law__298 rfl rfl ?_
      refine Rn.icmp_eq (pc' := 304) (tgt := 2138) dL_law__301 (by decide) rfl (fun c50 => ?_) (fun c50 => ?_)
      · replace E := (if_of E).1 c50
        exact f_Lw_main_b2138_ok hst hd  hk23 E
      · replace E := (if_of E).2 c50
        refine Rn.iconst (pc' := 305) (v := (0 : Int32)) (hv := by decide) dL_law__304 rfl ?_
        cases E
        exact Rn.zret rfl rfl dL_law__305
    replace E := (if_of E).2 c37
    by_cases c51 : ((X.2 (ix x4)) &&& (63 : Int32)) = (2 : Int32)
    · replace E := (if_of E).1 c51
      skip
      refine Rn.tabIn (x := ((X.2 (ix x4)) &&& (63 : Int32))) (tgt := 306) dL_law__40 (by rw [c51]; decide) (by rw [c51]; decide) (by rw [c51]; rfl) (by decide) ?_
      refine Rn.aload_n (pc' := 307) dL_law__306 rfl 1 rfl rfl ?_
      refine Rn.aload_n (pc' := 308) dL_law__307 rfl 3 rfl rfl ?_
      obtain ⟨v52, h53, e54, E⟩ := bI_of E
      refine Rn.callSX1 (pc' := 311) (As := [.ref x1, .ref x3]) (rest := []) (f_Lw_land_ok hst e54) (Nat.le_trans (by decide) hd) rfl kb_L_111 ks_L_land rfl rfl (Nat.le_of_ble_eq_true rfl) dL_law__308 rfl rfl ?_
      refine Rn.istore (pc' := 313) (L' := [(5, .int v52), (0, .ref x0), (1, .ref x1), (2, .ref x2), (3, .ref x3), (4, .int x4)]) dL_law__311 (by decide) rfl rfl ?_
      refine Rn.aload_n (pc' := 314) dL_law__313 rfl 3 rfl rfl ?_
      obtain ⟨g55, E⟩ := gd_of E
      obtain ⟨v56, h57, e58, E⟩ := bI_of E
      refine Rn.callV1 (pc' := 317) (As := []) (rest := []) (f_Model_land_ok hst e58) (Nat.le_trans (by decide) hd) rfl kb_L_116 ki_X11_land rfl g55 rfl rfl (Nat.le_of_ble_eq_true rfl) dL_law__314 rfl rfl ?_
      refine Rn.istore (pc' := 319) (L' := [(6, .int v56), (5, .int v52), (0, .ref x0), (1, .ref x1), (2, .ref x2), (3, .ref x3), (4, .int x4)]) dL_law__317 (by decide) rfl rfl ?_
      refine Rn.aload_n (pc' := 320) dL_law__319 rfl 4 rfl rfl ?_
      obtain ⟨g59, E⟩ := gd_of E
      obtain ⟨v60, h61, e62, E⟩ := bI_of E
      refine Rn.callV1 (pc' := 323) (As := []) (rest := []) (f_Model_thrown_ok hst e62) (Nat.le_trans (by decide) hd) rfl kb_L_117 ki_X11_thrown rfl g59 rfl rfl (Nat.le_of_ble_eq_true rfl) dL_law__320 rfl rfl ?_
      refine Rn.iload (pc' := 325) dL_law__323 1 rfl rfl ?_
      refine Rn.icmp_eq (pc' := 328) (tgt := 330) dL_law__325 (by decide) rfl (fun c63 => ?_) (fun c63 => ?_)
      · replace E := (if_of E).1 c63
        refine Rn.iload (pc' := 332) dL_law__330 1 rfl rfl ?_
        refine Rn.if_ne (pc' := 335) (tgt := 347) dL_law__332 (by decide) rfl (fun c64 => ?_) (fun c64 => ?_)
        · replace E := (if_of E).2 c64
          refine Rn.sub [2, 3, 4, 5, 6] rfl ?_
          exact f_Lw_main_b347_ok hst hd  hk23 E
        · replace E := (if_of E).1 c64
          refine Rn.aload_n (pc' := 336) dL_law__335 rfl 5 rfl rfl ?_
          refine Rn.iconst (pc' := 337) (v := (0 : Int32)) (hv := by decide) dL_law__336 rfl ?_
          obtain ⟨g65, E⟩ := gd_of E
          obtain ⟨g66, E⟩ := gd_of E
          refine Rn.lald (pc' := 338) g65 g66 dL_law__337 rfl ?_
          refine Rn.iload (pc' := 340) dL_law__338 0 rfl rfl ?_
          refine Rn.i2l (pc' := 341) dL_law__340 rfl ?_
          refine Rn.lcmp (pc' := 342) dL_law__341 rfl ?_
          refine Rn.if_eq (pc' := 345) (tgt := 347) dL_law__342 (by decide) rfl (fun c67 => ?_) (fun c67 => ?_)
          · replace E := (if_of E).1 c67
            refine Rn.sub [2, 3, 4, 5, 6] rfl ?_
            exact f_Lw_main_b347_ok hst hd  hk23 E
          · replace E := (if_of E).2 c67
            refine Rn.iconst (pc' := 346) (v := (0 : Int32)) (hv := by decide) dL_law__345 rfl ?_
            cases E
            exact Rn.zret rfl rfl dL_law__346
      · replace E := (if_of E).2 c63
        refine Rn.iconst (pc' := 329) (v := (0 : Int32)) (hv := by decide) dL_law__328 rfl ?_
        cases E
        exact Rn.zret rfl rfl dL_law__329
    replace E := (if_of E).2 c51
    by_cases c68 : ((X.2 (ix x4)) &&& (63 : Int32)) = (3 : Int32)
    · replace E := (if_of E).1 c68
      skip
      refine Rn.tabIn (x := ((X.2 (ix x4)) &&& (63 : Int32))) (tgt := 350) dL_law__40 (by rw [c68]; decide) (by rw [c68]; decide) (by rw [c68]; rfl) (by decide) ?_
      refine Rn.aload_n (pc' := 351) dL_law__350 rfl 1 rfl rfl ?_
      refine Rn.aload_n (pc' := 352) dL_law__351 rfl 3 rfl rfl ?_
      obtain ⟨v69, h70, e71, E⟩ := bI_of E
      refine Rn.callSX1 (pc' := 355) (As := [.ref x1, .ref x3]) (rest := []) (f_Lw_law_ok hst e71) (Nat.le_trans (by decide) hd) rfl kb_L_120 ks_L_law rfl rfl (Nat.le_of_ble_eq_true rfl) dL_law__352 rfl rfl ?_
      refine Rn.istore (pc' := 357) (L' := [(5, .int v69), (0, .ref x0), (1, .ref x1), (2, .ref x2), (3, .ref x3), (4, .int x4)]) dL_law__355 (by decide) rfl rfl ?_
      refine Rn.aload_n (pc' := 358) dL_law__357 rfl 3 rfl rfl ?_
      obtain ⟨g72, E⟩ := gd_of E
      obtain ⟨v73, h74, e75, E⟩ := bI_of E
      refine Rn.callV1 (pc' := 361) (As := []) (rest := []) (f_Model_law_ok hst e75) (Nat.le_trans (by decide) hd) rfl kb_L_122 ki_X11_law rfl g72 rfl rfl (Nat.le_of_ble_eq_true rfl) dL_law__358 rfl rfl ?_
      refine Rn.istore (pc' := 363) (L' := [(6, .int v73), (5, .int v69), (0, .ref x0), (1, .ref x1), (2, .ref x2), (3, .ref x3), (4, .int x4)]) dL_law__361 (by decide) rfl rfl ?_
      refine Rn.aload_n (pc' := 364) dL_law__363 rfl 4 rfl rfl ?_
      obtain ⟨g76, E⟩ := gd_of E
      obtain ⟨v77, h78, e79, E⟩ := bI_of E
      refine Rn.callV1 (pc' := 367) (As := []) (rest := []) (f_Model_thrown_ok hst e79) (Nat.le_trans (by decide) hd) rfl kb_L_117 ki_X11_thrown rfl g76 rfl rfl (Nat.le_of_ble_eq_true rfl) dL_law__364 rfl rfl ?_
      refine Rn.iload (pc' := 369) dL_law__367 1 rfl rfl ?_
      refine Rn.icmp_eq (pc' := 372) (tgt := 374) dL_law__369 (by decide) rfl (fun c80 => ?_) (fun c80 => ?_)
      · replace E := (if_of E).1 c80
        refine Rn.iload (pc' := 376) dL_law__374 1 rfl rfl ?_
        refine Rn.if_ne (pc' := 379) (tgt := 391) dL_law__376 (by decide) rfl (fun c81 => ?_) (fun c81 => ?_)
        · replace E := (if_of E).2 c81
          refine Rn.sub [2, 3, 4, 5, 6] rfl ?_
          exact f_Lw_main_b391_ok hst hd  hk23 E
        · replace E := (if_of E).1 c81
          refine Rn.aload_n (pc' := 380) dL_law__379 rfl 5 rfl rfl ?_
          refine Rn.iconst (pc' := 381) (v := (0 : Int32)) (hv := by decide) dL_law__380 rfl ?_
          obtain ⟨g82, E⟩ := gd_of E
          obtain ⟨g83, E⟩ := gd_of E
          refine Rn.lald (pc' := 382) g82 g83 dL_law__381 rfl ?_
          refine Rn.iload (pc' := 384) dL_law__382 0 rfl rfl ?_
          refine Rn.i2l (pc' := 385) dL_law__384 rfl ?_
          refine Rn.lcmp (pc' := 386) dL_law__385 rfl ?_
          refine Rn.if_eq (pc' := 389) (tgt := 391) dL_law__386 (by decide) rfl (fun c84 => ?_) (fun c84 => ?_)
          · replace E := (if_of E).1 c84
            refine Rn.sub [2, 3, 4, 5, 6] rfl ?_
            exact f_Lw_main_b391_ok hst hd  hk23 E
          · replace E := (if_of E).2 c84
            refine Rn.iconst (pc' := 390) (v := (0 : Int32)) (hv := by decide) dL_law__389 rfl ?_
            cases E
            exact Rn.zret rfl rfl dL_law__390
      · replace E := (if_of E).2 c80
        refine Rn.iconst (pc' := 373) (v := (0 : Int32)) (hv := by decide) dL_law__372 rfl ?_
        cases E
        exact Rn.zret rfl rfl dL_law__373
    replace E := (if_of E).2 c68
    by_cases c85 : ((X.2 (ix x4)) &&& (63 : Int32)) = (4 : Int32)
    · replace E := (if_of E).1 c85
      skip
      refine Rn.tabIn (x := ((X.2 (ix x4)) &&& (63 : Int32))) (tgt := 394) dL_law__40 (by rw [c85]; decide) (by rw [c85]; decide) (by rw [c85]; rfl) (by decide) ?_
      refine Rn.aload_n (pc' := 395) dL_law__394 rfl 1 rfl rfl ?_
      obtain ⟨g86, E⟩ := gd_of E
      obtain ⟨v87, h88, e89, E⟩ := bI_of E
      refine Rn.callV1 (pc' := 398) (As := []) (rest := []) (f_Water_fault_ok hst e89) (Nat.le_trans (by decide) hd) rfl kb_L_123 ki_X10_fault rfl g86 rfl rfl (Nat.le_of_ble_eq_true rfl) dL_law__395 rfl rfl ?_
      refine Rn.aload_n (pc' := 399) dL_law__398 rfl 2 rfl rfl ?_
      obtain ⟨g90, E⟩ := gd_of E
      obtain ⟨v91, h92, e93, E⟩ := bI_of E
      refine Rn.callV1 (pc' := 402) (As := []) (rest := [.int v87]) (f_Model_fault_ok hst e93) (Nat.le_trans (by decide) hd) rfl kb_L_126 ki_X11_fault rfl g90 rfl rfl (Nat.le_of_ble_eq_true rfl) dL_law__399 rfl rfl ?_
      refine Rn.icmp_eq (pc' := 405) (tgt := 2138) dL_law__402 (by decide) rfl (fun c94 => ?_) (fun c94 => ?_)
      · replace E := (if_of E).1 c94
        exact f_Lw_main_b2138_ok hst hd  hk23 E
      · replace E := (if_of E).2 c94
        refine Rn.iconst (pc' := 406) (v := (0 : Int32)) (hv := by decide) dL_law__405 rfl ?_
        cases E
        exact Rn.zret rfl rfl dL_law__406
    replace E := (if_of E).2 c85
    by_cases c95 : ((X.2 (ix x4)) &&& (63 : Int32)) = (5 : Int32)
    · replace E := (if_of E).1 c95
      skip
      refine Rn.tabIn (x := ((X.2 (ix x4)) &&& (63 : Int32))) (tgt := 407) dL_law__40 (by rw [c95]; decide) (by rw [c95]; decide) (by rw [c95]; rfl) (by decide) ?_
      refine Rn.aload_n (pc' := 408) dL_law__407 rfl 1 rfl rfl ?_
      refine Rn.aload_n (pc' := 409) dL_law__408 rfl 0 rfl rfl ?_
      refine Rn.iload (pc' := 411) dL_law__409 4 rfl rfl ?_
      refine Rn.iconst (pc' := 412) (v := (1 : Int32)) (hv := by decide) dL_law__411 rfl ?_
      refine Rn.iadd (pc' := 413) dL_law__412 rfl ?_
      obtain ⟨g96, E⟩ := gd_of E
      obtain ⟨g97, E⟩ := gd_of E
      refine Rn.sldE (pc' := 414) g96 g97 dL_law__413 rfl ?_
      refine Rn.aload_n (pc' := 415) dL_law__414 rfl 0 rfl rfl ?_
      refine Rn.iload (pc' := 417) dL_law__415 4 rfl rfl ?_
      refine Rn.iconst (pc' := 418) (v := (2 : Int32)) (hv := by decide) dL_law__417 rfl ?_
      refine Rn.iadd (pc' := 419) dL_law__418 rfl ?_
      obtain ⟨g98, E⟩ := gd_of E
      obtain ⟨g99, E⟩ := gd_of E
      refine Rn.sldE (pc' := 420) g98 g99 dL_law__419 rfl ?_
      refine Rn.aload_n (pc' := 421) dL_law__420 rfl 3 rfl rfl ?_
      obtain ⟨v100, h101, e102, E⟩ := bI_of E
      refine Rn.callSX1 (pc' := 424) (As := [.ref x1, .int (X.2 (ix (x4 + (1 : Int32)))), .int (X.2 (ix (x4 + (2 : Int32)))), .ref x3]) (rest := []) (f_Lw_cistern_ok hst e102) (Nat.le_trans (by decide) hd) rfl kb_L_127 ks_L_cistern rfl rfl (Nat.le_of_ble_eq_true rfl) dL_law__421 rfl rfl ?_
      refine Rn.istore (pc' := 426) (L' := [(5, .int v100), (0, .ref x0), (1, .ref x1), (2, .ref x2), (3, .ref x3), (4, .int x4)]) dL_law__424 (by decide) rfl rfl ?_
      refine Rn.aload_n (pc' := 427) dL_law__426 rfl 3 rfl rfl ?_
      refine Rn.aload_n (pc' := 428) dL_law__427 rfl 1 rfl rfl ?_
      refine Rn.iload (pc' := 430) dL_law__428 5 rfl rfl ?_
      refine Rn.iconst (pc' := 431) (v := (1 : Int32)) (hv := by decide) dL_law__430 rfl ?_
      refine Rn.iadd (pc' := 432) dL_law__431 rfl ?_
      obtain ⟨g103, E⟩ := gd_of E
      obtain ⟨g104, E⟩ := gd_of E
      refine Rn.sldE (pc' := 433) g103 g104 dL_law__432 rfl ?_
      refine Rn.aload_n (pc' := 434) dL_law__433 rfl 1 rfl rfl ?_
      refine Rn.iload (pc' := 436) dL_law__434 5 rfl rfl ?_
      refine Rn.iconst (pc' := 437) (v := (2 : Int32)) (hv := by decide) dL_law__436 rfl ?_
      refine Rn.iadd (pc' := 438) dL_law__437 rfl ?_
      obtain ⟨g105, E⟩ := gd_of E
      obtain ⟨g106, E⟩ := gd_of E
      refine Rn.sldE (pc' := 439) g105 g106 dL_law__438 rfl ?_
      obtain ⟨g107, E⟩ := gd_of E
      obtain ⟨v108, h109, e110, E⟩ := bI_of E
      refine Rn.callV1 (pc' := 442) (As := [.int (X.2 (ix (x4 + (1 : Int32)))), .int (X.2 (ix (x4 + (2 : Int32))))]) (rest := []) (f_Model_cistern_ok hst e110) (Nat.le_trans (by decide) hd) rfl kb_L_130 ki_X11_cistern rfl g107 rfl rfl (Nat.le_of_ble_eq_true rfl) dL_law__439 rfl rfl ?_
      refine Rn.istore (pc' := 444) (L' := [(6, .int v108), (5, .int v100), (0, .ref x0), (1, .ref x1), (2, .ref x2), (3, .ref x3), (4, .int x4)]) dL_law__442 (by decide) rfl rfl ?_
      refine Rn.aload_n (pc' := 445) dL_law__444 rfl 4 rfl rfl ?_
      obtain ⟨g111, E⟩ := gd_of E
      obtain ⟨v112, h113, e114, E⟩ := bI_of E
      refine Rn.callV1 (pc' := 448) (As := []) (rest := []) (f_Model_thrown_ok hst e114) (Nat.le_trans (by decide) hd) rfl kb_L_117 ki_X11_thrown rfl g111 rfl rfl (Nat.le_of_ble_eq_true rfl) dL_law__445 rfl rfl ?_
      refine Rn.iload (pc' := 450) dL_law__448 1 rfl rfl ?_
      refine Rn.icmp_eq (pc' := 453) (tgt := 455) dL_law__450 (by decide) rfl (fun c115 => ?_) (fun c115 => ?_)
      · replace E := (if_of E).1 c115
        refine Rn.iload (pc' := 457) dL_law__455 1 rfl rfl ?_
        refine Rn.if_ne (pc' := 460) (tgt := 472) dL_law__457 (by decide) rfl (fun c116 => ?_) (fun c116 => ?_)
        · replace E := (if_of E).2 c116
          refine Rn.sub [2, 3, 4, 5, 6] rfl ?_
          exact f_Lw_main_b472_ok hst hd  hk23 E
        · replace E := (if_of E).1 c116
          refine Rn.aload_n (pc' := 461) dL_law__460 rfl 5 rfl rfl ?_
          refine Rn.iconst (pc' := 462) (v := (0 : Int32)) (hv := by decide) dL_law__461 rfl ?_
          obtain ⟨g117, E⟩ := gd_of E
          obtain ⟨g118, E⟩ := gd_of E
          refine Rn.lald (pc' := 463) g117 g118 dL_law__462 rfl ?_
          refine Rn.iload (pc' := 465) dL_law__463 0 rfl rfl ?_
          refine Rn.i2l (pc' := 466) dL_law__465 rfl ?_
          refine Rn.lcmp (pc' := 467) dL_law__466 rfl ?_
          refine Rn.if_eq (pc' := 470) (tgt := 472) dL_law__467 (by decide) rfl (fun c119 => ?_) (fun c119 => ?_)
          · replace E := (if_of E).1 c119
            refine Rn.sub [2, 3, 4, 5, 6] rfl ?_
            exact f_Lw_main_b472_ok hst hd  hk23 E
          · replace E := (if_of E).2 c119
            refine Rn.iconst (pc' := 471) (v := (0 : Int32)) (hv := by decide) dL_law__470 rfl ?_
            cases E
            exact Rn.zret rfl rfl dL_law__471
      · replace E := (if_of E).2 c115
        refine Rn.iconst (pc' := 454) (v := (0 : Int32)) (hv := by decide) dL_law__453 rfl ?_
        cases E
        exact Rn.zret rfl rfl dL_law__454
    replace E := (if_of E).2 c95
    by_cases c120 : ((X.2 (ix x4)) &&& (63 : Int32)) = (6 : Int32)
    · replace E := (if_of E).1 c120
      skip
      refine Rn.tabIn (x := ((X.2 (ix x4)) &&& (63 : Int32))) (tgt := 475) dL_law__40 (by rw [c120]; decide) (by rw [c120]; decide) (by rw [c120]; rfl) (by decide) ?_
      refine Rn.aload_n (pc' := 476) dL_law__475 rfl 1 rfl rfl ?_
      refine Rn.aload_n (pc' := 477) dL_law__476 rfl 0 rfl rfl ?_
      refine Rn.iload (pc' := 479) dL_law__477 4 rfl rfl ?_
      refine Rn.iconst (pc' := 480) (v := (1 : Int32)) (hv := by decide) dL_law__479 rfl ?_
      refine Rn.iadd (pc' := 481) dL_law__480 rfl ?_
      obtain ⟨g121, E⟩ := gd_of E
      obtain ⟨g122, E⟩ := gd_of E
      refine Rn.sldE (pc' := 482) g121 g122 dL_law__481 rfl ?_
      refine Rn.aload_n (pc' := 483) dL_law__482 rfl 0 rfl rfl ?_
      refine Rn.iload (pc' := 485) dL_law__483 4 rfl rfl ?_
      refine Rn.iconst (pc' := 486) (v := (2 : Int32)) (hv := by decide) dL_law__485 rfl ?_
      refine Rn.iadd (pc' := 487) dL_law__486 rfl ?_
      obtain ⟨g123, E⟩ := gd_of E
      obtain ⟨g124, E⟩ := gd_of E
      refine Rn.sldE (pc' := 488) g123 g124 dL_law__487 rfl ?_
      refine Rn.aload_n (pc' := 489) dL_law__488 rfl 3 rfl rfl ?_
      obtain ⟨v125, h126, e127, E⟩ := bI_of E
      refine Rn.callSX1 (pc' := 492) (As := [.ref x1, .int (X.2 (ix (x4 + (1 : Int32)))), .int (X.2 (ix (x4 + (2 : Int32)))), .ref x3]) (rest := []) (f_Lw_layer_ok hst e127) (Nat.le_trans (by decide) hd) rfl kb_L_131 ks_L_layer rfl rfl (Nat.le_of_ble_eq_true rfl) dL_law__489 rfl rfl ?_
      refine Rn.istore (pc' := 494) (L' := [(5, .int v125), (0, .ref x0), (1, .ref x1), (2, .ref x2), (3, .ref x3), (4, .int x4)]) dL_law__492 (by decide) rfl rfl ?_
      refine Rn.aload_n (pc' := 495) dL_law__494 rfl 3 rfl rfl ?_
      refine Rn.aload_n (pc' := 496) dL_law__495 rfl 1 rfl rfl ?_
      refine Rn.iload (pc' := 498) dL_law__496 5 rfl rfl ?_
      refine Rn.iconst (pc' := 499) (v := (1 : Int32)) (hv := by decide) dL_law__498 rfl ?_
      refine Rn.iadd (pc' := 500) dL_law__499 rfl ?_
      obtain ⟨g128, E⟩ := gd_of E
      obtain ⟨g129, E⟩ := gd_of E
      refine Rn.sldE (pc' := 501) g128 g129 dL_law__500 rfl ?_
      refine Rn.aload_n (pc' := 502) dL_law__501 rfl 1 rfl rfl ?_
      refine Rn.iload (pc' := 504) dL_law__502 5 rfl rfl ?_
      refine Rn.iconst (pc' := 505) (v := (2 : Int32)) (hv := by decide) dL_law__504 rfl ?_
      refine Rn.iadd (pc' := 506) dL_law__505 rfl ?_
      obtain ⟨g130, E⟩ := gd_of E
      obtain ⟨g131, E⟩ := gd_of E
      refine Rn.sldE (pc' := 507) g130 g131 dL_law__506 rfl ?_
      obtain ⟨g132, E⟩ := gd_of E
      obtain ⟨v133, h134, e135, E⟩ := bI_of E
      refine Rn.callV1 (pc' := 510) (As := [.int (X.2 (ix (x4 + (1 : Int32)))), .int (X.2 (ix (x4 + (2 : Int32))))]) (rest := []) (f_Model_layer_ok hst e135) (Nat.le_trans (by decide) hd) rfl kb_L_133 ki_X11_layer rfl g132 rfl rfl (Nat.le_of_ble_eq_true rfl) dL_law__507 rfl rfl ?_
      refine Rn.istore (pc' := 512) (L' := [(6, .int v133), (5, .int v125), (0, .ref x0), (1, .ref x1), (2, .ref x2), (3, .ref x3), (4, .int x4)]) dL_law__510 (by decide) rfl rfl ?_
      refine Rn.aload_n (pc' := 513) dL_law__512 rfl 4 rfl rfl ?_
      obtain ⟨g136, E⟩ := gd_of E
      obtain ⟨v137, h138, e139, E⟩ := bI_of E
      refine Rn.callV1 (pc' := 516) (As := []) (rest := []) (f_Model_thrown_ok hst e139) (Nat.le_trans (by decide) hd) rfl kb_L_117 ki_X11_thrown rfl g136 rfl rfl (Nat.le_of_ble_eq_true rfl) dL_law__513 rfl rfl ?_
      refine Rn.iload (pc' := 518) dL_law__516 1 rfl rfl ?_
      refine Rn.icmp_eq (pc' := 521) (tgt := 523) dL_law__518 (by decide) rfl (fun c140 => ?_) (fun c140 => ?_)
      · replace E := (if_of E).1 c140
        refine Rn.iload (pc' := 525) dL_law__523 1 rfl rfl ?_
        refine Rn.if_ne (pc' := 528) (tgt := 540) dL_law__525 (by decide) rfl (fun c141 => ?_) (fun c141 => ?_)
        · replace E := (if_of E).2 c141
          refine Rn.sub [2, 3, 4, 5, 6] rfl ?_
          exact f_Lw_main_b540_ok hst hd  hk23 E
        · replace E := (if_of E).1 c141
          refine Rn.aload_n (pc' := 529) dL_law__528 rfl 5 rfl rfl ?_
          refine Rn.iconst (pc' := 530) (v := (0 : Int32)) (hv := by decide) dL_law__529 rfl ?_
          obtain ⟨g142, E⟩ := gd_of E
          obtain ⟨g143, E⟩ := gd_of E
          refine Rn.lald (pc' := 531) g142 g143 dL_law__530 rfl ?_
          refine Rn.iload (pc' := 533) dL_law__531 0 rfl rfl ?_
          refine Rn.i2l (pc' := 534) dL_law__533 rfl ?_
          refine Rn.lcmp (pc' := 535) dL_law__534 rfl ?_
          refine Rn.if_eq (pc' := 538) (tgt := 540) dL_law__535 (by decide) rfl (fun c144 => ?_) (fun c144 => ?_)
          · replace E := (if_of E).1 c144
            refine Rn.sub [2, 3, 4, 5, 6] rfl ?_
            exact f_Lw_main_b540_ok hst hd  hk23 E
          · replace E := (if_of E).2 c144
            refine Rn.iconst (pc' := 539) (v := (0 : Int32)) (hv := by decide) dL_law__538 rfl ?_
            cases E
            exact Rn.zret rfl rfl dL_law__539
      · replace E := (if_of E).2 c140
        refine Rn.iconst (pc' := 522) (v := (0 : Int32)) (hv := by decide) dL_law__521 rfl ?_
        cases E
        exact Rn.zret rfl rfl dL_law__522
    replace E := (if_of E).2 c120
    by_cases c145 : ((X.2 (ix x4)) &&& (63 : Int32)) = (7 : Int32)
    · replace E := (if_of E).1 c145
      skip
      refine Rn.tabIn (x := ((X.2 (ix x4)) &&& (63 : Int32))) (tgt := 543) dL_law__40 (by rw [c145]; decide) (by rw [c145]; decide) (by rw [c145]; rfl) (by decide) ?_
      refine Rn.aload_n (pc' := 544) dL_law__543 rfl 1 rfl rfl ?_
      refine Rn.aload_n (pc' := 545) dL_law__544 rfl 0 rfl rfl ?_
      refine Rn.iload (pc' := 547) dL_law__545 4 rfl rfl ?_
      refine Rn.iconst (pc' := 548) (v := (1 : Int32)) (hv := by decide) dL_law__547 rfl ?_
      refine Rn.iadd (pc' := 549) dL_law__548 rfl ?_
      obtain ⟨g146, E⟩ := gd_of E
      obtain ⟨g147, E⟩ := gd_of E
      refine Rn.sldE (pc' := 550) g146 g147 dL_law__549 rfl ?_
      refine Rn.aload_n (pc' := 551) dL_law__550 rfl 3 rfl rfl ?_
      obtain ⟨v148, h149, e150, E⟩ := bI_of E
      refine Rn.callSX1 (pc' := 554) (As := [.ref x1, .int (X.2 (ix (x4 + (1 : Int32)))), .ref x3]) (rest := []) (f_Lw_salt_ok hst e150) (Nat.le_trans (by decide) hd) rfl kb_L_134 ks_L_salt rfl rfl (Nat.le_of_ble_eq_true rfl) dL_law__551 rfl rfl ?_
      refine Rn.istore (pc' := 556) (L' := [(5, .int v148), (0, .ref x0), (1, .ref x1), (2, .ref x2), (3, .ref x3), (4, .int x4)]) dL_law__554 (by decide) rfl rfl ?_
      refine Rn.aload_n (pc' := 557) dL_law__556 rfl 3 rfl rfl ?_
      refine Rn.aload_n (pc' := 558) dL_law__557 rfl 1 rfl rfl ?_
      refine Rn.iload (pc' := 560) dL_law__558 5 rfl rfl ?_
      refine Rn.iconst (pc' := 561) (v := (1 : Int32)) (hv := by decide) dL_law__560 rfl ?_
      refine Rn.iadd (pc' := 562) dL_law__561 rfl ?_
      obtain ⟨g151, E⟩ := gd_of E
      obtain ⟨g152, E⟩ := gd_of E
      refine Rn.sldE (pc' := 563) g151 g152 dL_law__562 rfl ?_
      obtain ⟨g153, E⟩ := gd_of E
      obtain ⟨v154, h155, e156, E⟩ := bI_of E
      refine Rn.callV1 (pc' := 566) (As := [.int (X.2 (ix (x4 + (1 : Int32))))]) (rest := []) (f_Model_salt_ok hst e156) (Nat.le_trans (by decide) hd) rfl kb_L_137 ki_X11_salt rfl g153 rfl rfl (Nat.le_of_ble_eq_true rfl) dL_law__563 rfl rfl ?_
      refine Rn.istore (pc' := 568) (L' := [(6, .int v154), (5, .int v148), (0, .ref x0), (1, .ref x1), (2, .ref x2), (3, .ref x3), (4, .int x4)]) dL_law__566 (by decide) rfl rfl ?_
      refine Rn.aload_n (pc' := 569) dL_law__568 rfl 4 rfl rfl ?_
      obtain ⟨g157, E⟩ := gd_of E
      obtain ⟨v158, h159, e160, E⟩ := bI_of E
      refine Rn.callV1 (pc' := 572) (As := []) (rest := []) (f_Model_thrown_ok hst e160) (Nat.le_trans (by decide) hd) rfl kb_L_117 ki_X11_thrown rfl g157 rfl rfl (Nat.le_of_ble_eq_true rfl) dL_law__569 rfl rfl ?_
      refine Rn.iload (pc' := 574) dL_law__572 1 rfl rfl ?_
      refine Rn.icmp_eq (pc' := 577) (tgt := 579) dL_law__574 (by decide) rfl (fun c161 => ?_) (fun c161 => ?_)
      · replace E := (if_of E).1 c161
        refine Rn.iload (pc' := 581) dL_law__579 1 rfl rfl ?_
        refine Rn.if_ne (pc' := 584) (tgt := 596) dL_law__581 (by decide) rfl (fun c162 => ?_) (fun c162 => ?_)
        · replace E := (if_of E).2 c162
          refine Rn.sub [2, 3, 4, 5, 6] rfl ?_
          exact f_Lw_main_b596_ok hst hd  hk23 E
        · replace E := (if_of E).1 c162
          refine Rn.aload_n (pc' := 585) dL_law__584 rfl 5 rfl rfl ?_
          refine Rn.iconst (pc' := 586) (v := (0 : Int32)) (hv := by decide) dL_law__585 rfl ?_
          obtain ⟨g163, E⟩ := gd_of E
          obtain ⟨g164, E⟩ := gd_of E
          refine Rn.lald (pc' := 587) g163 g164 dL_law__586 rfl ?_
          refine Rn.iload (pc' := 589) dL_law__587 0 rfl rfl ?_
          refine Rn.i2l (pc' := 590) dL_law__589 rfl ?_
          refine Rn.lcmp (pc' := 591) dL_law__590 rfl ?_
          refine Rn.if_eq (pc' := 594) (tgt := 596) dL_law__591 (by decide) rfl (fun c165 => ?_) (fun c165 => ?_)
          · replace E := (if_of E).1 c165
            refine Rn.sub [2, 3, 4, 5, 6] rfl ?_
            exact f_Lw_main_b596_ok hst hd  hk23 E
          · replace E := (if_of E).2 c165
            refine Rn.iconst (pc' := 595) (v := (0 : Int32)) (hv := by decide) dL_law__594 rfl ?_
            cases E
            exact Rn.zret rfl rfl dL_law__595
      · replace E := (if_of E).2 c161
        refine Rn.iconst (pc' := 578) (v := (0 : Int32)) (hv := by decide) dL_law__577 rfl ?_
        cases E
        exact Rn.zret rfl rfl dL_law__578
    replace E := (if_of E).2 c145
    by_cases c166 : ((X.2 (ix x4)) &&& (63 : Int32)) = (8 : Int32)
    · replace E := (if_of E).1 c166
      skip
      refine Rn.tabIn (x := ((X.2 (ix x4)) &&& (63 : Int32))) (tgt := 599) dL_law__40 (by rw [c166]; decide) (by rw [c166]; decide) (by rw [c166]; rfl) (by decide) ?_
      refine Rn.aload_n (pc' := 600) dL_law__599 rfl 1 rfl rfl ?_
      refine Rn.aload_n (pc' := 601) dL_law__600 rfl 0 rfl rfl ?_
      refine Rn.iload (pc' := 603) dL_law__601 4 rfl rfl ?_
      refine Rn.iconst (pc' := 604) (v := (1 : Int32)) (hv := by decide) dL_law__603 rfl ?_
      refine Rn.iadd (pc' := 605) dL_law__604 rfl ?_
      obtain ⟨g167, E⟩ := gd_of E
      obtain ⟨g168, E⟩ := gd_of E
      refine Rn.sldE (pc' := 606) g167 g168 dL_law__605 rfl ?_
      refine Rn.aload_n (pc' := 607) dL_law__606 rfl 0 rfl rfl ?_
      refine Rn.iload (pc' := 609) dL_law__607 4 rfl rfl ?_
      refine Rn.iconst (pc' := 610) (v := (2 : Int32)) (hv := by decide) dL_law__609 rfl ?_
      refine Rn.iadd (pc' := 611) dL_law__610 rfl ?_
      obtain ⟨g169, E⟩ := gd_of E
      obtain ⟨g170, E⟩ := gd_of E
      refine Rn.sldE (pc' := 612) g169 g170 dL_law__611 rfl ?_
      refine Rn.aload_n (pc' := 613) dL_law__612 rfl 3 rfl rfl ?_
      obtain ⟨v171, h172, e173, E⟩ := bI_of E
      refine Rn.callSX1 (pc' := 616) (As := [.ref x1, .int (X.2 (ix (x4 + (1 : Int32)))), .int (X.2 (ix (x4 + (2 : Int32)))), .ref x3]) (rest := []) (f_Lw_house_ok hst e173) (Nat.le_trans (by decide) hd) rfl kb_L_138 ks_L_house rfl rfl (Nat.le_of_ble_eq_true rfl) dL_law__613 rfl rfl ?_
      refine Rn.istore (pc' := 618) (L' := [(5, .int v171), (0, .ref x0), (1, .ref x1), (2, .ref x2), (3, .ref x3), (4, .int x4)]) dL_law__616 (by decide) rfl rfl ?_
      refine Rn.aload_n (pc' := 619) dL_law__618 rfl 3 rfl rfl ?_
      refine Rn.aload_n (pc' := 620) dL_law__619 rfl 1 rfl rfl ?_
      refine Rn.iload (pc' := 622) dL_law__620 5 rfl rfl ?_
      refine Rn.iconst (pc' := 623) (v := (1 : Int32)) (hv := by decide) dL_law__622 rfl ?_
      refine Rn.iadd (pc' := 624) dL_law__623 rfl ?_
      obtain ⟨g174, E⟩ := gd_of E
      obtain ⟨g175, E⟩ := gd_of E
      refine Rn.sldE (pc' := 625) g174 g175 dL_law__624 rfl ?_
      refine Rn.aload_n (pc' := 626) dL_law__625 rfl 1 rfl rfl ?_
      refine Rn.iload (pc' := 628) dL_law__626 5 rfl rfl ?_
      refine Rn.iconst (pc' := 629) (v := (2 : Int32)) (hv := by decide) dL_law__628 rfl ?_
      refine Rn.iadd (pc' := 630) dL_law__629 rfl ?_
      obtain ⟨g176, E⟩ := gd_of E
      obtain ⟨g177, E⟩ := gd_of E
      refine Rn.sldE (pc' := 631) g176 g177 dL_law__630 rfl ?_
      obtain ⟨g178, E⟩ := gd_of E
      obtain ⟨v179, h180, e181, E⟩ := bI_of E
      refine Rn.callV1 (pc' := 634) (As := [.int (X.2 (ix (x4 + (1 : Int32)))), .int (X.2 (ix (x4 + (2 : Int32))))]) (rest := []) (f_Model_house_ok hst e181) (Nat.le_trans (by decide) hd) rfl kb_L_140 ki_X11_house rfl g178 rfl rfl (Nat.le_of_ble_eq_true rfl) dL_law__631 rfl rfl ?_
      refine Rn.istore (pc' := 636) (L' := [(6, .int v179), (5, .int v171), (0, .ref x0), (1, .ref x1), (2, .ref x2), (3, .ref x3), (4, .int x4)]) dL_law__634 (by decide) rfl rfl ?_
      refine Rn.aload_n (pc' := 637) dL_law__636 rfl 4 rfl rfl ?_
      obtain ⟨g182, E⟩ := gd_of E
      obtain ⟨v183, h184, e185, E⟩ := bI_of E
      refine Rn.callV1 (pc' := 640) (As := []) (rest := []) (f_Model_thrown_ok hst e185) (Nat.le_trans (by decide) hd) rfl kb_L_117 ki_X11_thrown rfl g182 rfl rfl (Nat.le_of_ble_eq_true rfl) dL_law__637 rfl rfl ?_
      refine Rn.iload (pc' := 642) dL_law__640 1 rfl rfl ?_
      refine Rn.icmp_eq (pc' := 645) (tgt := 647) dL_law__642 (by decide) rfl (fun c186 => ?_) (fun c186 => ?_)
      · replace E := (if_of E).1 c186
        refine Rn.iload (pc' := 649) dL_law__647 1 rfl rfl ?_
        refine Rn.if_ne (pc' := 652) (tgt := 664) dL_law__649 (by decide) rfl (fun c187 => ?_) (fun c187 => ?_)
        · replace E := (if_of E).2 c187
          refine Rn.sub [2, 3, 4, 5, 6] rfl ?_
          exact f_Lw_main_b664_ok hst hd  hk23 E
        · replace E := (if_of E).1 c187
          refine Rn.aload_n (pc' := 653) dL_law__652 rfl 5 rfl rfl ?_
          refine Rn.iconst (pc' := 654) (v := (0 : Int32)) (hv := by decide) dL_law__653 rfl ?_
          obtain ⟨g188, E⟩ := gd_of E
          obtain ⟨g189, E⟩ := gd_of E
          refine Rn.lald (pc' := 655) g188 g189 dL_law__654 rfl ?_
          refine Rn.iload (pc' := 657) dL_law__655 0 rfl rfl ?_
          refine Rn.i2l (pc' := 658) dL_law__657 rfl ?_
          refine Rn.lcmp (pc' := 659) dL_law__658 rfl ?_
          refine Rn.if_eq (pc' := 662) (tgt := 664) dL_law__659 (by decide) rfl (fun c190 => ?_) (fun c190 => ?_)
          · replace E := (if_of E).1 c190
            refine Rn.sub [2, 3, 4, 5, 6] rfl ?_
            exact f_Lw_main_b664_ok hst hd  hk23 E
          · replace E := (if_of E).2 c190
            refine Rn.iconst (pc' := 663) (v := (0 : Int32)) (hv := by decide) dL_law__662 rfl ?_
            cases E
            exact Rn.zret rfl rfl dL_law__663
      · replace E := (if_of E).2 c186
        refine Rn.iconst (pc' := 646) (v := (0 : Int32)) (hv := by decide) dL_law__645 rfl ?_
        cases E
        exact Rn.zret rfl rfl dL_law__646
    replace E := (if_of E).2 c166
    by_cases c191 : ((X.2 (ix x4)) &&& (63 : Int32)) = (9 : Int32)
    · replace E := (if_of E).1 c191
      skip
      refine Rn.tabIn (x := ((X.2 (ix x4)) &&& (63 : Int32))) (tgt := 667) dL_law__40 (by rw [c191]; decide) (by rw [c191]; decide) (by rw [c191]; rfl) (by decide) ?_
      refine Rn.aload_n (pc' := 668) dL_law__667 rfl 1 rfl rfl ?_
      refine Rn.aload_n (pc' := 669) dL_law__668 rfl 0 rfl rfl ?_
      refine Rn.iload (pc' := 671) dL_law__669 4 rfl rfl ?_
      refine Rn.iconst (pc' := 672) (v := (1 : Int32)) (hv := by decide) dL_law__671 rfl ?_
      refine Rn.iadd (pc' := 673) dL_law__672 rfl ?_
      obtain ⟨g192, E⟩ := gd_of E
      obtain ⟨g193, E⟩ := gd_of E
      refine Rn.sldE (pc' := 674) g192 g193 dL_law__673 rfl ?_
      refine Rn.aload_n (pc' := 675) dL_law__674 rfl 0 rfl rfl ?_
      refine Rn.iload (pc' := 677) dL_law__675 4 rfl rfl ?_
      refine Rn.iconst (pc' := 678) (v := (2 : Int32)) (hv := by decide) dL_law__677 rfl ?_
      refine Rn.iadd (pc' := 679) dL_law__678 rfl ?_
      obtain ⟨g194, E⟩ := gd_of E
      obtain ⟨g195, E⟩ := gd_of E
      refine Rn.sldE (pc' := 680) g194 g195 dL_law__679 rfl ?_
      refine Rn.aload_n (pc' := 681) dL_law__680 rfl 3 rfl rfl ?_
      obtain ⟨v196, h197, e198, E⟩ := bI_of E
      refine Rn.callSX1 (pc' := 684) (As := [.ref x1, .int (X.2 (ix (x4 + (1 : Int32)))), .int (X.2 (ix (x4 + (2 : Int32)))), .ref x3]) (rest := []) (f_Lw_drank_ok hst e198) (Nat.le_trans (by decide) hd) rfl kb_L_141 ks_L_drank rfl rfl (Nat.le_of_ble_eq_true rfl) dL_law__681 rfl rfl ?_
      refine Rn.istore (pc' := 686) (L' := [(5, .int v196), (0, .ref x0), (1, .ref x1), (2, .ref x2), (3, .ref x3), (4, .int x4)]) dL_law__684 (by decide) rfl rfl ?_
      refine Rn.aload_n (pc' := 687) dL_law__686 rfl 3 rfl rfl ?_
      refine Rn.aload_n (pc' := 688) dL_law__687 rfl 1 rfl rfl ?_
      refine Rn.iload (pc' := 690) dL_law__688 5 rfl rfl ?_
      refine Rn.iconst (pc' := 691) (v := (1 : Int32)) (hv := by decide) dL_law__690 rfl ?_
      refine Rn.iadd (pc' := 692) dL_law__691 rfl ?_
      obtain ⟨g199, E⟩ := gd_of E
      obtain ⟨g200, E⟩ := gd_of E
      refine Rn.sldE (pc' := 693) g199 g200 dL_law__692 rfl ?_
      refine Rn.aload_n (pc' := 694) dL_law__693 rfl 1 rfl rfl ?_
      refine Rn.iload (pc' := 696) dL_law__694 5 rfl rfl ?_
      refine Rn.iconst (pc' := 697) (v := (2 : Int32)) (hv := by decide) dL_law__696 rfl ?_
      refine Rn.iadd (pc' := 698) dL_law__697 rfl ?_
      obtain ⟨g201, E⟩ := gd_of E
      obtain ⟨g202, E⟩ := gd_of E
      refine Rn.sldE (pc' := 699) g201 g202 dL_law__698 rfl ?_
      obtain ⟨g203, E⟩ := gd_of E
      obtain ⟨v204, h205, e206, E⟩ := bI_of E
      refine Rn.callV1 (pc' := 702) (As := [.int (X.2 (ix (x4 + (1 : Int32)))), .int (X.2 (ix (x4 + (2 : Int32))))]) (rest := []) (f_Model_drank_ok hst e206) (Nat.le_trans (by decide) hd) rfl kb_L_143 ki_X11_drank rfl g203 rfl rfl (Nat.le_of_ble_eq_true rfl) dL_law__699 rfl rfl ?_
      refine Rn.istore (pc' := 704) (L' := [(6, .int v204), (5, .int v196), (0, .ref x0), (1, .ref x1), (2, .ref x2), (3, .ref x3), (4, .int x4)]) dL_law__702 (by decide) rfl rfl ?_
      refine Rn.aload_n (pc' := 705) dL_law__704 rfl 4 rfl rfl ?_
      obtain ⟨g207, E⟩ := gd_of E
      obtain ⟨v208, h209, e210, E⟩ := bI_of E
      refine Rn.callV1 (pc' := 708) (As := []) (rest := []) (f_Model_thrown_ok hst e210) (Nat.le_trans (by decide) hd) rfl kb_L_117 ki_X11_thrown rfl g207 rfl rfl (Nat.le_of_ble_eq_true rfl) dL_law__705 rfl rfl ?_
      refine Rn.iload (pc' := 710) dL_law__708 1 rfl rfl ?_
      refine Rn.icmp_eq (pc' := 713) (tgt := 715) dL_law__710 (by decide) rfl (fun c211 => ?_) (fun c211 => ?_)
      · replace E := (if_of E).1 c211
        refine Rn.iload (pc' := 717) dL_law__715 1 rfl rfl ?_
        refine Rn.if_ne (pc' := 720) (tgt := 732) dL_law__717 (by decide) rfl (fun c212 => ?_) (fun c212 => ?_)
        · replace E := (if_of E).2 c212
          refine Rn.sub [2, 3, 4, 5, 6] rfl ?_
          exact f_Lw_main_b732_ok hst hd  hk23 E
        · replace E := (if_of E).1 c212
          refine Rn.aload_n (pc' := 721) dL_law__720 rfl 5 rfl rfl ?_
          refine Rn.iconst (pc' := 722) (v := (0 : Int32)) (hv := by decide) dL_law__721 rfl ?_
          obtain ⟨g213, E⟩ := gd_of E
          obtain ⟨g214, E⟩ := gd_of E
          refine Rn.lald (pc' := 723) g213 g214 dL_law__722 rfl ?_
          refine Rn.iload (pc' := 725) dL_law__723 0 rfl rfl ?_
          refine Rn.i2l (pc' := 726) dL_law__725 rfl ?_
          refine Rn.lcmp (pc' := 727) dL_law__726 rfl ?_
          refine Rn.if_eq (pc' := 730) (tgt := 732) dL_law__727 (by decide) rfl (fun c215 => ?_) (fun c215 => ?_)
          · replace E := (if_of E).1 c215
            refine Rn.sub [2, 3, 4, 5, 6] rfl ?_
            exact f_Lw_main_b732_ok hst hd  hk23 E
          · replace E := (if_of E).2 c215
            refine Rn.iconst (pc' := 731) (v := (0 : Int32)) (hv := by decide) dL_law__730 rfl ?_
            cases E
            exact Rn.zret rfl rfl dL_law__731
      · replace E := (if_of E).2 c211
        refine Rn.iconst (pc' := 714) (v := (0 : Int32)) (hv := by decide) dL_law__713 rfl ?_
        cases E
        exact Rn.zret rfl rfl dL_law__714
    replace E := (if_of E).2 c191
    by_cases c216 : ((X.2 (ix x4)) &&& (63 : Int32)) = (10 : Int32)
    · replace E := (if_of E).1 c216
      skip
      refine Rn.tabIn (x := ((X.2 (ix x4)) &&& (63 : Int32))) (tgt := 735) dL_law__40 (by rw [c216]; decide) (by rw [c216]; decide) (by rw [c216]; rfl) (by decide) ?_
      refine Rn.aload_n (pc' := 736) dL_law__735 rfl 1 rfl rfl ?_
      refine Rn.aload_n (pc' := 737) dL_law__736 rfl 0 rfl rfl ?_
      refine Rn.iload (pc' := 739) dL_law__737 4 rfl rfl ?_
      refine Rn.iconst (pc' := 740) (v := (1 : Int32)) (hv := by decide) dL_law__739 rfl ?_
      refine Rn.iadd (pc' := 741) dL_law__740 rfl ?_
      obtain ⟨g217, E⟩ := gd_of E
      obtain ⟨g218, E⟩ := gd_of E
      refine Rn.sldE (pc' := 742) g217 g218 dL_law__741 rfl ?_
      refine Rn.aload_n (pc' := 743) dL_law__742 rfl 0 rfl rfl ?_
      refine Rn.iload (pc' := 745) dL_law__743 4 rfl rfl ?_
      refine Rn.iconst (pc' := 746) (v := (2 : Int32)) (hv := by decide) dL_law__745 rfl ?_
      refine Rn.iadd (pc' := 747) dL_law__746 rfl ?_
      obtain ⟨g219, E⟩ := gd_of E
      obtain ⟨g220, E⟩ := gd_of E
      refine Rn.sldE (pc' := 748) g219 g220 dL_law__747 rfl ?_
      refine Rn.aload_n (pc' := 749) dL_law__748 rfl 3 rfl rfl ?_
      obtain ⟨v221, h222, e223, E⟩ := bI_of E
      refine Rn.callSX1 (pc' := 752) (As := [.ref x1, .int (X.2 (ix (x4 + (1 : Int32)))), .int (X.2 (ix (x4 + (2 : Int32)))), .ref x3]) (rest := []) (f_Lw_place_ok hst e223) (Nat.le_trans (by decide) hd) rfl kb_L_144 ks_L_place rfl rfl (Nat.le_of_ble_eq_true rfl) dL_law__749 rfl rfl ?_
      refine Rn.istore (pc' := 754) (L' := [(5, .int v221), (0, .ref x0), (1, .ref x1), (2, .ref x2), (3, .ref x3), (4, .int x4)]) dL_law__752 (by decide) rfl rfl ?_
      refine Rn.aload_n (pc' := 755) dL_law__754 rfl 3 rfl rfl ?_
      refine Rn.aload_n (pc' := 756) dL_law__755 rfl 1 rfl rfl ?_
      refine Rn.iload (pc' := 758) dL_law__756 5 rfl rfl ?_
      refine Rn.iconst (pc' := 759) (v := (1 : Int32)) (hv := by decide) dL_law__758 rfl ?_
      refine Rn.iadd (pc' := 760) dL_law__759 rfl ?_
      obtain ⟨g224, E⟩ := gd_of E
      obtain ⟨g225, E⟩ := gd_of E
      refine Rn.sldE (pc' := 761) g224 g225 dL_law__760 rfl ?_
      refine Rn.aload_n (pc' := 762) dL_law__761 rfl 1 rfl rfl ?_
      refine Rn.iload (pc' := 764) dL_law__762 5 rfl rfl ?_
      refine Rn.iconst (pc' := 765) (v := (2 : Int32)) (hv := by decide) dL_law__764 rfl ?_
      refine Rn.iadd (pc' := 766) dL_law__765 rfl ?_
      obtain ⟨g226, E⟩ := gd_of E
      obtain ⟨g227, E⟩ := gd_of E
      refine Rn.sldE (pc' := 767) g226 g227 dL_law__766 rfl ?_
      obtain ⟨g228, E⟩ := gd_of E
      obtain ⟨v229, h230, e231, E⟩ := bI_of E
      refine Rn.callV1 (pc' := 770) (As := [.int (X.2 (ix (x4 + (1 : Int32)))), .int (X.2 (ix (x4 + (2 : Int32))))]) (rest := []) (f_Model_place_ok hst e231) (Nat.le_trans (by decide) hd) rfl kb_L_146 ki_X11_place rfl g228 rfl rfl (Nat.le_of_ble_eq_true rfl) dL_law__767 rfl rfl ?_
      refine Rn.istore (pc' := 772) (L' := [(6, .int v229), (5, .int v221), (0, .ref x0), (1, .ref x1), (2, .ref x2), (3, .ref x3), (4, .int x4)]) dL_law__770 (by decide) rfl rfl ?_
      refine Rn.aload_n (pc' := 773) dL_law__772 rfl 4 rfl rfl ?_
      obtain ⟨g232, E⟩ := gd_of E
      obtain ⟨v233, h234, e235, E⟩ := bI_of E
      refine Rn.callV1 (pc' := 776) (As := []) (rest := []) (f_Model_thrown_ok hst e235) (Nat.le_trans (by decide) hd) rfl kb_L_117 ki_X11_thrown rfl g232 rfl rfl (Nat.le_of_ble_eq_true rfl) dL_law__773 rfl rfl ?_
      refine Rn.iload (pc' := 778) dL_law__776 1 rfl rfl ?_
      refine Rn.icmp_eq (pc' := 781) (tgt := 783) dL_law__778 (by decide) rfl (fun c236 => ?_) (fun c236 => ?_)
      · replace E := (if_of E).1 c236
        refine Rn.iload (pc' := 785) dL_law__783 1 rfl rfl ?_
        refine Rn.if_ne (pc' := 788) (tgt := 800) dL_law__785 (by decide) rfl (fun c237 => ?_) (fun c237 => ?_)
        · replace E := (if_of E).2 c237
          refine Rn.sub [2, 3, 4, 5, 6] rfl ?_
          exact f_Lw_main_b800_ok hst hd  hk23 E
        · replace E := (if_of E).1 c237
          refine Rn.aload_n (pc' := 789) dL_law__788 rfl 5 rfl rfl ?_
          refine Rn.iconst (pc' := 790) (v := (0 : Int32)) (hv := by decide) dL_law__789 rfl ?_
          obtain ⟨g238, E⟩ := gd_of E
          obtain ⟨g239, E⟩ := gd_of E
          refine Rn.lald (pc' := 791) g238 g239 dL_law__790 rfl ?_
          refine Rn.iload (pc' := 793) dL_law__791 0 rfl rfl ?_
          refine Rn.i2l (pc' := 794) dL_law__793 rfl ?_
          refine Rn.lcmp (pc' := 795) dL_law__794 rfl ?_
          refine Rn.if_eq (pc' := 798) (tgt := 800) dL_law__795 (by decide) rfl (fun c240 => ?_) (fun c240 => ?_)
          · replace E := (if_of E).1 c240
            refine Rn.sub [2, 3, 4, 5, 6] rfl ?_
            exact f_Lw_main_b800_ok hst hd  hk23 E
          · replace E := (if_of E).2 c240
            refine Rn.iconst (pc' := 799) (v := (0 : Int32)) (hv := by decide) dL_law__798 rfl ?_
            cases E
            exact Rn.zret rfl rfl dL_law__799
      · replace E := (if_of E).2 c236
        refine Rn.iconst (pc' := 782) (v := (0 : Int32)) (hv := by decide) dL_law__781 rfl ?_
        cases E
        exact Rn.zret rfl rfl dL_law__782
    replace E := (if_of E).2 c216
    by_cases c241 : ((X.2 (ix x4)) &&& (63 : Int32)) = (11 : Int32)
    · replace E := (if_of E).1 c241
      skip
      refine Rn.tabIn (x := ((X.2 (ix x4)) &&& (63 : Int32))) (tgt := 803) dL_law__40 (by rw [c241]; decide) (by rw [c241]; decide) (by rw [c241]; rfl) (by decide) ?_
      refine Rn.aload_n (pc' := 804) dL_law__803 rfl 1 rfl rfl ?_
      refine Rn.aload_n (pc' := 805) dL_law__804 rfl 0 rfl rfl ?_
      refine Rn.iload (pc' := 807) dL_law__805 4 rfl rfl ?_
      refine Rn.iconst (pc' := 808) (v := (1 : Int32)) (hv := by decide) dL_law__807 rfl ?_
      refine Rn.iadd (pc' := 809) dL_law__808 rfl ?_
      obtain ⟨g242, E⟩ := gd_of E
      obtain ⟨g243, E⟩ := gd_of E
      refine Rn.sldE (pc' := 810) g242 g243 dL_law__809 rfl ?_
      refine Rn.aload_n (pc' := 811) dL_law__810 rfl 3 rfl rfl ?_
      obtain ⟨v244, h245, e246, E⟩ := bI_of E
      refine Rn.callSX1 (pc' := 814) (As := [.ref x1, .int (X.2 (ix (x4 + (1 : Int32)))), .ref x3]) (rest := []) (f_Lw_next_ok hst e246) (Nat.le_trans (by decide) hd) rfl kb_L_147 ks_L_next rfl rfl (Nat.le_of_ble_eq_true rfl) dL_law__811 rfl rfl ?_
      refine Rn.istore (pc' := 816) (L' := [(5, .int v244), (0, .ref x0), (1, .ref x1), (2, .ref x2), (3, .ref x3), (4, .int x4)]) dL_law__814 (by decide) rfl rfl ?_
      refine Rn.aload_n (pc' := 817) dL_law__816 rfl 3 rfl rfl ?_
      refine Rn.aload_n (pc' := 818) dL_law__817 rfl 1 rfl rfl ?_
      refine Rn.iload (pc' := 820) dL_law__818 5 rfl rfl ?_
      refine Rn.iconst (pc' := 821) (v := (1 : Int32)) (hv := by decide) dL_law__820 rfl ?_
      refine Rn.iadd (pc' := 822) dL_law__821 rfl ?_
      obtain ⟨g247, E⟩ := gd_of E
      obtain ⟨g248, E⟩ := gd_of E
      refine Rn.sldE (pc' := 823) g247 g248 dL_law__822 rfl ?_
      obtain ⟨g249, E⟩ := gd_of E
      obtain ⟨v250, h251, e252, E⟩ := bI_of E
      refine Rn.callV1 (pc' := 826) (As := [.int (X.2 (ix (x4 + (1 : Int32))))]) (rest := []) (f_Model_next_ok hst e252) (Nat.le_trans (by decide) hd) rfl kb_L_149 ki_X11_next rfl g249 rfl rfl (Nat.le_of_ble_eq_true rfl) dL_law__823 rfl rfl ?_
      refine Rn.istore (pc' := 828) (L' := [(6, .int v250), (5, .int v244), (0, .ref x0), (1, .ref x1), (2, .ref x2), (3, .ref x3), (4, .int x4)]) dL_law__826 (by decide) rfl rfl ?_
      refine Rn.aload_n (pc' := 829) dL_law__828 rfl 4 rfl rfl ?_
      obtain ⟨g253, E⟩ := gd_of E
      obtain ⟨v254, h255, e256, E⟩ := bI_of E
      refine Rn.callV1 (pc' := 832) (As := []) (rest := []) (f_Model_thrown_ok hst e256) (Nat.le_trans (by decide) hd) rfl kb_L_117 ki_X11_thrown rfl g253 rfl rfl (Nat.le_of_ble_eq_true rfl) dL_law__829 rfl rfl ?_
      refine Rn.iload (pc' := 834) dL_law__832 1 rfl rfl ?_
      refine Rn.icmp_eq (pc' := 837) (tgt := 839) dL_law__834 (by decide) rfl (fun c257 => ?_) (fun c257 => ?_)
      · replace E := (if_of E).1 c257
        refine Rn.iload (pc' := 841) dL_law__839 1 rfl rfl ?_
        refine Rn.if_ne (pc' := 844) (tgt := 856) dL_law__841 (by decide) rfl (fun c258 => ?_) (fun c258 => ?_)
        · replace E := (if_of E).2 c258
          refine Rn.sub [2, 3, 4, 5, 6] rfl ?_
          exact f_Lw_main_b856_ok hst hd  hk23 E
        · replace E := (if_of E).1 c258
          refine Rn.aload_n (pc' := 845) dL_law__844 rfl 5 rfl rfl ?_
          refine Rn.iconst (pc' := 846) (v := (0 : Int32)) (hv := by decide) dL_law__845 rfl ?_
          obtain ⟨g259, E⟩ := gd_of E
          obtain ⟨g260, E⟩ := gd_of E
          refine Rn.lald (pc' := 847) g259 g260 dL_law__846 rfl ?_
          refine Rn.iload (pc' := 849) dL_law__847 0 rfl rfl ?_
          refine Rn.i2l (pc' := 850) dL_law__849 rfl ?_
          refine Rn.lcmp (pc' := 851) dL_law__850 rfl ?_
          refine Rn.if_eq (pc' := 854) (tgt := 856) dL_law__851 (by decide) rfl (fun c261 => ?_) (fun c261 => ?_)
          · replace E := (if_of E).1 c261
            refine Rn.sub [2, 3, 4, 5, 6] rfl ?_
            exact f_Lw_main_b856_ok hst hd  hk23 E
          · replace E := (if_of E).2 c261
            refine Rn.iconst (pc' := 855) (v := (0 : Int32)) (hv := by decide) dL_law__854 rfl ?_
            cases E
            exact Rn.zret rfl rfl dL_law__855
      · replace E := (if_of E).2 c257
        refine Rn.iconst (pc' := 838) (v := (0 : Int32)) (hv := by decide) dL_law__837 rfl ?_
        cases E
        exact Rn.zret rfl rfl dL_law__838
    replace E := (if_of E).2 c241
    by_cases c262 : ((X.2 (ix x4)) &&& (63 : Int32)) = (12 : Int32)
    · replace E := (if_of E).1 c262
      skip
      refine Rn.tabIn (x := ((X.2 (ix x4)) &&& (63 : Int32))) (tgt := 859) dL_law__40 (by rw [c262]; decide) (by rw [c262]; decide) (by rw [c262]; rfl) (by decide) ?_
      refine Rn.aload_n (pc' := 860) dL_law__859 rfl 1 rfl rfl ?_
      refine Rn.aload_n (pc' := 861) dL_law__860 rfl 0 rfl rfl ?_
      refine Rn.iload (pc' := 863) dL_law__861 4 rfl rfl ?_
      refine Rn.iconst (pc' := 864) (v := (1 : Int32)) (hv := by decide) dL_law__863 rfl ?_
      refine Rn.iadd (pc' := 865) dL_law__864 rfl ?_
      obtain ⟨g263, E⟩ := gd_of E
      obtain ⟨g264, E⟩ := gd_of E
      refine Rn.sldE (pc' := 866) g263 g264 dL_law__865 rfl ?_
      refine Rn.aload_n (pc' := 867) dL_law__866 rfl 3 rfl rfl ?_
      obtain ⟨v265, h266, e267, E⟩ := bI_of E
      refine Rn.callSX1 (pc' := 870) (As := [.ref x1, .int (X.2 (ix (x4 + (1 : Int32)))), .ref x3]) (rest := []) (f_Lw_months_ok hst e267) (Nat.le_trans (by decide) hd) rfl kb_L_150 ks_L_months rfl rfl (Nat.le_of_ble_eq_true rfl) dL_law__867 rfl rfl ?_
      refine Rn.istore (pc' := 872) (L' := [(5, .int v265), (0, .ref x0), (1, .ref x1), (2, .ref x2), (3, .ref x3), (4, .int x4)]) dL_law__870 (by decide) rfl rfl ?_
      refine Rn.aload_n (pc' := 873) dL_law__872 rfl 3 rfl rfl ?_
      refine Rn.aload_n (pc' := 874) dL_law__873 rfl 1 rfl rfl ?_
      refine Rn.iload (pc' := 876) dL_law__874 5 rfl rfl ?_
      refine Rn.iconst (pc' := 877) (v := (1 : Int32)) (hv := by decide) dL_law__876 rfl ?_
      refine Rn.iadd (pc' := 878) dL_law__877 rfl ?_
      obtain ⟨g268, E⟩ := gd_of E
      obtain ⟨g269, E⟩ := gd_of E
      refine Rn.sldE (pc' := 879) g268 g269 dL_law__878 rfl ?_
      obtain ⟨g270, E⟩ := gd_of E
      obtain ⟨v271, h272, e273, E⟩ := bI_of E
      refine Rn.callV1 (pc' := 882) (As := [.int (X.2 (ix (x4 + (1 : Int32))))]) (rest := []) (f_Model_months_ok hst e273) (Nat.le_trans (by decide) hd) rfl kb_L_152 ki_X11_months rfl g270 rfl rfl (Nat.le_of_ble_eq_true rfl) dL_law__879 rfl rfl ?_
      refine Rn.istore (pc' := 884) (L' := [(6, .int v271), (5, .int v265), (0, .ref x0), (1, .ref x1), (2, .ref x2), (3, .ref x3), (4, .int x4)]) dL_law__882 (by decide) rfl rfl ?_
      refine Rn.aload_n (pc' := 885) dL_law__884 rfl 4 rfl rfl ?_
      obtain ⟨g274, E⟩ := gd_of E
      obtain ⟨v275, h276, e277, E⟩ := bI_of E
      refine Rn.callV1 (pc' := 888) (As := []) (rest := []) (f_Model_thrown_ok hst e277) (Nat.le_trans (by decide) hd) rfl kb_L_117 ki_X11_thrown rfl g274 rfl rfl (Nat.le_of_ble_eq_true rfl) dL_law__885 rfl rfl ?_
      refine Rn.iload (pc' := 890) dL_law__888 1 rfl rfl ?_
      refine Rn.icmp_eq (pc' := 893) (tgt := 895) dL_law__890 (by decide) rfl (fun c278 => ?_) (fun c278 => ?_)
      · replace E := (if_of E).1 c278
        refine Rn.iload (pc' := 897) dL_law__895 1 rfl rfl ?_
        refine Rn.if_ne (pc' := 900) (tgt := 912) dL_law__897 (by decide) rfl (fun c279 => ?_) (fun c279 => ?_)
        · replace E := (if_of E).2 c279
          refine Rn.sub [2, 3, 4, 5, 6] rfl ?_
          exact f_Lw_main_b912_ok hst hd  hk23 E
        · replace E := (if_of E).1 c279
          refine Rn.aload_n (pc' := 901) dL_law__900 rfl 5 rfl rfl ?_
          refine Rn.iconst (pc' := 902) (v := (0 : Int32)) (hv := by decide) dL_law__901 rfl ?_
          obtain ⟨g280, E⟩ := gd_of E
          obtain ⟨g281, E⟩ := gd_of E
          refine Rn.lald (pc' := 903) g280 g281 dL_law__902 rfl ?_
          refine Rn.iload (pc' := 905) dL_law__903 0 rfl rfl ?_
          refine Rn.i2l (pc' := 906) dL_law__905 rfl ?_
          refine Rn.lcmp (pc' := 907) dL_law__906 rfl ?_
          refine Rn.if_eq (pc' := 910) (tgt := 912) dL_law__907 (by decide) rfl (fun c282 => ?_) (fun c282 => ?_)
          · replace E := (if_of E).1 c282
            refine Rn.sub [2, 3, 4, 5, 6] rfl ?_
            exact f_Lw_main_b912_ok hst hd  hk23 E
          · replace E := (if_of E).2 c282
            refine Rn.iconst (pc' := 911) (v := (0 : Int32)) (hv := by decide) dL_law__910 rfl ?_
            cases E
            exact Rn.zret rfl rfl dL_law__911
      · replace E := (if_of E).2 c278
        refine Rn.iconst (pc' := 894) (v := (0 : Int32)) (hv := by decide) dL_law__893 rfl ?_
        cases E
        exact Rn.zret rfl rfl dL_law__894
    replace E := (if_of E).2 c262
    by_cases c283 : ((X.2 (ix x4)) &&& (63 : Int32)) = (13 : Int32)
    · replace E := (if_of E).1 c283
      skip
      refine Rn.tabIn (x := ((X.2 (ix x4)) &&& (63 : Int32))) (tgt := 915) dL_law__40 (by rw [c283]; decide) (by rw [c283]; decide) (by rw [c283]; rfl) (by decide) ?_
      refine Rn.aload_n (pc' := 916) dL_law__915 rfl 1 rfl rfl ?_
      obtain ⟨g284, E⟩ := gd_of E
      obtain ⟨v285, h286, e287, E⟩ := bI_of E
      refine Rn.callV1 (pc' := 919) (As := []) (rest := []) (f_Water_undo_ok hst e287) (Nat.le_trans (by decide) hd) rfl kb_L_153 ki_X10_undo rfl g284 rfl rfl (Nat.le_of_ble_eq_true rfl) dL_law__916 rfl rfl ?_
      refine Rn.aload_n (pc' := 920) dL_law__919 rfl 2 rfl rfl ?_
      obtain ⟨g288, E⟩ := gd_of E
      obtain ⟨v289, h290, e291, E⟩ := bI_of E
      refine Rn.callV1 (pc' := 923) (As := []) (rest := [.int v285]) (f_Model_undo_ok hst e291) (Nat.le_trans (by decide) hd) rfl kb_L_156 ki_X11_undo rfl g288 rfl rfl (Nat.le_of_ble_eq_true rfl) dL_law__920 rfl rfl ?_
      refine Rn.icmp_eq (pc' := 926) (tgt := 2138) dL_law__923 (by decide) rfl (fun c292 => ?_) (fun c292 => ?_)
      · replace E := (if_of E).1 c292
        exact f_Lw_main_b2138_ok hst hd  hk23 E
      · replace E := (if_of E).2 c292
        refine Rn.iconst (pc' := 927) (v := (0 : Int32)) (hv := by decide) dL_law__926 rfl ?_
        cases E
        exact Rn.zret rfl rfl dL_law__927
    replace E := (if_of E).2 c283
    by_cases c293 : ((X.2 (ix x4)) &&& (63 : Int32)) = (14 : Int32)
    · replace E := (if_of E).1 c293
      skip
      refine Rn.tabIn (x := ((X.2 (ix x4)) &&& (63 : Int32))) (tgt := 928) dL_law__40 (by rw [c293]; decide) (by rw [c293]; decide) (by rw [c293]; rfl) (by decide) ?_
      refine Rn.aload_n (pc' := 929) dL_law__928 rfl 1 rfl rfl ?_
      refine Rn.aload_n (pc' := 930) dL_law__929 rfl 0 rfl rfl ?_
      refine Rn.iload (pc' := 932) dL_law__930 4 rfl rfl ?_
      refine Rn.iconst (pc' := 933) (v := (1 : Int32)) (hv := by decide) dL_law__932 rfl ?_
      refine Rn.iadd (pc' := 934) dL_law__933 rfl ?_
      obtain ⟨g294, E⟩ := gd_of E
      obtain ⟨g295, E⟩ := gd_of E
      refine Rn.sldE (pc' := 935) g294 g295 dL_law__934 rfl ?_
      refine Rn.aload_n (pc' := 936) dL_law__935 rfl 0 rfl rfl ?_
      refine Rn.iload (pc' := 938) dL_law__936 4 rfl rfl ?_
      refine Rn.iconst (pc' := 939) (v := (2 : Int32)) (hv := by decide) dL_law__938 rfl ?_
      refine Rn.iadd (pc' := 940) dL_law__939 rfl ?_
      obtain ⟨g296, E⟩ := gd_of E
      obtain ⟨g297, E⟩ := gd_of E
      refine Rn.sldE (pc' := 941) g296 g297 dL_law__940 rfl ?_
      refine Rn.aload_n (pc' := 942) dL_law__941 rfl 3 rfl rfl ?_
      obtain ⟨v298, h299, e300, E⟩ := bI_of E
      refine Rn.callSX1 (pc' := 945) (As := [.ref x1, .int (X.2 (ix (x4 + (1 : Int32)))), .int (X.2 (ix (x4 + (2 : Int32)))), .ref x3]) (rest := []) (f_Lw_oath_ok hst e300) (Nat.le_trans (by decide) hd) rfl kb_L_157 ks_L_oath rfl rfl (Nat.le_of_ble_eq_true rfl) dL_law__942 rfl rfl ?_
      refine Rn.istore (pc' := 947) (L' := [(5, .int v298), (0, .ref x0), (1, .ref x1), (2, .ref x2), (3, .ref x3), (4, .int x4)]) dL_law__945 (by decide) rfl rfl ?_
      refine Rn.aload_n (pc' := 948) dL_law__947 rfl 3 rfl rfl ?_
      refine Rn.aload_n (pc' := 949) dL_law__948 rfl 1 rfl rfl ?_
      refine Rn.iload (pc' := 951) dL_law__949 5 rfl rfl ?_
      refine Rn.iconst (pc' := 952) (v := (1 : Int32)) (hv := by decide) dL_law__951 rfl ?_
      refine Rn.iadd (pc' := 953) dL_law__952 rfl ?_
      obtain ⟨g301, E⟩ := gd_of E
      obtain ⟨g302, E⟩ := gd_of E
      refine Rn.sldE (pc' := 954) g301 g302 dL_law__953 rfl ?_
      refine Rn.aload_n (pc' := 955) dL_law__954 rfl 1 rfl rfl ?_
      refine Rn.iload (pc' := 957) dL_law__955 5 rfl rfl ?_
      refine Rn.iconst (pc' := 958) (v := (2 : Int32)) (hv := by decide) dL_law__957 rfl ?_
      refine Rn.iadd (pc' := 959) dL_law__958 rfl ?_
      obtain ⟨g303, E⟩ := gd_of E
      obtain ⟨g304, E⟩ := gd_of E
      refine Rn.sldE (pc' := 960) g303 g304 dL_law__959 rfl ?_
      obtain ⟨g305, E⟩ := gd_of E
      obtain ⟨v306, h307, e308, E⟩ := bI_of E
      refine Rn.callV1 (pc' := 963) (As := [.int (X.2 (ix (x4 + (1 : Int32)))), .int (X.2 (ix (x4 + (2 : Int32))))]) (rest := []) (f_Model_oath_ok hst e308) (Nat.le_trans (by decide) hd) rfl kb_L_159 ki_X11_oath rfl g305 rfl rfl (Nat.le_of_ble_eq_true rfl) dL_law__960 rfl rfl ?_
      refine Rn.istore (pc' := 965) (L' := [(6, .int v306), (5, .int v298), (0, .ref x0), (1, .ref x1), (2, .ref x2), (3, .ref x3), (4, .int x4)]) dL_law__963 (by decide) rfl rfl ?_
      refine Rn.aload_n (pc' := 966) dL_law__965 rfl 4 rfl rfl ?_
      obtain ⟨g309, E⟩ := gd_of E
      obtain ⟨v310, h311, e312, E⟩ := bI_of E
      refine Rn.callV1 (pc' := 969) (As := []) (rest := []) (f_Model_thrown_ok hst e312) (Nat.le_trans (by decide) hd) rfl kb_L_117 ki_X11_thrown rfl g309 rfl rfl (Nat.le_of_ble_eq_true rfl) dL_law__966 rfl rfl ?_
      refine Rn.iload (pc' := 971) dL_law__969 1 rfl rfl ?_
      refine Rn.icmp_eq (pc' := 974) (tgt := 976) dL_law__971 (by decide) rfl (fun c313 => ?_) (fun c313 => ?_)
      · replace E := (if_of E).1 c313
        refine Rn.iload (pc' := 978) dL_law__976 1 rfl rfl ?_
        refine Rn.if_ne (pc' := 981) (tgt := 993) dL_law__978 (by decide) rfl (fun c314 => ?_) (fun c314 => ?_)
        · replace E := (if_of E).2 c314
          refine Rn.sub [2, 3, 4, 5, 6] rfl ?_
          exact f_Lw_main_b993_ok hst hd  hk23 E
        · replace E := (if_of E).1 c314
          refine Rn.aload_n (pc' := 982) dL_law__981 rfl 5 rfl rfl ?_
          refine Rn.iconst (pc' := 983) (v := (0 : Int32)) (hv := by decide) dL_law__982 rfl ?_
          obtain ⟨g315, E⟩ := gd_of E
          obtain ⟨g316, E⟩ := gd_of E
          refine Rn.lald (pc' := 984) g315 g316 dL_law__983 rfl ?_
          refine Rn.iload (pc' := 986) dL_law__984 0 rfl rfl ?_
          refine Rn.i2l (pc' := 987) dL_law__986 rfl ?_
          refine Rn.lcmp (pc' := 988) dL_law__987 rfl ?_
          refine Rn.if_eq (pc' := 991) (tgt := 993) dL_law__988 (by decide) rfl (fun c317 => ?_) (fun c317 => ?_)
          · replace E := (if_of E).1 c317
            refine Rn.sub [2, 3, 4, 5, 6] rfl ?_
            exact f_Lw_main_b993_ok hst hd  hk23 E
          · replace E := (if_of E).2 c317
            refine Rn.iconst (pc' := 992) (v := (0 : Int32)) (hv := by decide) dL_law__991 rfl ?_
            cases E
            exact Rn.zret rfl rfl dL_law__992
      · replace E := (if_of E).2 c313
        refine Rn.iconst (pc' := 975) (v := (0 : Int32)) (hv := by decide) dL_law__974 rfl ?_
        cases E
        exact Rn.zret rfl rfl dL_law__975
    replace E := (if_of E).2 c293
    by_cases c318 : ((X.2 (ix x4)) &&& (63 : Int32)) = (15 : Int32)
    · replace E := (if_of E).1 c318
      skip
      refine Rn.tabIn (x := ((X.2 (ix x4)) &&& (63 : Int32))) (tgt := 996) dL_law__40 (by rw [c318]; decide) (by rw [c318]; decide) (by rw [c318]; rfl) (by decide) ?_
      refine Rn.aload_n (pc' := 997) dL_law__996 rfl 1 rfl rfl ?_
      refine Rn.aload_n (pc' := 998) dL_law__997 rfl 0 rfl rfl ?_
      refine Rn.iload (pc' := 1000) dL_law__998 4 rfl rfl ?_
      refine Rn.iconst (pc' := 1001) (v := (1 : Int32)) (hv := by decide) dL_law__1000 rfl ?_
      refine Rn.iadd (pc' := 1002) dL_law__1001 rfl ?_
      obtain ⟨g319, E⟩ := gd_of E
      obtain ⟨g320, E⟩ := gd_of E
      refine Rn.sldE (pc' := 1003) g319 g320 dL_law__1002 rfl ?_
      refine Rn.aload_n (pc' := 1004) dL_law__1003 rfl 3 rfl rfl ?_
      obtain ⟨v321, h322, e323, E⟩ := bI_of E
      refine Rn.callSX1 (pc' := 1007) (As := [.ref x1, .int (X.2 (ix (x4 + (1 : Int32)))), .ref x3]) (rest := []) (f_Lw_winter_ok hst e323) (Nat.le_trans (by decide) hd) rfl kb_L_160 ks_L_winter rfl rfl (Nat.le_of_ble_eq_true rfl) dL_law__1004 rfl rfl ?_
      refine Rn.istore (pc' := 1009) (L' := [(5, .int v321), (0, .ref x0), (1, .ref x1), (2, .ref x2), (3, .ref x3), (4, .int x4)]) dL_law__1007 (by decide) rfl rfl ?_
      refine Rn.aload_n (pc' := 1010) dL_law__1009 rfl 3 rfl rfl ?_
      refine Rn.aload_n (pc' := 1011) dL_law__1010 rfl 1 rfl rfl ?_
      refine Rn.iload (pc' := 1013) dL_law__1011 5 rfl rfl ?_
      refine Rn.iconst (pc' := 1014) (v := (1 : Int32)) (hv := by decide) dL_law__1013 rfl ?_
      refine Rn.iadd (pc' := 1015) dL_law__1014 rfl ?_
      obtain ⟨g324, E⟩ := gd_of E
      obtain ⟨g325, E⟩ := gd_of E
      refine Rn.sldE (pc' := 1016) g324 g325 dL_law__1015 rfl ?_
      obtain ⟨g326, E⟩ := gd_of E
      obtain ⟨v327, h328, e329, E⟩ := bI_of E
      refine Rn.callV1 (pc' := 1019) (As := [.int (X.2 (ix (x4 + (1 : Int32))))]) (rest := []) (f_Model_winter_ok hst e329) (Nat.le_trans (by decide) hd) rfl kb_L_162 ki_X11_winter rfl g326 rfl rfl (Nat.le_of_ble_eq_true rfl) dL_law__1016 rfl rfl ?_
      refine Rn.istore (pc' := 1021) (L' := [(6, .int v327), (5, .int v321), (0, .ref x0), (1, .ref x1), (2, .ref x2), (3, .ref x3), (4, .int x4)]) dL_law__1019 (by decide) rfl rfl ?_
      refine Rn.aload_n (pc' := 1022) dL_law__1021 rfl 4 rfl rfl ?_
      obtain ⟨g330, E⟩ := gd_of E
      obtain ⟨v331, h332, e333, E⟩ := bI_of E
      refine Rn.callV1 (pc' := 1025) (As := []) (rest := []) (f_Model_thrown_ok hst e333) (Nat.le_trans (by decide) hd) rfl kb_L_117 ki_X11_thrown rfl g330 rfl rfl (Nat.le_of_ble_eq_true rfl) dL_law__1022 rfl rfl ?_
      refine Rn.iload (pc' := 1027) dL_law__1025 1 rfl rfl ?_
      refine Rn.icmp_eq (pc' := 1030) (tgt := 1032) dL_law__1027 (by decide) rfl (fun c334 => ?_) (fun c334 => ?_)
      · replace E := (if_of E).1 c334
        refine Rn.iload (pc' := 1034) dL_law__1032 1 rfl rfl ?_
        refine Rn.if_ne (pc' := 1037) (tgt := 1049) dL_law__1034 (by decide) rfl (fun c335 => ?_) (fun c335 => ?_)
        · replace E := (if_of E).2 c335
          refine Rn.sub [2, 3, 4, 5, 6] rfl ?_
          exact f_Lw_main_b1049_ok hst hd  hk23 E
        · replace E := (if_of E).1 c335
          refine Rn.aload_n (pc' := 1038) dL_law__1037 rfl 5 rfl rfl ?_
          refine Rn.iconst (pc' := 1039) (v := (0 : Int32)) (hv := by decide) dL_law__1038 rfl ?_
          obtain ⟨g336, E⟩ := gd_of E
          obtain ⟨g337, E⟩ := gd_of E
          refine Rn.lald (pc' := 1040) g336 g337 dL_law__1039 rfl ?_
          refine Rn.iload (pc' := 1042) dL_law__1040 0 rfl rfl ?_
          refine Rn.i2l (pc' := 1043) dL_law__1042 rfl ?_
          refine Rn.lcmp (pc' := 1044) dL_law__1043 rfl ?_
          refine Rn.if_eq (pc' := 1047) (tgt := 1049) dL_law__1044 (by decide) rfl (fun c338 => ?_) (fun c338 => ?_)
          · replace E := (if_of E).1 c338
            refine Rn.sub [2, 3, 4, 5, 6] rfl ?_
            exact f_Lw_main_b1049_ok hst hd  hk23 E
          · replace E := (if_of E).2 c338
            refine Rn.iconst (pc' := 1048) (v := (0 : Int32)) (hv := by decide) dL_law__1047 rfl ?_
            cases E
            exact Rn.zret rfl rfl dL_law__1048
      · replace E := (if_of E).2 c334
        refine Rn.iconst (pc' := 1031) (v := (0 : Int32)) (hv := by decide) dL_law__1030 rfl ?_
        cases E
        exact Rn.zret rfl rfl dL_law__1031
    replace E := (if_of E).2 c318
    by_cases c339 : ((X.2 (ix x4)) &&& (63 : Int32)) = (16 : Int32)
    · replace E := (if_of E).1 c339
      skip
      refine Rn.tabIn (x := ((X.2 (ix x4)) &&& (63 : Int32))) (tgt := 1052) dL_law__40 (by rw [c339]; decide) (by rw [c339]; decide) (by rw [c339]; rfl) (by decide) ?_
      refine Rn.aload_n (pc' := 1053) dL_law__1052 rfl 1 rfl rfl ?_
      refine Rn.aload_n (pc' := 1054) dL_law__1053 rfl 0 rfl rfl ?_
      refine Rn.iload (pc' := 1056) dL_law__1054 4 rfl rfl ?_
      refine Rn.iconst (pc' := 1057) (v := (1 : Int32)) (hv := by decide) dL_law__1056 rfl ?_
      refine Rn.iadd (pc' := 1058) dL_law__1057 rfl ?_
      obtain ⟨g340, E⟩ := gd_of E
      obtain ⟨g341, E⟩ := gd_of E
      refine Rn.sldE (pc' := 1059) g340 g341 dL_law__1058 rfl ?_
      refine Rn.aload_n (pc' := 1060) dL_law__1059 rfl 0 rfl rfl ?_
      refine Rn.iload (pc' := 1062) dL_law__1060 4 rfl rfl ?_
      refine Rn.iconst (pc' := 1063) (v := (2 : Int32)) (hv := by decide) dL_law__1062 rfl ?_
      refine Rn.iadd (pc' := 1064) dL_law__1063 rfl ?_
      obtain ⟨g342, E⟩ := gd_of E
      obtain ⟨g343, E⟩ := gd_of E
      refine Rn.sldE (pc' := 1065) g342 g343 dL_law__1064 rfl ?_
      refine Rn.if_eq (pc' := 1068) (tgt := 1072) dL_law__1065 (by decide) rfl (fun c344 => ?_) (fun c344 => ?_)
      · replace E := (if_of E).1 c344
        refine Rn.iconst (pc' := 1073) (v := (0 : Int32)) (hv := by decide) dL_law__1072 rfl ?_
        exact f_Lw_main_b1073_ok hst hd  hk23 E
      · replace E := (if_of E).2 c344
        refine Rn.iconst (pc' := 1069) (v := (1 : Int32)) (hv := by decide) dL_law__1068 rfl ?_
        refine Rn.goto (pc' := 1073) dL_law__1069 (by decide) ?_
        exact f_Lw_main_b1073_ok hst hd  hk23 E
    replace E := (if_of E).2 c339
    by_cases c345 : ((X.2 (ix x4)) &&& (63 : Int32)) = (17 : Int32)
    · replace E := (if_of E).1 c345
      skip
      refine Rn.tabIn (x := ((X.2 (ix x4)) &&& (63 : Int32))) (tgt := 1143) dL_law__40 (by rw [c345]; decide) (by rw [c345]; decide) (by rw [c345]; rfl) (by decide) ?_
      refine Rn.aload_n (pc' := 1144) dL_law__1143 rfl 1 rfl rfl ?_
      refine Rn.aload_n (pc' := 1145) dL_law__1144 rfl 0 rfl rfl ?_
      refine Rn.iload (pc' := 1147) dL_law__1145 4 rfl rfl ?_
      refine Rn.iconst (pc' := 1148) (v := (1 : Int32)) (hv := by decide) dL_law__1147 rfl ?_
      refine Rn.iadd (pc' := 1149) dL_law__1148 rfl ?_
      obtain ⟨g346, E⟩ := gd_of E
      obtain ⟨g347, E⟩ := gd_of E
      refine Rn.sldE (pc' := 1150) g346 g347 dL_law__1149 rfl ?_
      obtain ⟨g348, E⟩ := gd_of E
      obtain ⟨v349, h350, e351, E⟩ := bI_of E
      refine Rn.callV1 (pc' := 1153) (As := [.int (X.2 (ix (x4 + (1 : Int32))))]) (rest := []) (f_Water_seed_ok hst e351) (Nat.le_trans (by decide) hd) rfl kb_L_167 ki_X10_seed rfl g348 rfl rfl (Nat.le_of_ble_eq_true rfl) dL_law__1150 rfl rfl ?_
      refine Rn.aload_n (pc' := 1154) dL_law__1153 rfl 2 rfl rfl ?_
      refine Rn.aload_n (pc' := 1155) dL_law__1154 rfl 0 rfl rfl ?_
      refine Rn.iload (pc' := 1157) dL_law__1155 4 rfl rfl ?_
      refine Rn.iconst (pc' := 1158) (v := (1 : Int32)) (hv := by decide) dL_law__1157 rfl ?_
      refine Rn.iadd (pc' := 1159) dL_law__1158 rfl ?_
      obtain ⟨g352, E⟩ := gd_of E
      obtain ⟨g353, E⟩ := gd_of E
      refine Rn.sldE (pc' := 1160) g352 g353 dL_law__1159 rfl ?_
      obtain ⟨g354, E⟩ := gd_of E
      obtain ⟨v355, h356, e357, E⟩ := bI_of E
      refine Rn.callV1 (pc' := 1163) (As := [.int (X.2 (ix (x4 + (1 : Int32))))]) (rest := [.int v349]) (f_Model_seed_ok hst e357) (Nat.le_trans (by decide) hd) rfl kb_L_170 ki_X11_seed rfl g354 rfl rfl (Nat.le_of_ble_eq_true rfl) dL_law__1160 rfl rfl ?_
      refine Rn.icmp_eq (pc' := 1166) (tgt := 2138) dL_law__1163 (by decide) rfl (fun c358 => ?_) (fun c358 => ?_)
      · replace E := (if_of E).1 c358
        exact f_Lw_main_b2138_ok hst hd  hk23 E
      · replace E := (if_of E).2 c358
        refine Rn.iconst (pc' := 1167) (v := (0 : Int32)) (hv := by decide) dL_law__1166 rfl ?_
        cases E
        exact Rn.zret rfl rfl dL_law__1167
    replace E := (if_of E).2 c345
    by_cases c359 : ((X.2 (ix x4)) &&& (63 : Int32)) = (18 : Int32)
    · replace E := (if_of E).1 c359
      skip
      refine Rn.tabIn (x := ((X.2 (ix x4)) &&& (63 : Int32))) (tgt := 1168) dL_law__40 (by rw [c359]; decide) (by rw [c359]; decide) (by rw [c359]; rfl) (by decide) ?_
      refine Rn.aload_n (pc' := 1169) dL_law__1168 rfl 1 rfl rfl ?_
      refine Rn.aload_n (pc' := 1170) dL_law__1169 rfl 0 rfl rfl ?_
      refine Rn.iload (pc' := 1172) dL_law__1170 4 rfl rfl ?_
      refine Rn.iconst (pc' := 1173) (v := (1 : Int32)) (hv := by decide) dL_law__1172 rfl ?_
      refine Rn.iadd (pc' := 1174) dL_law__1173 rfl ?_
      obtain ⟨g360, E⟩ := gd_of E
      obtain ⟨g361, E⟩ := gd_of E
      refine Rn.sldE (pc' := 1175) g360 g361 dL_law__1174 rfl ?_
      refine Rn.aload_n (pc' := 1176) dL_law__1175 rfl 0 rfl rfl ?_
      refine Rn.iload (pc' := 1178) dL_law__1176 4 rfl rfl ?_
      refine Rn.iconst (pc' := 1179) (v := (2 : Int32)) (hv := by decide) dL_law__1178 rfl ?_
      refine Rn.iadd (pc' := 1180) dL_law__1179 rfl ?_
      obtain ⟨g362, E⟩ := gd_of E
      obtain ⟨g363, E⟩ := gd_of E
      refine Rn.sldE (pc' := 1181) g362 g363 dL_law__1180 rfl ?_
      refine Rn.aload_n (pc' := 1182) dL_law__1181 rfl 0 rfl rfl ?_
      refine Rn.iload (pc' := 1184) dL_law__1182 4 rfl rfl ?_
      refine Rn.iconst (pc' := 1185) (v := (3 : Int32)) (hv := by decide) dL_law__1184 rfl ?_
      refine Rn.iadd (pc' := 1186) dL_law__1185 rfl ?_
      obtain ⟨g364, E⟩ := gd_of E
      obtain ⟨g365, E⟩ := gd_of E
      refine Rn.sldE (pc' := 1187) g364 g365 dL_law__1186 rfl ?_
      refine Rn.aload_n (pc' := 1188) dL_law__1187 rfl 3 rfl rfl ?_
      obtain ⟨v366, h367, e368, E⟩ := bI_of E
      refine Rn.callSX1 (pc' := 1191) (As := [.ref x1, .int (X.2 (ix (x4 + (1 : Int32)))), .int (X.2 (ix (x4 + (2 : Int32)))), .int (X.2 (ix (x4 + (3 : Int32)))), .ref x3]) (rest := []) (f_Lw_blend_ok hst e368) (Nat.le_trans (by decide) hd) rfl kb_L_171 ks_L_blend rfl rfl (Nat.le_of_ble_eq_true rfl) dL_law__1188 rfl rfl ?_
      refine Rn.istore (pc' := 1193) (L' := [(5, .int v366), (0, .ref x0), (1, .ref x1), (2, .ref x2), (3, .ref x3), (4, .int x4)]) dL_law__1191 (by decide) rfl rfl ?_
      refine Rn.aload_n (pc' := 1194) dL_law__1193 rfl 3 rfl rfl ?_
      refine Rn.aload_n (pc' := 1195) dL_law__1194 rfl 1 rfl rfl ?_
      refine Rn.iload (pc' := 1197) dL_law__1195 5 rfl rfl ?_
      refine Rn.iconst (pc' := 1198) (v := (1 : Int32)) (hv := by decide) dL_law__1197 rfl ?_
      refine Rn.iadd (pc' := 1199) dL_law__1198 rfl ?_
      obtain ⟨g369, E⟩ := gd_of E
      obtain ⟨g370, E⟩ := gd_of E
      refine Rn.sldE (pc' := 1200) g369 g370 dL_law__1199 rfl ?_
      refine Rn.aload_n (pc' := 1201) dL_law__1200 rfl 1 rfl rfl ?_
      refine Rn.iload (pc' := 1203) dL_law__1201 5 rfl rfl ?_
      refine Rn.iconst (pc' := 1204) (v := (2 : Int32)) (hv := by decide) dL_law__1203 rfl ?_
      refine Rn.iadd (pc' := 1205) dL_law__1204 rfl ?_
      obtain ⟨g371, E⟩ := gd_of E
      obtain ⟨g372, E⟩ := gd_of E
      refine Rn.sldE (pc' := 1206) g371 g372 dL_law__1205 rfl ?_
      refine Rn.aload_n (pc' := 1207) dL_law__1206 rfl 1 rfl rfl ?_
      refine Rn.iload (pc' := 1209) dL_law__1207 5 rfl rfl ?_
      refine Rn.iconst (pc' := 1210) (v := (3 : Int32)) (hv := by decide) dL_law__1209 rfl ?_
      refine Rn.iadd (pc' := 1211) dL_law__1210 rfl ?_
      obtain ⟨g373, E⟩ := gd_of E
      obtain ⟨g374, E⟩ := gd_of E
      refine Rn.sldE (pc' := 1212) g373 g374 dL_law__1211 rfl ?_
      obtain ⟨g375, E⟩ := gd_of E
      obtain ⟨v376, h377, e378, E⟩ := bI_of E
      refine Rn.callV1 (pc' := 1215) (As := [.int (X.2 (ix (x4 + (1 : Int32)))), .int (X.2 (ix (x4 + (2 : Int32)))), .int (X.2 (ix (x4 + (3 : Int32))))]) (rest := []) (f_Model_blend_ok hst e378) (Nat.le_trans (by decide) hd) rfl kb_L_174 ki_X11_blend rfl g375 rfl rfl (Nat.le_of_ble_eq_true rfl) dL_law__1212 rfl rfl ?_
      refine Rn.istore (pc' := 1217) (L' := [(6, .int v376), (5, .int v366), (0, .ref x0), (1, .ref x1), (2, .ref x2), (3, .ref x3), (4, .int x4)]) dL_law__1215 (by decide) rfl rfl ?_
      refine Rn.aload_n (pc' := 1218) dL_law__1217 rfl 4 rfl rfl ?_
      obtain ⟨g379, E⟩ := gd_of E
      obtain ⟨v380, h381, e382, E⟩ := bI_of E
      refine Rn.callV1 (pc' := 1221) (As := []) (rest := []) (f_Model_thrown_ok hst e382) (Nat.le_trans (by decide) hd) rfl kb_L_117 ki_X11_thrown rfl g379 rfl rfl (Nat.le_of_ble_eq_true rfl) dL_law__1218 rfl rfl ?_
      refine Rn.iload (pc' := 1223) dL_law__1221 1 rfl rfl ?_
      refine Rn.icmp_eq (pc' := 1226) (tgt := 1228) dL_law__1223 (by decide) rfl (fun c383 => ?_) (fun c383 => ?_)
      · replace E := (if_of E).1 c383
        refine Rn.iload (pc' := 1230) dL_law__1228 1 rfl rfl ?_
        refine Rn.if_ne (pc' := 1233) (tgt := 1245) dL_law__1230 (by decide) rfl (fun c384 => ?_) (fun c384 => ?_)
        · replace E := (if_of E).2 c384
          refine Rn.sub [2, 3, 4, 5, 6] rfl ?_
          exact f_Lw_main_b1245_ok hst hd  hk23 E
        · replace E := (if_of E).1 c384
          refine Rn.aload_n (pc' := 1234) dL_law__1233 rfl 5 rfl rfl ?_
          refine Rn.iconst (pc' := 1235) (v := (0 : Int32)) (hv := by decide) dL_law__1234 rfl ?_
          obtain ⟨g385, E⟩ := gd_of E
          obtain ⟨g386, E⟩ := gd_of E
          refine Rn.lald (pc' := 1236) g385 g386 dL_law__1235 rfl ?_
          refine Rn.iload (pc' := 1238) dL_law__1236 0 rfl rfl ?_
          refine Rn.i2l (pc' := 1239) dL_law__1238 rfl ?_
          refine Rn.lcmp (pc' := 1240) dL_law__1239 rfl ?_
          refine Rn.if_eq (pc' := 1243) (tgt := 1245) dL_law__1240 (by decide) rfl (fun c387 => ?_) (fun c387 => ?_)
          · replace E := (if_of E).1 c387
            refine Rn.sub [2, 3, 4, 5, 6] rfl ?_
            exact f_Lw_main_b1245_ok hst hd  hk23 E
          · replace E := (if_of E).2 c387
            refine Rn.iconst (pc' := 1244) (v := (0 : Int32)) (hv := by decide) dL_law__1243 rfl ?_
            cases E
            exact Rn.zret rfl rfl dL_law__1244
      · replace E := (if_of E).2 c383
        refine Rn.iconst (pc' := 1227) (v := (0 : Int32)) (hv := by decide) dL_law__1226 rfl ?_
        cases E
        exact Rn.zret rfl rfl dL_law__1227
    replace E := (if_of E).2 c359
    by_cases c388 : ((X.2 (ix x4)) &&& (63 : Int32)) = (19 : Int32)
    · replace E := (if_of E).1 c388
      skip
      refine Rn.tabIn (x := ((X.2 (ix x4)) &&& (63 : Int32))) (tgt := 1248) dL_law__40 (by rw [c388]; decide) (by rw [c388]; decide) (by rw [c388]; rfl) (by decide) ?_
      refine Rn.aload_n (pc' := 1249) dL_law__1248 rfl 1 rfl rfl ?_
      obtain ⟨g389, E⟩ := gd_of E
      obtain ⟨v390, h391, e392, E⟩ := bI_of E
      refine Rn.callV1 (pc' := 1252) (As := []) (rest := []) (f_Water_lasts_ok hst e392) (Nat.le_trans (by decide) hd) rfl kb_L_175 ki_X10_lasts rfl g389 rfl rfl (Nat.le_of_ble_eq_true rfl) dL_law__1249 rfl rfl ?_
      refine Rn.aload_n (pc' := 1253) dL_law__1252 rfl 2 rfl rfl ?_
      obtain ⟨g393, E⟩ := gd_of E
      obtain ⟨v394, h395, e396, E⟩ := bI_of E
      refine Rn.callV1 (pc' := 1256) (As := []) (rest := [.int v390]) (f_Model_lasts_ok hst e396) (Nat.le_trans (by decide) hd) rfl kb_L_178 ki_X11_lasts rfl g393 rfl rfl (Nat.le_of_ble_eq_true rfl) dL_law__1253 rfl rfl ?_
      refine Rn.icmp_eq (pc' := 1259) (tgt := 2138) dL_law__1256 (by decide) rfl (fun c397 => ?_) (fun c397 => ?_)
      · replace E := (if_of E).1 c397
        exact f_Lw_main_b2138_ok hst hd  hk23 E
      · replace E := (if_of E).2 c397
        refine Rn.iconst (pc' := 1260) (v := (0 : Int32)) (hv := by decide) dL_law__1259 rfl ?_
        cases E
        exact Rn.zret rfl rfl dL_law__1260
    replace E := (if_of E).2 c388
    by_cases c398 : ((X.2 (ix x4)) &&& (63 : Int32)) = (20 : Int32)
    · replace E := (if_of E).1 c398
      skip
      refine Rn.tabIn (x := ((X.2 (ix x4)) &&& (63 : Int32))) (tgt := 1261) dL_law__40 (by rw [c398]; decide) (by rw [c398]; decide) (by rw [c398]; rfl) (by decide) ?_
      refine Rn.aload_n (pc' := 1262) dL_law__1261 rfl 1 rfl rfl ?_
      obtain ⟨g399, E⟩ := gd_of E
      obtain ⟨v400, h401, e402, E⟩ := bI_of E
      refine Rn.callV1 (pc' := 1265) (As := []) (rest := []) (f_Water_worst_ok hst e402) (Nat.le_trans (by decide) hd) rfl kb_L_179 ki_X10_worst rfl g399 rfl rfl (Nat.le_of_ble_eq_true rfl) dL_law__1262 rfl rfl ?_
      refine Rn.aload_n (pc' := 1266) dL_law__1265 rfl 2 rfl rfl ?_
      obtain ⟨g403, E⟩ := gd_of E
      obtain ⟨v404, h405, e406, E⟩ := bI_of E
      refine Rn.callV1 (pc' := 1269) (As := []) (rest := [.int v400]) (f_Model_worst_ok hst e406) (Nat.le_trans (by decide) hd) rfl kb_L_182 ki_X11_worst rfl g403 rfl rfl (Nat.le_of_ble_eq_true rfl) dL_law__1266 rfl rfl ?_
      refine Rn.icmp_eq (pc' := 1272) (tgt := 2138) dL_law__1269 (by decide) rfl (fun c407 => ?_) (fun c407 => ?_)
      · replace E := (if_of E).1 c407
        exact f_Lw_main_b2138_ok hst hd  hk23 E
      · replace E := (if_of E).2 c407
        refine Rn.iconst (pc' := 1273) (v := (0 : Int32)) (hv := by decide) dL_law__1272 rfl ?_
        cases E
        exact Rn.zret rfl rfl dL_law__1273
    replace E := (if_of E).2 c398
    by_cases c408 : ((X.2 (ix x4)) &&& (63 : Int32)) = (21 : Int32)
    · replace E := (if_of E).1 c408
      skip
      refine Rn.tabIn (x := ((X.2 (ix x4)) &&& (63 : Int32))) (tgt := 1274) dL_law__40 (by rw [c408]; decide) (by rw [c408]; decide) (by rw [c408]; rfl) (by decide) ?_
      refine Rn.aload_n (pc' := 1275) dL_law__1274 rfl 1 rfl rfl ?_
      refine Rn.aload_n (pc' := 1276) dL_law__1275 rfl 3 rfl rfl ?_
      obtain ⟨v409, h410, e411, E⟩ := bI_of E
      refine Rn.callSX1 (pc' := 1279) (As := [.ref x1, .ref x3]) (rest := []) (f_Lw_judge_ok hst e411) (Nat.le_trans (by decide) hd) rfl kb_L_183 ks_L_judge rfl rfl (Nat.le_of_ble_eq_true rfl) dL_law__1276 rfl rfl ?_
      refine Rn.istore (pc' := 1281) (L' := [(5, .int v409), (0, .ref x0), (1, .ref x1), (2, .ref x2), (3, .ref x3), (4, .int x4)]) dL_law__1279 (by decide) rfl rfl ?_
      refine Rn.aload_n (pc' := 1282) dL_law__1281 rfl 3 rfl rfl ?_
      obtain ⟨g412, E⟩ := gd_of E
      obtain ⟨v413, h414, e415, E⟩ := bI_of E
      refine Rn.callV1 (pc' := 1285) (As := []) (rest := []) (f_Model_judge_ok hst e415) (Nat.le_trans (by decide) hd) rfl kb_L_185 ki_X11_judge rfl g412 rfl rfl (Nat.le_of_ble_eq_true rfl) dL_law__1282 rfl rfl ?_
      refine Rn.istore (pc' := 1287) (L' := [(6, .int v413), (5, .int v409), (0, .ref x0), (1, .ref x1), (2, .ref x2), (3, .ref x3), (4, .int x4)]) dL_law__1285 (by decide) rfl rfl ?_
      refine Rn.aload_n (pc' := 1288) dL_law__1287 rfl 4 rfl rfl ?_
      obtain ⟨g416, E⟩ := gd_of E
      obtain ⟨v417, h418, e419, E⟩ := bI_of E
      refine Rn.callV1 (pc' := 1291) (As := []) (rest := []) (f_Model_thrown_ok hst e419) (Nat.le_trans (by decide) hd) rfl kb_L_117 ki_X11_thrown rfl g416 rfl rfl (Nat.le_of_ble_eq_true rfl) dL_law__1288 rfl rfl ?_
      refine Rn.iload (pc' := 1293) dL_law__1291 1 rfl rfl ?_
      refine Rn.icmp_eq (pc' := 1296) (tgt := 1298) dL_law__1293 (by decide) rfl (fun c420 => ?_) (fun c420 => ?_)
      · replace E := (if_of E).1 c420
        refine Rn.iload (pc' := 1300) dL_law__1298 1 rfl rfl ?_
        refine Rn.if_ne (pc' := 1303) (tgt := 1315) dL_law__1300 (by decide) rfl (fun c421 => ?_) (fun c421 => ?_)
        · replace E := (if_of E).2 c421
          refine Rn.sub [2, 3, 4, 5, 6] rfl ?_
          exact f_Lw_main_b1315_ok hst hd  hk23 E
        · replace E := (if_of E).1 c421
          refine Rn.aload_n (pc' := 1304) dL_law__1303 rfl 5 rfl rfl ?_
          refine Rn.iconst (pc' := 1305) (v := (0 : Int32)) (hv := by decide) dL_law__1304 rfl ?_
          obtain ⟨g422, E⟩ := gd_of E
          obtain ⟨g423, E⟩ := gd_of E
          refine Rn.lald (pc' := 1306) g422 g423 dL_law__1305 rfl ?_
          refine Rn.iload (pc' := 1308) dL_law__1306 0 rfl rfl ?_
          refine Rn.i2l (pc' := 1309) dL_law__1308 rfl ?_
          refine Rn.lcmp (pc' := 1310) dL_law__1309 rfl ?_
          refine Rn.if_eq (pc' := 1313) (tgt := 1315) dL_law__1310 (by decide) rfl (fun c424 => ?_) (fun c424 => ?_)
          · replace E := (if_of E).1 c424
            refine Rn.sub [2, 3, 4, 5, 6] rfl ?_
            exact f_Lw_main_b1315_ok hst hd  hk23 E
          · replace E := (if_of E).2 c424
            refine Rn.iconst (pc' := 1314) (v := (0 : Int32)) (hv := by decide) dL_law__1313 rfl ?_
            cases E
            exact Rn.zret rfl rfl dL_law__1314
      · replace E := (if_of E).2 c420
        refine Rn.iconst (pc' := 1297) (v := (0 : Int32)) (hv := by decide) dL_law__1296 rfl ?_
        cases E
        exact Rn.zret rfl rfl dL_law__1297
    replace E := (if_of E).2 c408
    by_cases c425 : ((X.2 (ix x4)) &&& (63 : Int32)) = (22 : Int32)
    · replace E := (if_of E).1 c425
      skip
      refine Rn.tabIn (x := ((X.2 (ix x4)) &&& (63 : Int32))) (tgt := 1318) dL_law__40 (by rw [c425]; decide) (by rw [c425]; decide) (by rw [c425]; rfl) (by decide) ?_
      refine Rn.aload_n (pc' := 1319) dL_law__1318 rfl 1 rfl rfl ?_
      refine Rn.aload_n (pc' := 1320) dL_law__1319 rfl 0 rfl rfl ?_
      refine Rn.iload (pc' := 1322) dL_law__1320 4 rfl rfl ?_
      refine Rn.iconst (pc' := 1323) (v := (1 : Int32)) (hv := by decide) dL_law__1322 rfl ?_
      refine Rn.iadd (pc' := 1324) dL_law__1323 rfl ?_
      obtain ⟨g426, E⟩ := gd_of E
      obtain ⟨g427, E⟩ := gd_of E
      refine Rn.sldE (pc' := 1325) g426 g427 dL_law__1324 rfl ?_
      refine Rn.aload_n (pc' := 1326) dL_law__1325 rfl 0 rfl rfl ?_
      refine Rn.iload (pc' := 1328) dL_law__1326 4 rfl rfl ?_
      refine Rn.iconst (pc' := 1329) (v := (2 : Int32)) (hv := by decide) dL_law__1328 rfl ?_
      refine Rn.iadd (pc' := 1330) dL_law__1329 rfl ?_
      obtain ⟨g428, E⟩ := gd_of E
      obtain ⟨g429, E⟩ := gd_of E
      refine Rn.sldE (pc' := 1331) g428 g429 dL_law__1330 rfl ?_
      refine Rn.aload_n (pc' := 1332) dL_law__1331 rfl 0 rfl rfl ?_
      refine Rn.iload (pc' := 1334) dL_law__1332 4 rfl rfl ?_
      refine Rn.iconst (pc' := 1335) (v := (3 : Int32)) (hv := by decide) dL_law__1334 rfl ?_
      refine Rn.iadd (pc' := 1336) dL_law__1335 rfl ?_
      obtain ⟨g430, E⟩ := gd_of E
      obtain ⟨g431, E⟩ := gd_of E
      refine Rn.sldE (pc' := 1337) g430 g431 dL_law__1336 rfl ?_
      refine Rn.aload_n (pc' := 1338) dL_law__1337 rfl 0 rfl rfl ?_
      refine Rn.iload (pc' := 1340) dL_law__1338 4 rfl rfl ?_
      refine Rn.iconst (pc' := 1341) (v := (4 : Int32)) (hv := by decide) dL_law__1340 rfl ?_
      refine Rn.iadd (pc' := 1342) dL_law__1341 rfl ?_
      obtain ⟨g432, E⟩ := gd_of E
      obtain ⟨g433, E⟩ := gd_of E
      refine Rn.sldE (pc' := 1343) g432 g433 dL_law__1342 rfl ?_
      refine Rn.aload_n (pc' := 1344) dL_law__1343 rfl 0 rfl rfl ?_
      refine Rn.iload (pc' := 1346) dL_law__1344 4 rfl rfl ?_
      refine Rn.iconst (pc' := 1347) (v := (5 : Int32)) (hv := by decide) dL_law__1346 rfl ?_
      refine Rn.iadd (pc' := 1348) dL_law__1347 rfl ?_
      obtain ⟨g434, E⟩ := gd_of E
      obtain ⟨g435, E⟩ := gd_of E
      refine Rn.sldE (pc' := 1349) g434 g435 dL_law__1348 rfl ?_
      refine Rn.aload_n (pc' := 1350) dL_law__1349 rfl 3 rfl rfl ?_
      obtain ⟨v436, h437, e438, E⟩ := bI_of E
      refine Rn.callSX1 (pc' := 1353) (As := [.ref x1, .int (X.2 (ix (x4 + (1 : Int32)))), .int (X.2 (ix (x4 + (2 : Int32)))), .int (X.2 (ix (x4 + (3 : Int32)))), .int (X.2 (ix (x4 + (4 : Int32)))), .int (X.2 (ix (x4 + (5 : Int32)))), .ref x3]) (rest := []) (f_Lw_swap_ok hst e438) (Nat.le_trans (by decide) hd) rfl kb_L_186 ks_L_swap rfl rfl (Nat.le_of_ble_eq_true rfl) dL_law__1350 rfl rfl ?_
      refine Rn.istore (pc' := 1355) (L' := [(5, .int v436), (0, .ref x0), (1, .ref x1), (2, .ref x2), (3, .ref x3), (4, .int x4)]) dL_law__1353 (by decide) rfl rfl ?_
      refine Rn.aload_n (pc' := 1356) dL_law__1355 rfl 3 rfl rfl ?_
      refine Rn.aload_n (pc' := 1357) dL_law__1356 rfl 1 rfl rfl ?_
      refine Rn.iload (pc' := 1359) dL_law__1357 5 rfl rfl ?_
      refine Rn.iconst (pc' := 1360) (v := (1 : Int32)) (hv := by decide) dL_law__1359 rfl ?_
      refine Rn.iadd (pc' := 1361) dL_law__1360 rfl ?_
      obtain ⟨g439, E⟩ := gd_of E
      obtain ⟨g440, E⟩ := gd_of E
      refine Rn.sldE (pc' := 1362) g439 g440 dL_law__1361 rfl ?_
      refine Rn.aload_n (pc' := 1363) dL_law__1362 rfl 1 rfl rfl ?_
      refine Rn.iload (pc' := 1365) dL_law__1363 5 rfl rfl ?_
      refine Rn.iconst (pc' := 1366) (v := (2 : Int32)) (hv := by decide) dL_law__1365 rfl ?_
      refine Rn.iadd (pc' := 1367) dL_law__1366 rfl ?_
      obtain ⟨g441, E⟩ := gd_of E
      obtain ⟨g442, E⟩ := gd_of E
      refine Rn.sldE (pc' := 1368) g441 g442 dL_law__1367 rfl ?_
      refine Rn.aload_n (pc' := 1369) dL_law__1368 rfl 1 rfl rfl ?_
      refine Rn.iload (pc' := 1371) dL_law__1369 5 rfl rfl ?_
      refine Rn.iconst (pc' := 1372) (v := (3 : Int32)) (hv := by decide) dL_law__1371 rfl ?_
      refine Rn.iadd (pc' := 1373) dL_law__1372 rfl ?_
      obtain ⟨g443, E⟩ := gd_of E
      obtain ⟨g444, E⟩ := gd_of E
      refine Rn.sldE (pc' := 1374) g443 g444 dL_law__1373 rfl ?_
      refine Rn.aload_n (pc' := 1375) dL_law__1374 rfl 1 rfl rfl ?_
      refine Rn.iload (pc' := 1377) dL_law__1375 5 rfl rfl ?_
      refine Rn.iconst (pc' := 1378) (v := (4 : Int32)) (hv := by decide) dL_law__1377 rfl ?_
      refine Rn.iadd (pc' := 1379) dL_law__1378 rfl ?_
      obtain ⟨g445, E⟩ := gd_of E
      obtain ⟨g446, E⟩ := gd_of E
      refine Rn.sldE (pc' := 1380) g445 g446 dL_law__1379 rfl ?_
      refine Rn.aload_n (pc' := 1381) dL_law__1380 rfl 1 rfl rfl ?_
      refine Rn.iload (pc' := 1383) dL_law__1381 5 rfl rfl ?_
      refine Rn.iconst (pc' := 1384) (v := (5 : Int32)) (hv := by decide) dL_law__1383 rfl ?_
      refine Rn.iadd (pc' := 1385) dL_law__1384 rfl ?_
      obtain ⟨g447, E⟩ := gd_of E
      obtain ⟨g448, E⟩ := gd_of E
      refine Rn.sldE (pc' := 1386) g447 g448 dL_law__1385 rfl ?_
      obtain ⟨g449, E⟩ := gd_of E
      obtain ⟨v450, h451, e452, E⟩ := bI_of E
      refine Rn.callV1 (pc' := 1389) (As := [.int (X.2 (ix (x4 + (1 : Int32)))), .int (X.2 (ix (x4 + (2 : Int32)))), .int (X.2 (ix (x4 + (3 : Int32)))), .int (X.2 (ix (x4 + (4 : Int32)))), .int (X.2 (ix (x4 + (5 : Int32))))]) (rest := []) (f_Model_swap_ok hst e452) (Nat.le_trans (by decide) hd) rfl kb_L_189 ki_X11_swap rfl g449 rfl rfl (Nat.le_of_ble_eq_true rfl) dL_law__1386 rfl rfl ?_
      refine Rn.istore (pc' := 1391) (L' := [(6, .int v450), (5, .int v436), (0, .ref x0), (1, .ref x1), (2, .ref x2), (3, .ref x3), (4, .int x4)]) dL_law__1389 (by decide) rfl rfl ?_
      refine Rn.aload_n (pc' := 1392) dL_law__1391 rfl 4 rfl rfl ?_
      obtain ⟨g453, E⟩ := gd_of E
      obtain ⟨v454, h455, e456, E⟩ := bI_of E
      refine Rn.callV1 (pc' := 1395) (As := []) (rest := []) (f_Model_thrown_ok hst e456) (Nat.le_trans (by decide) hd) rfl kb_L_117 ki_X11_thrown rfl g453 rfl rfl (Nat.le_of_ble_eq_true rfl) dL_law__1392 rfl rfl ?_
      refine Rn.iload (pc' := 1397) dL_law__1395 1 rfl rfl ?_
      refine Rn.icmp_eq (pc' := 1400) (tgt := 1402) dL_law__1397 (by decide) rfl (fun c457 => ?_) (fun c457 => ?_)
      · replace E := (if_of E).1 c457
        refine Rn.iload (pc' := 1404) dL_law__1402 1 rfl rfl ?_
        refine Rn.if_ne (pc' := 1407) (tgt := 1419) dL_law__1404 (by decide) rfl (fun c458 => ?_) (fun c458 => ?_)
        · replace E := (if_of E).2 c458
          refine Rn.sub [2, 3, 4, 5, 6] rfl ?_
          exact f_Lw_main_b1419_ok hst hd  hk23 E
        · replace E := (if_of E).1 c458
          refine Rn.aload_n (pc' := 1408) dL_law__1407 rfl 5 rfl rfl ?_
          refine Rn.iconst (pc' := 1409) (v := (0 : Int32)) (hv := by decide) dL_law__1408 rfl ?_
          obtain ⟨g459, E⟩ := gd_of E
          obtain ⟨g460, E⟩ := gd_of E
          refine Rn.lald (pc' := 1410) g459 g460 dL_law__1409 rfl ?_
          refine Rn.iload (pc' := 1412) dL_law__1410 0 rfl rfl ?_
          refine Rn.i2l (pc' := 1413) dL_law__1412 rfl ?_
          refine Rn.lcmp (pc' := 1414) dL_law__1413 rfl ?_
          refine Rn.if_eq (pc' := 1417) (tgt := 1419) dL_law__1414 (by decide) rfl (fun c461 => ?_) (fun c461 => ?_)
          · replace E := (if_of E).1 c461
            refine Rn.sub [2, 3, 4, 5, 6] rfl ?_
            exact f_Lw_main_b1419_ok hst hd  hk23 E
          · replace E := (if_of E).2 c461
            refine Rn.iconst (pc' := 1418) (v := (0 : Int32)) (hv := by decide) dL_law__1417 rfl ?_
            cases E
            exact Rn.zret rfl rfl dL_law__1418
      · replace E := (if_of E).2 c457
        refine Rn.iconst (pc' := 1401) (v := (0 : Int32)) (hv := by decide) dL_law__1400 rfl ?_
        cases E
        exact Rn.zret rfl rfl dL_law__1401
    replace E := (if_of E).2 c425
    by_cases c462 : ((X.2 (ix x4)) &&& (63 : Int32)) = (23 : Int32)
    · replace E := (if_of E).1 c462
      skip
      refine Rn.tabIn (x := ((X.2 (ix x4)) &&& (63 : Int32))) (tgt := 1422) dL_law__40 (by rw [c462]; decide) (by rw [c462]; decide) (by rw [c462]; rfl) (by decide) ?_
      refine Rn.aload_n (pc' := 1423) dL_law__1422 rfl 1 rfl rfl ?_
      refine Rn.aload_n (pc' := 1424) dL_law__1423 rfl 0 rfl rfl ?_
      refine Rn.iload (pc' := 1426) dL_law__1424 4 rfl rfl ?_
      refine Rn.iconst (pc' := 1427) (v := (1 : Int32)) (hv := by decide) dL_law__1426 rfl ?_
      refine Rn.iadd (pc' := 1428) dL_law__1427 rfl ?_
      obtain ⟨g463, E⟩ := gd_of E
      obtain ⟨g464, E⟩ := gd_of E
      refine Rn.sldE (pc' := 1429) g463 g464 dL_law__1428 rfl ?_
      obtain ⟨g465, E⟩ := gd_of E
      obtain ⟨v466, h467, e468, E⟩ := bI_of E
      refine Rn.callV1 (pc' := 1432) (As := [.int (X.2 (ix (x4 + (1 : Int32))))]) (rest := []) (f_Water_foul_ok hst e468) (Nat.le_trans (by decide) hd) rfl kb_L_190 ki_X10_foul rfl g465 rfl rfl (Nat.le_of_ble_eq_true rfl) dL_law__1429 rfl rfl ?_
      refine Rn.aload_n (pc' := 1433) dL_law__1432 rfl 2 rfl rfl ?_
      refine Rn.aload_n (pc' := 1434) dL_law__1433 rfl 0 rfl rfl ?_
      refine Rn.iload (pc' := 1436) dL_law__1434 4 rfl rfl ?_
      refine Rn.iconst (pc' := 1437) (v := (1 : Int32)) (hv := by decide) dL_law__1436 rfl ?_
      refine Rn.iadd (pc' := 1438) dL_law__1437 rfl ?_
      obtain ⟨g469, E⟩ := gd_of E
      obtain ⟨g470, E⟩ := gd_of E
      refine Rn.sldE (pc' := 1439) g469 g470 dL_law__1438 rfl ?_
      obtain ⟨g471, E⟩ := gd_of E
      obtain ⟨v472, h473, e474, E⟩ := bI_of E
      refine Rn.callV1 (pc' := 1442) (As := [.int (X.2 (ix (x4 + (1 : Int32))))]) (rest := [.int v466]) (f_Model_foul_ok hst e474) (Nat.le_trans (by decide) hd) rfl kb_L_193 ki_X11_foul rfl g471 rfl rfl (Nat.le_of_ble_eq_true rfl) dL_law__1439 rfl rfl ?_
      refine Rn.icmp_eq (pc' := 1445) (tgt := 2138) dL_law__1442 (by decide) rfl (fun c475 => ?_) (fun c475 => ?_)
      · replace E := (if_of E).1 c475
        exact f_Lw_main_b2138_ok hst hd  hk23 E
      · replace E := (if_of E).2 c475
        refine Rn.iconst (pc' := 1446) (v := (0 : Int32)) (hv := by decide) dL_law__1445 rfl ?_
        cases E
        exact Rn.zret rfl rfl dL_law__1446
    replace E := (if_of E).2 c462
    by_cases c476 : ((X.2 (ix x4)) &&& (63 : Int32)) = (24 : Int32)
    · replace E := (if_of E).1 c476
      skip
      refine Rn.tabIn (x := ((X.2 (ix x4)) &&& (63 : Int32))) (tgt := 1447) dL_law__40 (by rw [c476]; decide) (by rw [c476]; decide) (by rw [c476]; rfl) (by decide) ?_
      refine Rn.aload_n (pc' := 1448) dL_law__1447 rfl 1 rfl rfl ?_
      refine Rn.aload_n (pc' := 1449) dL_law__1448 rfl 0 rfl rfl ?_
      refine Rn.iload (pc' := 1451) dL_law__1449 4 rfl rfl ?_
      refine Rn.iconst (pc' := 1452) (v := (1 : Int32)) (hv := by decide) dL_law__1451 rfl ?_
      refine Rn.iadd (pc' := 1453) dL_law__1452 rfl ?_
      obtain ⟨g477, E⟩ := gd_of E
      obtain ⟨g478, E⟩ := gd_of E
      refine Rn.sldE (pc' := 1454) g477 g478 dL_law__1453 rfl ?_
      obtain ⟨g479, E⟩ := gd_of E
      obtain ⟨v480, h481, e482, E⟩ := bI_of E
      refine Rn.callV1 (pc' := 1457) (As := [.int (X.2 (ix (x4 + (1 : Int32))))]) (rest := []) (f_Water_fewest_ok hst e482) (Nat.le_trans (by decide) hd) rfl kb_L_194 ki_X10_fewest rfl g479 rfl rfl (Nat.le_of_ble_eq_true rfl) dL_law__1454 rfl rfl ?_
      refine Rn.aload_n (pc' := 1458) dL_law__1457 rfl 2 rfl rfl ?_
      refine Rn.aload_n (pc' := 1459) dL_law__1458 rfl 0 rfl rfl ?_
      refine Rn.iload (pc' := 1461) dL_law__1459 4 rfl rfl ?_
      refine Rn.iconst (pc' := 1462) (v := (1 : Int32)) (hv := by decide) dL_law__1461 rfl ?_
      refine Rn.iadd (pc' := 1463) dL_law__1462 rfl ?_
      obtain ⟨g483, E⟩ := gd_of E
      obtain ⟨g484, E⟩ := gd_of E
      refine Rn.sldE (pc' := 1464) g483 g484 dL_law__1463 rfl ?_
      obtain ⟨g485, E⟩ := gd_of E
      obtain ⟨v486, h487, e488, E⟩ := bI_of E
      refine Rn.callV1 (pc' := 1467) (As := [.int (X.2 (ix (x4 + (1 : Int32))))]) (rest := [.int v480]) (f_Model_fewest_ok hst e488) (Nat.le_trans (by decide) hd) rfl kb_L_197 ki_X11_fewest rfl g485 rfl rfl (Nat.le_of_ble_eq_true rfl) dL_law__1464 rfl rfl ?_
      refine Rn.icmp_eq (pc' := 1470) (tgt := 2138) dL_law__1467 (by decide) rfl (fun c489 => ?_) (fun c489 => ?_)
      · replace E := (if_of E).1 c489
        exact f_Lw_main_b2138_ok hst hd  hk23 E
      · replace E := (if_of E).2 c489
        refine Rn.iconst (pc' := 1471) (v := (0 : Int32)) (hv := by decide) dL_law__1470 rfl ?_
        cases E
        exact Rn.zret rfl rfl dL_law__1471
    replace E := (if_of E).2 c476
    by_cases c490 : ((X.2 (ix x4)) &&& (63 : Int32)) = (25 : Int32)
    · replace E := (if_of E).1 c490
      skip
      refine Rn.tabIn (x := ((X.2 (ix x4)) &&& (63 : Int32))) (tgt := 1472) dL_law__40 (by rw [c490]; decide) (by rw [c490]; decide) (by rw [c490]; rfl) (by decide) ?_
      refine Rn.aload_n (pc' := 1473) dL_law__1472 rfl 1 rfl rfl ?_
      refine Rn.aload_n (pc' := 1474) dL_law__1473 rfl 3 rfl rfl ?_
      obtain ⟨v491, h492, e493, E⟩ := bI_of E
      refine Rn.callSX1 (pc' := 1477) (As := [.ref x1, .ref x3]) (rest := []) (f_Lw_look_ok hst e493) (Nat.le_trans (by decide) hd) rfl kb_L_198 ks_L_look rfl rfl (Nat.le_of_ble_eq_true rfl) dL_law__1474 rfl rfl ?_
      refine Rn.istore (pc' := 1479) (L' := [(5, .int v491), (0, .ref x0), (1, .ref x1), (2, .ref x2), (3, .ref x3), (4, .int x4)]) dL_law__1477 (by decide) rfl rfl ?_
      refine Rn.aload_n (pc' := 1480) dL_law__1479 rfl 3 rfl rfl ?_
      obtain ⟨g494, E⟩ := gd_of E
      obtain ⟨v495, h496, e497, E⟩ := bI_of E
      refine Rn.callV1 (pc' := 1483) (As := []) (rest := []) (f_Model_look_ok hst e497) (Nat.le_trans (by decide) hd) rfl kb_L_200 ki_X11_look rfl g494 rfl rfl (Nat.le_of_ble_eq_true rfl) dL_law__1480 rfl rfl ?_
      refine Rn.istore (pc' := 1485) (L' := [(6, .int v495), (5, .int v491), (0, .ref x0), (1, .ref x1), (2, .ref x2), (3, .ref x3), (4, .int x4)]) dL_law__1483 (by decide) rfl rfl ?_
      refine Rn.aload_n (pc' := 1486) dL_law__1485 rfl 4 rfl rfl ?_
      obtain ⟨g498, E⟩ := gd_of E
      obtain ⟨v499, h500, e501, E⟩ := bI_of E
      refine Rn.callV1 (pc' := 1489) (As := []) (rest := []) (f_Model_thrown_ok hst e501) (Nat.le_trans (by decide) hd) rfl kb_L_117 ki_X11_thrown rfl g498 rfl rfl (Nat.le_of_ble_eq_true rfl) dL_law__1486 rfl rfl ?_
      refine Rn.iload (pc' := 1491) dL_law__1489 1 rfl rfl ?_
      refine Rn.icmp_eq (pc' := 1494) (tgt := 1496) dL_law__1491 (by decide) rfl (fun c502 => ?_) (fun c502 => ?_)
      · replace E := (if_of E).1 c502
        refine Rn.iload (pc' := 1498) dL_law__1496 1 rfl rfl ?_
        refine Rn.if_ne (pc' := 1501) (tgt := 1513) dL_law__1498 (by decide) rfl (fun c503 => ?_) (fun c503 => ?_)
        · replace E := (if_of E).2 c503
          refine Rn.sub [2, 3, 4, 5, 6] rfl ?_
          exact f_Lw_main_b1513_ok hst hd  hk23 E
        · replace E := (if_of E).1 c503
          refine Rn.aload_n (pc' := 1502) dL_law__1501 rfl 5 rfl rfl ?_
          refine Rn.iconst (pc' := 1503) (v := (0 : Int32)) (hv := by decide) dL_law__1502 rfl ?_
          obtain ⟨g504, E⟩ := gd_of E
          obtain ⟨g505, E⟩ := gd_of E
          refine Rn.lald (pc' := 1504) g504 g505 dL_law__1503 rfl ?_
          refine Rn.iload (pc' := 1506) dL_law__1504 0 rfl rfl ?_
          refine Rn.i2l (pc' := 1507) dL_law__1506 rfl ?_
          refine Rn.lcmp (pc' := 1508) dL_law__1507 rfl ?_
          refine Rn.if_eq (pc' := 1511) (tgt := 1513) dL_law__1508 (by decide) rfl (fun c506 => ?_) (fun c506 => ?_)
          · replace E := (if_of E).1 c506
            refine Rn.sub [2, 3, 4, 5, 6] rfl ?_
            exact f_Lw_main_b1513_ok hst hd  hk23 E
          · replace E := (if_of E).2 c506
            refine Rn.iconst (pc' := 1512) (v := (0 : Int32)) (hv := by decide) dL_law__1511 rfl ?_
            cases E
            exact Rn.zret rfl rfl dL_law__1512
      · replace E := (if_of E).2 c502
        refine Rn.iconst (pc' := 1495) (v := (0 : Int32)) (hv := by decide) dL_law__1494 rfl ?_
        cases E
        exact Rn.zret rfl rfl dL_law__1495
    replace E := (if_of E).2 c490
    by_cases c507 : ((X.2 (ix x4)) &&& (63 : Int32)) = (26 : Int32)
    · replace E := (if_of E).1 c507
      skip
      refine Rn.tabIn (x := ((X.2 (ix x4)) &&& (63 : Int32))) (tgt := 1516) dL_law__40 (by rw [c507]; decide) (by rw [c507]; decide) (by rw [c507]; rfl) (by decide) ?_
      refine Rn.aload_n (pc' := 1517) dL_law__1516 rfl 1 rfl rfl ?_
      refine Rn.aload_n (pc' := 1518) dL_law__1517 rfl 0 rfl rfl ?_
      refine Rn.iload (pc' := 1520) dL_law__1518 4 rfl rfl ?_
      refine Rn.iconst (pc' := 1521) (v := (1 : Int32)) (hv := by decide) dL_law__1520 rfl ?_
      refine Rn.iadd (pc' := 1522) dL_law__1521 rfl ?_
      obtain ⟨g508, E⟩ := gd_of E
      obtain ⟨g509, E⟩ := gd_of E
      refine Rn.sldE (pc' := 1523) g508 g509 dL_law__1522 rfl ?_
      refine Rn.aload_n (pc' := 1524) dL_law__1523 rfl 3 rfl rfl ?_
      obtain ⟨v510, h511, e512, E⟩ := bI_of E
      refine Rn.callSX1 (pc' := 1527) (As := [.ref x1, .int (X.2 (ix (x4 + (1 : Int32)))), .ref x3]) (rest := []) (f_Lw_site_ok hst e512) (Nat.le_trans (by decide) hd) rfl kb_L_201 ks_L_site rfl rfl (Nat.le_of_ble_eq_true rfl) dL_law__1524 rfl rfl ?_
      refine Rn.istore (pc' := 1529) (L' := [(5, .int v510), (0, .ref x0), (1, .ref x1), (2, .ref x2), (3, .ref x3), (4, .int x4)]) dL_law__1527 (by decide) rfl rfl ?_
      refine Rn.aload_n (pc' := 1530) dL_law__1529 rfl 3 rfl rfl ?_
      refine Rn.aload_n (pc' := 1531) dL_law__1530 rfl 1 rfl rfl ?_
      refine Rn.iload (pc' := 1533) dL_law__1531 5 rfl rfl ?_
      refine Rn.iconst (pc' := 1534) (v := (1 : Int32)) (hv := by decide) dL_law__1533 rfl ?_
      refine Rn.iadd (pc' := 1535) dL_law__1534 rfl ?_
      obtain ⟨g513, E⟩ := gd_of E
      obtain ⟨g514, E⟩ := gd_of E
      refine Rn.sldE (pc' := 1536) g513 g514 dL_law__1535 rfl ?_
      obtain ⟨g515, E⟩ := gd_of E
      obtain ⟨v516, h517, e518, E⟩ := bI_of E
      refine Rn.callV1 (pc' := 1539) (As := [.int (X.2 (ix (x4 + (1 : Int32))))]) (rest := []) (f_Model_site_ok hst e518) (Nat.le_trans (by decide) hd) rfl kb_L_203 ki_X11_site rfl g515 rfl rfl (Nat.le_of_ble_eq_true rfl) dL_law__1536 rfl rfl ?_
      refine Rn.istore (pc' := 1541) (L' := [(6, .int v516), (5, .int v510), (0, .ref x0), (1, .ref x1), (2, .ref x2), (3, .ref x3), (4, .int x4)]) dL_law__1539 (by decide) rfl rfl ?_
      refine Rn.aload_n (pc' := 1542) dL_law__1541 rfl 4 rfl rfl ?_
      obtain ⟨g519, E⟩ := gd_of E
      obtain ⟨v520, h521, e522, E⟩ := bI_of E
      refine Rn.callV1 (pc' := 1545) (As := []) (rest := []) (f_Model_thrown_ok hst e522) (Nat.le_trans (by decide) hd) rfl kb_L_117 ki_X11_thrown rfl g519 rfl rfl (Nat.le_of_ble_eq_true rfl) dL_law__1542 rfl rfl ?_
      refine Rn.iload (pc' := 1547) dL_law__1545 1 rfl rfl ?_
      refine Rn.icmp_eq (pc' := 1550) (tgt := 1552) dL_law__1547 (by decide) rfl (fun c523 => ?_) (fun c523 => ?_)
      · replace E := (if_of E).1 c523
        refine Rn.iload (pc' := 1554) dL_law__1552 1 rfl rfl ?_
        refine Rn.if_ne (pc' := 1557) (tgt := 1569) dL_law__1554 (by decide) rfl (fun c524 => ?_) (fun c524 => ?_)
        · replace E := (if_of E).2 c524
          refine Rn.sub [2, 3, 4, 5, 6] rfl ?_
          exact f_Lw_main_b1569_ok hst hd  hk23 E
        · replace E := (if_of E).1 c524
          refine Rn.aload_n (pc' := 1558) dL_law__1557 rfl 5 rfl rfl ?_
          refine Rn.iconst (pc' := 1559) (v := (0 : Int32)) (hv := by decide) dL_law__1558 rfl ?_
          obtain ⟨g525, E⟩ := gd_of E
          obtain ⟨g526, E⟩ := gd_of E
          refine Rn.lald (pc' := 1560) g525 g526 dL_law__1559 rfl ?_
          refine Rn.iload (pc' := 1562) dL_law__1560 0 rfl rfl ?_
          refine Rn.i2l (pc' := 1563) dL_law__1562 rfl ?_
          refine Rn.lcmp (pc' := 1564) dL_law__1563 rfl ?_
          refine Rn.if_eq (pc' := 1567) (tgt := 1569) dL_law__1564 (by decide) rfl (fun c527 => ?_) (fun c527 => ?_)
          · replace E := (if_of E).1 c527
            refine Rn.sub [2, 3, 4, 5, 6] rfl ?_
            exact f_Lw_main_b1569_ok hst hd  hk23 E
          · replace E := (if_of E).2 c527
            refine Rn.iconst (pc' := 1568) (v := (0 : Int32)) (hv := by decide) dL_law__1567 rfl ?_
            cases E
            exact Rn.zret rfl rfl dL_law__1568
      · replace E := (if_of E).2 c523
        refine Rn.iconst (pc' := 1551) (v := (0 : Int32)) (hv := by decide) dL_law__1550 rfl ?_
        cases E
        exact Rn.zret rfl rfl dL_law__1551
    replace E := (if_of E).2 c507
    by_cases c528 : ((X.2 (ix x4)) &&& (63 : Int32)) = (27 : Int32)
    · replace E := (if_of E).1 c528
      skip
      refine Rn.tabIn (x := ((X.2 (ix x4)) &&& (63 : Int32))) (tgt := 1572) dL_law__40 (by rw [c528]; decide) (by rw [c528]; decide) (by rw [c528]; rfl) (by decide) ?_
      refine Rn.aload_n (pc' := 1573) dL_law__1572 rfl 1 rfl rfl ?_
      refine Rn.aload_n (pc' := 1574) dL_law__1573 rfl 0 rfl rfl ?_
      refine Rn.iload (pc' := 1576) dL_law__1574 4 rfl rfl ?_
      refine Rn.iconst (pc' := 1577) (v := (1 : Int32)) (hv := by decide) dL_law__1576 rfl ?_
      refine Rn.iadd (pc' := 1578) dL_law__1577 rfl ?_
      obtain ⟨g529, E⟩ := gd_of E
      obtain ⟨g530, E⟩ := gd_of E
      refine Rn.sldE (pc' := 1579) g529 g530 dL_law__1578 rfl ?_
      refine Rn.aload_n (pc' := 1580) dL_law__1579 rfl 0 rfl rfl ?_
      refine Rn.iload (pc' := 1582) dL_law__1580 4 rfl rfl ?_
      refine Rn.iconst (pc' := 1583) (v := (2 : Int32)) (hv := by decide) dL_law__1582 rfl ?_
      refine Rn.iadd (pc' := 1584) dL_law__1583 rfl ?_
      obtain ⟨g531, E⟩ := gd_of E
      obtain ⟨g532, E⟩ := gd_of E
      refine Rn.sldE (pc' := 1585) g531 g532 dL_law__1584 rfl ?_
      refine Rn.aload_n (pc' := 1586) dL_law__1585 rfl 3 rfl rfl ?_
      obtain ⟨v533, h534, e535, E⟩ := bI_of E
      refine Rn.callSX1 (pc' := 1589) (As := [.ref x1, .int (X.2 (ix (x4 + (1 : Int32)))), .int (X.2 (ix (x4 + (2 : Int32)))), .ref x3]) (rest := []) (f_Lw_owed_ok hst e535) (Nat.le_trans (by decide) hd) rfl kb_L_204 ks_L_owed rfl rfl (Nat.le_of_ble_eq_true rfl) dL_law__1586 rfl rfl ?_
      refine Rn.istore (pc' := 1591) (L' := [(5, .int v533), (0, .ref x0), (1, .ref x1), (2, .ref x2), (3, .ref x3), (4, .int x4)]) dL_law__1589 (by decide) rfl rfl ?_
      refine Rn.aload_n (pc' := 1592) dL_law__1591 rfl 3 rfl rfl ?_
      refine Rn.aload_n (pc' := 1593) dL_law__1592 rfl 1 rfl rfl ?_
      refine Rn.iload (pc' := 1595) dL_law__1593 5 rfl rfl ?_
      refine Rn.iconst (pc' := 1596) (v := (1 : Int32)) (hv := by decide) dL_law__1595 rfl ?_
      refine Rn.iadd (pc' := 1597) dL_law__1596 rfl ?_
      obtain ⟨g536, E⟩ := gd_of E
      obtain ⟨g537, E⟩ := gd_of E
      refine Rn.sldE (pc' := 1598) g536 g537 dL_law__1597 rfl ?_
      refine Rn.aload_n (pc' := 1599) dL_law__1598 rfl 1 rfl rfl ?_
      refine Rn.iload (pc' := 1601) dL_law__1599 5 rfl rfl ?_
      refine Rn.iconst (pc' := 1602) (v := (2 : Int32)) (hv := by decide) dL_law__1601 rfl ?_
      refine Rn.iadd (pc' := 1603) dL_law__1602 rfl ?_
      obtain ⟨g538, E⟩ := gd_of E
      obtain ⟨g539, E⟩ := gd_of E
      refine Rn.sldE (pc' := 1604) g538 g539 dL_law__1603 rfl ?_
      obtain ⟨g540, E⟩ := gd_of E
      obtain ⟨v541, h542, e543, E⟩ := bI_of E
      refine Rn.callV1 (pc' := 1607) (As := [.int (X.2 (ix (x4 + (1 : Int32)))), .int (X.2 (ix (x4 + (2 : Int32))))]) (rest := []) (f_Model_owed_ok hst e543) (Nat.le_trans (by decide) hd) rfl kb_L_206 ki_X11_owed rfl g540 rfl rfl (Nat.le_of_ble_eq_true rfl) dL_law__1604 rfl rfl ?_
      refine Rn.istore (pc' := 1609) (L' := [(6, .int v541), (5, .int v533), (0, .ref x0), (1, .ref x1), (2, .ref x2), (3, .ref x3), (4, .int x4)]) dL_law__1607 (by decide) rfl rfl ?_
      refine Rn.aload_n (pc' := 1610) dL_law__1609 rfl 4 rfl rfl ?_
      obtain ⟨g544, E⟩ := gd_of E
      obtain ⟨v545, h546, e547, E⟩ := bI_of E
      refine Rn.callV1 (pc' := 1613) (As := []) (rest := []) (f_Model_thrown_ok hst e547) (Nat.le_trans (by decide) hd) rfl kb_L_117 ki_X11_thrown rfl g544 rfl rfl (Nat.le_of_ble_eq_true rfl) dL_law__1610 rfl rfl ?_
      refine Rn.iload (pc' := 1615) dL_law__1613 1 rfl rfl ?_
      refine Rn.icmp_eq (pc' := 1618) (tgt := 1620) dL_law__1615 (by decide) rfl (fun c548 => ?_) (fun c548 => ?_)
      · replace E := (if_of E).1 c548
        refine Rn.iload (pc' := 1622) dL_law__1620 1 rfl rfl ?_
        refine Rn.if_ne (pc' := 1625) (tgt := 1637) dL_law__1622 (by decide) rfl (fun c549 => ?_) (fun c549 => ?_)
        · replace E := (if_of E).2 c549
          refine Rn.sub [2, 3, 4, 5, 6] rfl ?_
          exact f_Lw_main_b1637_ok hst hd  hk23 E
        · replace E := (if_of E).1 c549
          refine Rn.aload_n (pc' := 1626) dL_law__1625 rfl 5 rfl rfl ?_
          refine Rn.iconst (pc' := 1627) (v := (0 : Int32)) (hv := by decide) dL_law__1626 rfl ?_
          obtain ⟨g550, E⟩ := gd_of E
          obtain ⟨g551, E⟩ := gd_of E
          refine Rn.lald (pc' := 1628) g550 g551 dL_law__1627 rfl ?_
          refine Rn.iload (pc' := 1630) dL_law__1628 0 rfl rfl ?_
          refine Rn.i2l (pc' := 1631) dL_law__1630 rfl ?_
          refine Rn.lcmp (pc' := 1632) dL_law__1631 rfl ?_
          refine Rn.if_eq (pc' := 1635) (tgt := 1637) dL_law__1632 (by decide) rfl (fun c552 => ?_) (fun c552 => ?_)
          · replace E := (if_of E).1 c552
            refine Rn.sub [2, 3, 4, 5, 6] rfl ?_
            exact f_Lw_main_b1637_ok hst hd  hk23 E
          · replace E := (if_of E).2 c552
            refine Rn.iconst (pc' := 1636) (v := (0 : Int32)) (hv := by decide) dL_law__1635 rfl ?_
            cases E
            exact Rn.zret rfl rfl dL_law__1636
      · replace E := (if_of E).2 c548
        refine Rn.iconst (pc' := 1619) (v := (0 : Int32)) (hv := by decide) dL_law__1618 rfl ?_
        cases E
        exact Rn.zret rfl rfl dL_law__1619
    replace E := (if_of E).2 c528
    by_cases c553 : ((X.2 (ix x4)) &&& (63 : Int32)) = (28 : Int32)
    · replace E := (if_of E).1 c553
      skip
      refine Rn.tabIn (x := ((X.2 (ix x4)) &&& (63 : Int32))) (tgt := 1640) dL_law__40 (by rw [c553]; decide) (by rw [c553]; decide) (by rw [c553]; rfl) (by decide) ?_
      refine Rn.aload_n (pc' := 1641) dL_law__1640 rfl 1 rfl rfl ?_
      refine Rn.aload_n (pc' := 1642) dL_law__1641 rfl 0 rfl rfl ?_
      refine Rn.iload (pc' := 1644) dL_law__1642 4 rfl rfl ?_
      refine Rn.iconst (pc' := 1645) (v := (1 : Int32)) (hv := by decide) dL_law__1644 rfl ?_
      refine Rn.iadd (pc' := 1646) dL_law__1645 rfl ?_
      obtain ⟨g554, E⟩ := gd_of E
      obtain ⟨g555, E⟩ := gd_of E
      refine Rn.sldE (pc' := 1647) g554 g555 dL_law__1646 rfl ?_
      refine Rn.aload_n (pc' := 1648) dL_law__1647 rfl 0 rfl rfl ?_
      refine Rn.iload (pc' := 1650) dL_law__1648 4 rfl rfl ?_
      refine Rn.iconst (pc' := 1651) (v := (2 : Int32)) (hv := by decide) dL_law__1650 rfl ?_
      refine Rn.iadd (pc' := 1652) dL_law__1651 rfl ?_
      obtain ⟨g556, E⟩ := gd_of E
      obtain ⟨g557, E⟩ := gd_of E
      refine Rn.sldE (pc' := 1653) g556 g557 dL_law__1652 rfl ?_
      refine Rn.aload_n (pc' := 1654) dL_law__1653 rfl 0 rfl rfl ?_
      refine Rn.iload (pc' := 1656) dL_law__1654 4 rfl rfl ?_
      refine Rn.iconst (pc' := 1657) (v := (3 : Int32)) (hv := by decide) dL_law__1656 rfl ?_
      refine Rn.iadd (pc' := 1658) dL_law__1657 rfl ?_
      obtain ⟨g558, E⟩ := gd_of E
      obtain ⟨g559, E⟩ := gd_of E
      refine Rn.sldE (pc' := 1659) g558 g559 dL_law__1658 rfl ?_
      refine Rn.aload_n (pc' := 1660) dL_law__1659 rfl 3 rfl rfl ?_
      obtain ⟨v560, h561, e562, E⟩ := bI_of E
      refine Rn.callSX1 (pc' := 1663) (As := [.ref x1, .int (X.2 (ix (x4 + (1 : Int32)))), .int (X.2 (ix (x4 + (2 : Int32)))), .int (X.2 (ix (x4 + (3 : Int32)))), .ref x3]) (rest := []) (f_Lw_owe_ok hst e562) (Nat.le_trans (by decide) hd) rfl kb_L_207 ks_L_owe rfl rfl (Nat.le_of_ble_eq_true rfl) dL_law__1660 rfl rfl ?_
      refine Rn.istore (pc' := 1665) (L' := [(5, .int v560), (0, .ref x0), (1, .ref x1), (2, .ref x2), (3, .ref x3), (4, .int x4)]) dL_law__1663 (by decide) rfl rfl ?_
      refine Rn.aload_n (pc' := 1666) dL_law__1665 rfl 3 rfl rfl ?_
      refine Rn.aload_n (pc' := 1667) dL_law__1666 rfl 1 rfl rfl ?_
      refine Rn.iload (pc' := 1669) dL_law__1667 5 rfl rfl ?_
      refine Rn.iconst (pc' := 1670) (v := (1 : Int32)) (hv := by decide) dL_law__1669 rfl ?_
      refine Rn.iadd (pc' := 1671) dL_law__1670 rfl ?_
      obtain ⟨g563, E⟩ := gd_of E
      obtain ⟨g564, E⟩ := gd_of E
      refine Rn.sldE (pc' := 1672) g563 g564 dL_law__1671 rfl ?_
      refine Rn.aload_n (pc' := 1673) dL_law__1672 rfl 1 rfl rfl ?_
      refine Rn.iload (pc' := 1675) dL_law__1673 5 rfl rfl ?_
      refine Rn.iconst (pc' := 1676) (v := (2 : Int32)) (hv := by decide) dL_law__1675 rfl ?_
      refine Rn.iadd (pc' := 1677) dL_law__1676 rfl ?_
      obtain ⟨g565, E⟩ := gd_of E
      obtain ⟨g566, E⟩ := gd_of E
      refine Rn.sldE (pc' := 1678) g565 g566 dL_law__1677 rfl ?_
      refine Rn.aload_n (pc' := 1679) dL_law__1678 rfl 1 rfl rfl ?_
      refine Rn.iload (pc' := 1681) dL_law__1679 5 rfl rfl ?_
      refine Rn.iconst (pc' := 1682) (v := (3 : Int32)) (hv := by decide) dL_law__1681 rfl ?_
      refine Rn.iadd (pc' := 1683) dL_law__1682 rfl ?_
      obtain ⟨g567, E⟩ := gd_of E
      obtain ⟨g568, E⟩ := gd_of E
      refine Rn.sldE (pc' := 1684) g567 g568 dL_law__1683 rfl ?_
      obtain ⟨g569, E⟩ := gd_of E
      obtain ⟨v570, h571, e572, E⟩ := bI_of E
      refine Rn.callV1 (pc' := 1687) (As := [.int (X.2 (ix (x4 + (1 : Int32)))), .int (X.2 (ix (x4 + (2 : Int32)))), .int (X.2 (ix (x4 + (3 : Int32))))]) (rest := []) (f_Model_owe_ok hst e572) (Nat.le_trans (by decide) hd) rfl kb_L_209 ki_X11_owe rfl g569 rfl rfl (Nat.le_of_ble_eq_true rfl) dL_law__1684 rfl rfl ?_
      refine Rn.istore (pc' := 1689) (L' := [(6, .int v570), (5, .int v560), (0, .ref x0), (1, .ref x1), (2, .ref x2), (3, .ref x3), (4, .int x4)]) dL_law__1687 (by decide) rfl rfl ?_
      refine Rn.aload_n (pc' := 1690) dL_law__1689 rfl 4 rfl rfl ?_
      obtain ⟨g573, E⟩ := gd_of E
      obtain ⟨v574, h575, e576, E⟩ := bI_of E
      refine Rn.callV1 (pc' := 1693) (As := []) (rest := []) (f_Model_thrown_ok hst e576) (Nat.le_trans (by decide) hd) rfl kb_L_117 ki_X11_thrown rfl g573 rfl rfl (Nat.le_of_ble_eq_true rfl) dL_law__1690 rfl rfl ?_
      refine Rn.iload (pc' := 1695) dL_law__1693 1 rfl rfl ?_
      refine Rn.icmp_eq (pc' := 1698) (tgt := 1700) dL_law__1695 (by decide) rfl (fun c577 => ?_) (fun c577 => ?_)
      · replace E := (if_of E).1 c577
        refine Rn.iload (pc' := 1702) dL_law__1700 1 rfl rfl ?_
        refine Rn.if_ne (pc' := 1705) (tgt := 1717) dL_law__1702 (by decide) rfl (fun c578 => ?_) (fun c578 => ?_)
        · replace E := (if_of E).2 c578
          refine Rn.sub [2, 3, 4, 5, 6] rfl ?_
          exact f_Lw_main_b1717_ok hst hd  hk23 E
        · replace E := (if_of E).1 c578
          refine Rn.aload_n (pc' := 1706) dL_law__1705 rfl 5 rfl rfl ?_
          refine Rn.iconst (pc' := 1707) (v := (0 : Int32)) (hv := by decide) dL_law__1706 rfl ?_
          obtain ⟨g579, E⟩ := gd_of E
          obtain ⟨g580, E⟩ := gd_of E
          refine Rn.lald (pc' := 1708) g579 g580 dL_law__1707 rfl ?_
          refine Rn.iload (pc' := 1710) dL_law__1708 0 rfl rfl ?_
          refine Rn.i2l (pc' := 1711) dL_law__1710 rfl ?_
          refine Rn.lcmp (pc' := 1712) dL_law__1711 rfl ?_
          refine Rn.if_eq (pc' := 1715) (tgt := 1717) dL_law__1712 (by decide) rfl (fun c581 => ?_) (fun c581 => ?_)
          · replace E := (if_of E).1 c581
            refine Rn.sub [2, 3, 4, 5, 6] rfl ?_
            exact f_Lw_main_b1717_ok hst hd  hk23 E
          · replace E := (if_of E).2 c581
            refine Rn.iconst (pc' := 1716) (v := (0 : Int32)) (hv := by decide) dL_law__1715 rfl ?_
            cases E
            exact Rn.zret rfl rfl dL_law__1716
      · replace E := (if_of E).2 c577
        refine Rn.iconst (pc' := 1699) (v := (0 : Int32)) (hv := by decide) dL_law__1698 rfl ?_
        cases E
        exact Rn.zret rfl rfl dL_law__1699
    replace E := (if_of E).2 c553
    by_cases c582 : ((X.2 (ix x4)) &&& (63 : Int32)) = (29 : Int32)
    · replace E := (if_of E).1 c582
      skip
      refine Rn.tabIn (x := ((X.2 (ix x4)) &&& (63 : Int32))) (tgt := 1720) dL_law__40 (by rw [c582]; decide) (by rw [c582]; decide) (by rw [c582]; rfl) (by decide) ?_
      refine Rn.aload_n (pc' := 1721) dL_law__1720 rfl 1 rfl rfl ?_
      refine Rn.aload_n (pc' := 1722) dL_law__1721 rfl 0 rfl rfl ?_
      refine Rn.iload (pc' := 1724) dL_law__1722 4 rfl rfl ?_
      refine Rn.iconst (pc' := 1725) (v := (1 : Int32)) (hv := by decide) dL_law__1724 rfl ?_
      refine Rn.iadd (pc' := 1726) dL_law__1725 rfl ?_
      obtain ⟨g583, E⟩ := gd_of E
      obtain ⟨g584, E⟩ := gd_of E
      refine Rn.sldE (pc' := 1727) g583 g584 dL_law__1726 rfl ?_
      refine Rn.aload_n (pc' := 1728) dL_law__1727 rfl 3 rfl rfl ?_
      obtain ⟨v585, h586, e587, E⟩ := bI_of E
      refine Rn.callSX1 (pc' := 1731) (As := [.ref x1, .int (X.2 (ix (x4 + (1 : Int32)))), .ref x3]) (rest := []) (f_Lw_debt_ok hst e587) (Nat.le_trans (by decide) hd) rfl kb_L_210 ks_L_debt rfl rfl (Nat.le_of_ble_eq_true rfl) dL_law__1728 rfl rfl ?_
      refine Rn.istore (pc' := 1733) (L' := [(5, .int v585), (0, .ref x0), (1, .ref x1), (2, .ref x2), (3, .ref x3), (4, .int x4)]) dL_law__1731 (by decide) rfl rfl ?_
      refine Rn.aload_n (pc' := 1734) dL_law__1733 rfl 3 rfl rfl ?_
      refine Rn.aload_n (pc' := 1735) dL_law__1734 rfl 1 rfl rfl ?_
      refine Rn.iload (pc' := 1737) dL_law__1735 5 rfl rfl ?_
      refine Rn.iconst (pc' := 1738) (v := (1 : Int32)) (hv := by decide) dL_law__1737 rfl ?_
      refine Rn.iadd (pc' := 1739) dL_law__1738 rfl ?_
      obtain ⟨g588, E⟩ := gd_of E
      obtain ⟨g589, E⟩ := gd_of E
      refine Rn.sldE (pc' := 1740) g588 g589 dL_law__1739 rfl ?_
      obtain ⟨g590, E⟩ := gd_of E
      obtain ⟨v591, h592, e593, E⟩ := bI_of E
      refine Rn.callV1 (pc' := 1743) (As := [.int (X.2 (ix (x4 + (1 : Int32))))]) (rest := []) (f_Model_debt_ok hst e593) (Nat.le_trans (by decide) hd) rfl kb_L_212 ki_X11_debt rfl g590 rfl rfl (Nat.le_of_ble_eq_true rfl) dL_law__1740 rfl rfl ?_
      refine Rn.istore (pc' := 1745) (L' := [(6, .int v591), (5, .int v585), (0, .ref x0), (1, .ref x1), (2, .ref x2), (3, .ref x3), (4, .int x4)]) dL_law__1743 (by decide) rfl rfl ?_
      refine Rn.aload_n (pc' := 1746) dL_law__1745 rfl 4 rfl rfl ?_
      obtain ⟨g594, E⟩ := gd_of E
      obtain ⟨v595, h596, e597, E⟩ := bI_of E
      refine Rn.callV1 (pc' := 1749) (As := []) (rest := []) (f_Model_thrown_ok hst e597) (Nat.le_trans (by decide) hd) rfl kb_L_117 ki_X11_thrown rfl g594 rfl rfl (Nat.le_of_ble_eq_true rfl) dL_law__1746 rfl rfl ?_
      refine Rn.iload (pc' := 1751) dL_law__1749 1 rfl rfl ?_
      refine Rn.icmp_eq (pc' := 1754) (tgt := 1756) dL_law__1751 (by decide) rfl (fun c598 => ?_) (fun c598 => ?_)
      · replace E := (if_of E).1 c598
        refine Rn.iload (pc' := 1758) dL_law__1756 1 rfl rfl ?_
        refine Rn.if_ne (pc' := 1761) (tgt := 1773) dL_law__1758 (by decide) rfl (fun c599 => ?_) (fun c599 => ?_)
        · replace E := (if_of E).2 c599
          refine Rn.sub [2, 3, 4, 5, 6] rfl ?_
          exact f_Lw_main_b1773_ok hst hd  hk23 E
        · replace E := (if_of E).1 c599
          refine Rn.aload_n (pc' := 1762) dL_law__1761 rfl 5 rfl rfl ?_
          refine Rn.iconst (pc' := 1763) (v := (0 : Int32)) (hv := by decide) dL_law__1762 rfl ?_
          obtain ⟨g600, E⟩ := gd_of E
          obtain ⟨g601, E⟩ := gd_of E
          refine Rn.lald (pc' := 1764) g600 g601 dL_law__1763 rfl ?_
          refine Rn.iload (pc' := 1766) dL_law__1764 0 rfl rfl ?_
          refine Rn.i2l (pc' := 1767) dL_law__1766 rfl ?_
          refine Rn.lcmp (pc' := 1768) dL_law__1767 rfl ?_
          refine Rn.if_eq (pc' := 1771) (tgt := 1773) dL_law__1768 (by decide) rfl (fun c602 => ?_) (fun c602 => ?_)
          · replace E := (if_of E).1 c602
            refine Rn.sub [2, 3, 4, 5, 6] rfl ?_
            exact f_Lw_main_b1773_ok hst hd  hk23 E
          · replace E := (if_of E).2 c602
            refine Rn.iconst (pc' := 1772) (v := (0 : Int32)) (hv := by decide) dL_law__1771 rfl ?_
            cases E
            exact Rn.zret rfl rfl dL_law__1772
      · replace E := (if_of E).2 c598
        refine Rn.iconst (pc' := 1755) (v := (0 : Int32)) (hv := by decide) dL_law__1754 rfl ?_
        cases E
        exact Rn.zret rfl rfl dL_law__1755
    replace E := (if_of E).2 c582
    by_cases c603 : ((X.2 (ix x4)) &&& (63 : Int32)) = (30 : Int32)
    · replace E := (if_of E).1 c603
      skip
      refine Rn.tabIn (x := ((X.2 (ix x4)) &&& (63 : Int32))) (tgt := 1776) dL_law__40 (by rw [c603]; decide) (by rw [c603]; decide) (by rw [c603]; rfl) (by decide) ?_
      refine Rn.aload_n (pc' := 1777) dL_law__1776 rfl 1 rfl rfl ?_
      refine Rn.aload_n (pc' := 1778) dL_law__1777 rfl 0 rfl rfl ?_
      refine Rn.iload (pc' := 1780) dL_law__1778 4 rfl rfl ?_
      refine Rn.iconst (pc' := 1781) (v := (1 : Int32)) (hv := by decide) dL_law__1780 rfl ?_
      refine Rn.iadd (pc' := 1782) dL_law__1781 rfl ?_
      obtain ⟨g604, E⟩ := gd_of E
      obtain ⟨g605, E⟩ := gd_of E
      refine Rn.sldE (pc' := 1783) g604 g605 dL_law__1782 rfl ?_
      refine Rn.aload_n (pc' := 1784) dL_law__1783 rfl 3 rfl rfl ?_
      obtain ⟨v606, h607, e608, E⟩ := bI_of E
      refine Rn.callSX1 (pc' := 1787) (As := [.ref x1, .int (X.2 (ix (x4 + (1 : Int32)))), .ref x3]) (rest := []) (f_Lw_settle_ok hst e608) (Nat.le_trans (by decide) hd) rfl kb_L_213 ks_L_settle rfl rfl (Nat.le_of_ble_eq_true rfl) dL_law__1784 rfl rfl ?_
      refine Rn.istore (pc' := 1789) (L' := [(5, .int v606), (0, .ref x0), (1, .ref x1), (2, .ref x2), (3, .ref x3), (4, .int x4)]) dL_law__1787 (by decide) rfl rfl ?_
      refine Rn.aload_n (pc' := 1790) dL_law__1789 rfl 3 rfl rfl ?_
      refine Rn.aload_n (pc' := 1791) dL_law__1790 rfl 1 rfl rfl ?_
      refine Rn.iload (pc' := 1793) dL_law__1791 5 rfl rfl ?_
      refine Rn.iconst (pc' := 1794) (v := (1 : Int32)) (hv := by decide) dL_law__1793 rfl ?_
      refine Rn.iadd (pc' := 1795) dL_law__1794 rfl ?_
      obtain ⟨g609, E⟩ := gd_of E
      obtain ⟨g610, E⟩ := gd_of E
      refine Rn.sldE (pc' := 1796) g609 g610 dL_law__1795 rfl ?_
      obtain ⟨g611, E⟩ := gd_of E
      obtain ⟨v612, h613, e614, E⟩ := bI_of E
      refine Rn.callV1 (pc' := 1799) (As := [.int (X.2 (ix (x4 + (1 : Int32))))]) (rest := []) (f_Model_settle_ok hst e614) (Nat.le_trans (by decide) hd) rfl kb_L_215 ki_X11_settle rfl g611 rfl rfl (Nat.le_of_ble_eq_true rfl) dL_law__1796 rfl rfl ?_
      refine Rn.istore (pc' := 1801) (L' := [(6, .int v612), (5, .int v606), (0, .ref x0), (1, .ref x1), (2, .ref x2), (3, .ref x3), (4, .int x4)]) dL_law__1799 (by decide) rfl rfl ?_
      refine Rn.aload_n (pc' := 1802) dL_law__1801 rfl 4 rfl rfl ?_
      obtain ⟨g615, E⟩ := gd_of E
      obtain ⟨v616, h617, e618, E⟩ := bI_of E
      refine Rn.callV1 (pc' := 1805) (As := []) (rest := []) (f_Model_thrown_ok hst e618) (Nat.le_trans (by decide) hd) rfl kb_L_117 ki_X11_thrown rfl g615 rfl rfl (Nat.le_of_ble_eq_true rfl) dL_law__1802 rfl rfl ?_
      refine Rn.iload (pc' := 1807) dL_law__1805 1 rfl rfl ?_
      refine Rn.icmp_eq (pc' := 1810) (tgt := 1812) dL_law__1807 (by decide) rfl (fun c619 => ?_) (fun c619 => ?_)
      · replace E := (if_of E).1 c619
        refine Rn.iload (pc' := 1814) dL_law__1812 1 rfl rfl ?_
        refine Rn.if_ne (pc' := 1817) (tgt := 1829) dL_law__1814 (by decide) rfl (fun c620 => ?_) (fun c620 => ?_)
        · replace E := (if_of E).2 c620
          refine Rn.sub [2, 3, 4, 5, 6] rfl ?_
          exact f_Lw_main_b1829_ok hst hd  hk23 E
        · replace E := (if_of E).1 c620
          refine Rn.aload_n (pc' := 1818) dL_law__1817 rfl 5 rfl rfl ?_
          refine Rn.iconst (pc' := 1819) (v := (0 : Int32)) (hv := by decide) dL_law__1818 rfl ?_
          obtain ⟨g621, E⟩ := gd_of E
          obtain ⟨g622, E⟩ := gd_of E
          refine Rn.lald (pc' := 1820) g621 g622 dL_law__1819 rfl ?_
          refine Rn.iload (pc' := 1822) dL_law__1820 0 rfl rfl ?_
          refine Rn.i2l (pc' := 1823) dL_law__1822 rfl ?_
          refine Rn.lcmp (pc' := 1824) dL_law__1823 rfl ?_
          refine Rn.if_eq (pc' := 1827) (tgt := 1829) dL_law__1824 (by decide) rfl (fun c623 => ?_) (fun c623 => ?_)
          · replace E := (if_of E).1 c623
            refine Rn.sub [2, 3, 4, 5, 6] rfl ?_
            exact f_Lw_main_b1829_ok hst hd  hk23 E
          · replace E := (if_of E).2 c623
            refine Rn.iconst (pc' := 1828) (v := (0 : Int32)) (hv := by decide) dL_law__1827 rfl ?_
            cases E
            exact Rn.zret rfl rfl dL_law__1828
      · replace E := (if_of E).2 c619
        refine Rn.iconst (pc' := 1811) (v := (0 : Int32)) (hv := by decide) dL_law__1810 rfl ?_
        cases E
        exact Rn.zret rfl rfl dL_law__1811
    replace E := (if_of E).2 c603
    by_cases c624 : ((X.2 (ix x4)) &&& (63 : Int32)) = (31 : Int32)
    · replace E := (if_of E).1 c624
      skip
      refine Rn.tabIn (x := ((X.2 (ix x4)) &&& (63 : Int32))) (tgt := 1832) dL_law__40 (by rw [c624]; decide) (by rw [c624]; decide) (by rw [c624]; rfl) (by decide) ?_
      refine Rn.aload_n (pc' := 1833) dL_law__1832 rfl 1 rfl rfl ?_
      refine Rn.aload_n (pc' := 1834) dL_law__1833 rfl 0 rfl rfl ?_
      refine Rn.iload (pc' := 1836) dL_law__1834 4 rfl rfl ?_
      refine Rn.iconst (pc' := 1837) (v := (1 : Int32)) (hv := by decide) dL_law__1836 rfl ?_
      refine Rn.iadd (pc' := 1838) dL_law__1837 rfl ?_
      obtain ⟨g625, E⟩ := gd_of E
      obtain ⟨g626, E⟩ := gd_of E
      refine Rn.sldE (pc' := 1839) g625 g626 dL_law__1838 rfl ?_
      refine Rn.aload_n (pc' := 1840) dL_law__1839 rfl 0 rfl rfl ?_
      refine Rn.iload (pc' := 1842) dL_law__1840 4 rfl rfl ?_
      refine Rn.iconst (pc' := 1843) (v := (2 : Int32)) (hv := by decide) dL_law__1842 rfl ?_
      refine Rn.iadd (pc' := 1844) dL_law__1843 rfl ?_
      obtain ⟨g627, E⟩ := gd_of E
      obtain ⟨g628, E⟩ := gd_of E
      refine Rn.sldE (pc' := 1845) g627 g628 dL_law__1844 rfl ?_
      refine Rn.aload_n (pc' := 1846) dL_law__1845 rfl 0 rfl rfl ?_
      refine Rn.iload (pc' := 1848) dL_law__1846 4 rfl rfl ?_
      refine Rn.iconst (pc' := 1849) (v := (3 : Int32)) (hv := by decide) dL_law__1848 rfl ?_
      refine Rn.iadd (pc' := 1850) dL_law__1849 rfl ?_
      obtain ⟨g629, E⟩ := gd_of E
      obtain ⟨g630, E⟩ := gd_of E
      refine Rn.sldE (pc' := 1851) g629 g630 dL_law__1850 rfl ?_
      refine Rn.aload_n (pc' := 1852) dL_law__1851 rfl 3 rfl rfl ?_
      obtain ⟨v631, h632, e633, E⟩ := bI_of E
      refine Rn.callSX1 (pc' := 1855) (As := [.ref x1, .int (X.2 (ix (x4 + (1 : Int32)))), .int (X.2 (ix (x4 + (2 : Int32)))), .int (X.2 (ix (x4 + (3 : Int32)))), .ref x3]) (rest := []) (f_Lw_mix_ok hst e633) (Nat.le_trans (by decide) hd) rfl kb_L_216 ks_L_mix rfl rfl (Nat.le_of_ble_eq_true rfl) dL_law__1852 rfl rfl ?_
      refine Rn.istore (pc' := 1857) (L' := [(5, .int v631), (0, .ref x0), (1, .ref x1), (2, .ref x2), (3, .ref x3), (4, .int x4)]) dL_law__1855 (by decide) rfl rfl ?_
      refine Rn.aload_n (pc' := 1858) dL_law__1857 rfl 3 rfl rfl ?_
      refine Rn.aload_n (pc' := 1859) dL_law__1858 rfl 1 rfl rfl ?_
      refine Rn.iload (pc' := 1861) dL_law__1859 5 rfl rfl ?_
      refine Rn.iconst (pc' := 1862) (v := (1 : Int32)) (hv := by decide) dL_law__1861 rfl ?_
      refine Rn.iadd (pc' := 1863) dL_law__1862 rfl ?_
      obtain ⟨g634, E⟩ := gd_of E
      obtain ⟨g635, E⟩ := gd_of E
      refine Rn.sldE (pc' := 1864) g634 g635 dL_law__1863 rfl ?_
      refine Rn.aload_n (pc' := 1865) dL_law__1864 rfl 1 rfl rfl ?_
      refine Rn.iload (pc' := 1867) dL_law__1865 5 rfl rfl ?_
      refine Rn.iconst (pc' := 1868) (v := (2 : Int32)) (hv := by decide) dL_law__1867 rfl ?_
      refine Rn.iadd (pc' := 1869) dL_law__1868 rfl ?_
      obtain ⟨g636, E⟩ := gd_of E
      obtain ⟨g637, E⟩ := gd_of E
      refine Rn.sldE (pc' := 1870) g636 g637 dL_law__1869 rfl ?_
      refine Rn.aload_n (pc' := 1871) dL_law__1870 rfl 1 rfl rfl ?_
      refine Rn.iload (pc' := 1873) dL_law__1871 5 rfl rfl ?_
      refine Rn.iconst (pc' := 1874) (v := (3 : Int32)) (hv := by decide) dL_law__1873 rfl ?_
      refine Rn.iadd (pc' := 1875) dL_law__1874 rfl ?_
      obtain ⟨g638, E⟩ := gd_of E
      obtain ⟨g639, E⟩ := gd_of E
      refine Rn.sldE (pc' := 1876) g638 g639 dL_law__1875 rfl ?_
      obtain ⟨g640, E⟩ := gd_of E
      obtain ⟨v641, h642, e643, E⟩ := bI_of E
      refine Rn.callV1 (pc' := 1879) (As := [.int (X.2 (ix (x4 + (1 : Int32)))), .int (X.2 (ix (x4 + (2 : Int32)))), .int (X.2 (ix (x4 + (3 : Int32))))]) (rest := []) (f_Model_mix_ok hst e643) (Nat.le_trans (by decide) hd) rfl kb_L_218 ki_X11_mix rfl g640 rfl rfl (Nat.le_of_ble_eq_true rfl) dL_law__1876 rfl rfl ?_
      refine Rn.istore (pc' := 1881) (L' := [(6, .int v641), (5, .int v631), (0, .ref x0), (1, .ref x1), (2, .ref x2), (3, .ref x3), (4, .int x4)]) dL_law__1879 (by decide) rfl rfl ?_
      refine Rn.aload_n (pc' := 1882) dL_law__1881 rfl 4 rfl rfl ?_
      obtain ⟨g644, E⟩ := gd_of E
      obtain ⟨v645, h646, e647, E⟩ := bI_of E
      refine Rn.callV1 (pc' := 1885) (As := []) (rest := []) (f_Model_thrown_ok hst e647) (Nat.le_trans (by decide) hd) rfl kb_L_117 ki_X11_thrown rfl g644 rfl rfl (Nat.le_of_ble_eq_true rfl) dL_law__1882 rfl rfl ?_
      refine Rn.iload (pc' := 1887) dL_law__1885 1 rfl rfl ?_
      refine Rn.icmp_eq (pc' := 1890) (tgt := 1892) dL_law__1887 (by decide) rfl (fun c648 => ?_) (fun c648 => ?_)
      · replace E := (if_of E).1 c648
        refine Rn.iload (pc' := 1894) dL_law__1892 1 rfl rfl ?_
        refine Rn.if_ne (pc' := 1897) (tgt := 1909) dL_law__1894 (by decide) rfl (fun c649 => ?_) (fun c649 => ?_)
        · replace E := (if_of E).2 c649
          refine Rn.sub [2, 3, 4, 5, 6] rfl ?_
          exact f_Lw_main_b1909_ok hst hd  hk23 E
        · replace E := (if_of E).1 c649
          refine Rn.aload_n (pc' := 1898) dL_law__1897 rfl 5 rfl rfl ?_
          refine Rn.iconst (pc' := 1899) (v := (0 : Int32)) (hv := by decide) dL_law__1898 rfl ?_
          obtain ⟨g650, E⟩ := gd_of E
          obtain ⟨g651, E⟩ := gd_of E
          refine Rn.lald (pc' := 1900) g650 g651 dL_law__1899 rfl ?_
          refine Rn.iload (pc' := 1902) dL_law__1900 0 rfl rfl ?_
          refine Rn.i2l (pc' := 1903) dL_law__1902 rfl ?_
          refine Rn.lcmp (pc' := 1904) dL_law__1903 rfl ?_
          refine Rn.if_eq (pc' := 1907) (tgt := 1909) dL_law__1904 (by decide) rfl (fun c652 => ?_) (fun c652 => ?_)
          · replace E := (if_of E).1 c652
            refine Rn.sub [2, 3, 4, 5, 6] rfl ?_
            exact f_Lw_main_b1909_ok hst hd  hk23 E
          · replace E := (if_of E).2 c652
            refine Rn.iconst (pc' := 1908) (v := (0 : Int32)) (hv := by decide) dL_law__1907 rfl ?_
            cases E
            exact Rn.zret rfl rfl dL_law__1908
      · replace E := (if_of E).2 c648
        refine Rn.iconst (pc' := 1891) (v := (0 : Int32)) (hv := by decide) dL_law__1890 rfl ?_
        cases E
        exact Rn.zret rfl rfl dL_law__1891
    replace E := (if_of E).2 c624
    by_cases c653 : ((X.2 (ix x4)) &&& (63 : Int32)) = (32 : Int32)
    · replace E := (if_of E).1 c653
      skip
      refine Rn.tabIn (x := ((X.2 (ix x4)) &&& (63 : Int32))) (tgt := 1912) dL_law__40 (by rw [c653]; decide) (by rw [c653]; decide) (by rw [c653]; rfl) (by decide) ?_
      refine Rn.aload_n (pc' := 1913) dL_law__1912 rfl 1 rfl rfl ?_
      refine Rn.aload_n (pc' := 1914) dL_law__1913 rfl 0 rfl rfl ?_
      refine Rn.iload (pc' := 1916) dL_law__1914 4 rfl rfl ?_
      refine Rn.iconst (pc' := 1917) (v := (1 : Int32)) (hv := by decide) dL_law__1916 rfl ?_
      refine Rn.iadd (pc' := 1918) dL_law__1917 rfl ?_
      obtain ⟨g654, E⟩ := gd_of E
      obtain ⟨g655, E⟩ := gd_of E
      refine Rn.sldE (pc' := 1919) g654 g655 dL_law__1918 rfl ?_
      refine Rn.if_eq (pc' := 1922) (tgt := 1926) dL_law__1919 (by decide) rfl (fun c656 => ?_) (fun c656 => ?_)
      · replace E := (if_of E).1 c656
        refine Rn.iconst (pc' := 1927) (v := (0 : Int32)) (hv := by decide) dL_law__1926 rfl ?_
        exact f_Lw_main_b1927_ok hst hd  hk23 E
      · replace E := (if_of E).2 c656
        refine Rn.iconst (pc' := 1923) (v := (1 : Int32)) (hv := by decide) dL_law__1922 rfl ?_
        refine Rn.goto (pc' := 1927) dL_law__1923 (by decide) ?_
        exact f_Lw_main_b1927_ok hst hd  hk23 E
    replace E := (if_of E).2 c653
    by_cases c657 : ((X.2 (ix x4)) &&& (63 : Int32)) = (33 : Int32)
    · replace E := (if_of E).1 c657
      skip
      refine Rn.tabIn (x := ((X.2 (ix x4)) &&& (63 : Int32))) (tgt := 1953) dL_law__40 (by rw [c657]; decide) (by rw [c657]; decide) (by rw [c657]; rfl) (by decide) ?_
      refine Rn.aload_n (pc' := 1954) dL_law__1953 rfl 1 rfl rfl ?_
      refine Rn.aload_n (pc' := 1955) dL_law__1954 rfl 0 rfl rfl ?_
      refine Rn.iload (pc' := 1957) dL_law__1955 4 rfl rfl ?_
      refine Rn.iconst (pc' := 1958) (v := (1 : Int32)) (hv := by decide) dL_law__1957 rfl ?_
      refine Rn.iadd (pc' := 1959) dL_law__1958 rfl ?_
      obtain ⟨g658, E⟩ := gd_of E
      obtain ⟨g659, E⟩ := gd_of E
      refine Rn.sldE (pc' := 1960) g658 g659 dL_law__1959 rfl ?_
      refine Rn.aload_n (pc' := 1961) dL_law__1960 rfl 0 rfl rfl ?_
      refine Rn.iload (pc' := 1963) dL_law__1961 4 rfl rfl ?_
      refine Rn.iconst (pc' := 1964) (v := (2 : Int32)) (hv := by decide) dL_law__1963 rfl ?_
      refine Rn.iadd (pc' := 1965) dL_law__1964 rfl ?_
      obtain ⟨g660, E⟩ := gd_of E
      obtain ⟨g661, E⟩ := gd_of E
      refine Rn.sldE (pc' := 1966) g660 g661 dL_law__1965 rfl ?_
      refine Rn.aload_n (pc' := 1967) dL_law__1966 rfl 3 rfl rfl ?_
      obtain ⟨v662, h663, e664, E⟩ := bI_of E
      refine Rn.callSX1 (pc' := 1970) (As := [.ref x1, .int (X.2 (ix (x4 + (1 : Int32)))), .int (X.2 (ix (x4 + (2 : Int32)))), .ref x3]) (rest := []) (f_Lw_enough_ok hst e664) (Nat.le_trans (by decide) hd) rfl kb_L_224 ks_L_enough rfl rfl (Nat.le_of_ble_eq_true rfl) dL_law__1967 rfl rfl ?_
      refine Rn.istore (pc' := 1972) (L' := [(5, .int v662), (0, .ref x0), (1, .ref x1), (2, .ref x2), (3, .ref x3), (4, .int x4)]) dL_law__1970 (by decide) rfl rfl ?_
      refine Rn.aload_n (pc' := 1973) dL_law__1972 rfl 3 rfl rfl ?_
      refine Rn.aload_n (pc' := 1974) dL_law__1973 rfl 1 rfl rfl ?_
      refine Rn.iload (pc' := 1976) dL_law__1974 5 rfl rfl ?_
      refine Rn.iconst (pc' := 1977) (v := (1 : Int32)) (hv := by decide) dL_law__1976 rfl ?_
      refine Rn.iadd (pc' := 1978) dL_law__1977 rfl ?_
      obtain ⟨g665, E⟩ := gd_of E
      obtain ⟨g666, E⟩ := gd_of E
      refine Rn.sldE (pc' := 1979) g665 g666 dL_law__1978 rfl ?_
      refine Rn.aload_n (pc' := 1980) dL_law__1979 rfl 1 rfl rfl ?_
      refine Rn.iload (pc' := 1982) dL_law__1980 5 rfl rfl ?_
      refine Rn.iconst (pc' := 1983) (v := (2 : Int32)) (hv := by decide) dL_law__1982 rfl ?_
      refine Rn.iadd (pc' := 1984) dL_law__1983 rfl ?_
      obtain ⟨g667, E⟩ := gd_of E
      obtain ⟨g668, E⟩ := gd_of E
      refine Rn.sldE (pc' := 1985) g667 g668 dL_law__1984 rfl ?_
      obtain ⟨g669, E⟩ := gd_of E
      obtain ⟨v670, h671, e672, E⟩ := bI_of E
      refine Rn.callV1 (pc' := 1988) (As := [.int (X.2 (ix (x4 + (1 : Int32)))), .int (X.2 (ix (x4 + (2 : Int32))))]) (rest := []) (f_Model_enough_ok hst e672) (Nat.le_trans (by decide) hd) rfl kb_L_226 ki_X11_enough rfl g669 rfl rfl (Nat.le_of_ble_eq_true rfl) dL_law__1985 rfl rfl ?_
      refine Rn.istore (pc' := 1990) (L' := [(6, .int v670), (5, .int v662), (0, .ref x0), (1, .ref x1), (2, .ref x2), (3, .ref x3), (4, .int x4)]) dL_law__1988 (by decide) rfl rfl ?_
      refine Rn.aload_n (pc' := 1991) dL_law__1990 rfl 4 rfl rfl ?_
      obtain ⟨g673, E⟩ := gd_of E
      obtain ⟨v674, h675, e676, E⟩ := bI_of E
      refine Rn.callV1 (pc' := 1994) (As := []) (rest := []) (f_Model_thrown_ok hst e676) (Nat.le_trans (by decide) hd) rfl kb_L_117 ki_X11_thrown rfl g673 rfl rfl (Nat.le_of_ble_eq_true rfl) dL_law__1991 rfl rfl ?_
      refine Rn.iload (pc' := 1996) dL_law__1994 1 rfl rfl ?_
      refine Rn.icmp_eq (pc' := 1999) (tgt := 2001) dL_law__1996 (by decide) rfl (fun c677 => ?_) (fun c677 => ?_)
      · replace E := (if_of E).1 c677
        refine Rn.iload (pc' := 2003) dL_law__2001 1 rfl rfl ?_
        refine Rn.if_ne (pc' := 2006) (tgt := 2018) dL_law__2003 (by decide) rfl (fun c678 => ?_) (fun c678 => ?_)
        · replace E := (if_of E).2 c678
          refine Rn.sub [2, 3, 4, 5, 6] rfl ?_
          exact f_Lw_main_b2018_ok hst hd  hk23 E
        · replace E := (if_of E).1 c678
          refine Rn.aload_n (pc' := 2007) dL_law__2006 rfl 5 rfl rfl ?_
          refine Rn.iconst (pc' := 2008) (v := (0 : Int32)) (hv := by decide) dL_law__2007 rfl ?_
          obtain ⟨g679, E⟩ := gd_of E
          obtain ⟨g680, E⟩ := gd_of E
          refine Rn.lald (pc' := 2009) g679 g680 dL_law__2008 rfl ?_
          refine Rn.iload (pc' := 2011) dL_law__2009 0 rfl rfl ?_
          refine Rn.i2l (pc' := 2012) dL_law__2011 rfl ?_
          refine Rn.lcmp (pc' := 2013) dL_law__2012 rfl ?_
          refine Rn.if_eq (pc' := 2016) (tgt := 2018) dL_law__2013 (by decide) rfl (fun c681 => ?_) (fun c681 => ?_)
          · replace E := (if_of E).1 c681
            refine Rn.sub [2, 3, 4, 5, 6] rfl ?_
            exact f_Lw_main_b2018_ok hst hd  hk23 E
          · replace E := (if_of E).2 c681
            refine Rn.iconst (pc' := 2017) (v := (0 : Int32)) (hv := by decide) dL_law__2016 rfl ?_
            cases E
            exact Rn.zret rfl rfl dL_law__2017
      · replace E := (if_of E).2 c677
        refine Rn.iconst (pc' := 2000) (v := (0 : Int32)) (hv := by decide) dL_law__1999 rfl ?_
        cases E
        exact Rn.zret rfl rfl dL_law__2000
    replace E := (if_of E).2 c657
    by_cases c682 : ((X.2 (ix x4)) &&& (63 : Int32)) = (34 : Int32)
    · replace E := (if_of E).1 c682
      skip
      refine Rn.tabIn (x := ((X.2 (ix x4)) &&& (63 : Int32))) (tgt := 2021) dL_law__40 (by rw [c682]; decide) (by rw [c682]; decide) (by rw [c682]; rfl) (by decide) ?_
      refine Rn.aload_n (pc' := 2022) dL_law__2021 rfl 1 rfl rfl ?_
      refine Rn.aload_n (pc' := 2023) dL_law__2022 rfl 0 rfl rfl ?_
      refine Rn.iload (pc' := 2025) dL_law__2023 4 rfl rfl ?_
      refine Rn.iconst (pc' := 2026) (v := (1 : Int32)) (hv := by decide) dL_law__2025 rfl ?_
      refine Rn.iadd (pc' := 2027) dL_law__2026 rfl ?_
      obtain ⟨g683, E⟩ := gd_of E
      obtain ⟨g684, E⟩ := gd_of E
      refine Rn.sldE (pc' := 2028) g683 g684 dL_law__2027 rfl ?_
      refine Rn.aload_n (pc' := 2029) dL_law__2028 rfl 0 rfl rfl ?_
      refine Rn.iload (pc' := 2031) dL_law__2029 4 rfl rfl ?_
      refine Rn.iconst (pc' := 2032) (v := (2 : Int32)) (hv := by decide) dL_law__2031 rfl ?_
      refine Rn.iadd (pc' := 2033) dL_law__2032 rfl ?_
      obtain ⟨g685, E⟩ := gd_of E
      obtain ⟨g686, E⟩ := gd_of E
      refine Rn.sldE (pc' := 2034) g685 g686 dL_law__2033 rfl ?_
      refine Rn.aload_n (pc' := 2035) dL_law__2034 rfl 3 rfl rfl ?_
      obtain ⟨v687, h688, e689, E⟩ := bI_of E
      refine Rn.callSX1 (pc' := 2038) (As := [.ref x1, .int (X.2 (ix (x4 + (1 : Int32)))), .int (X.2 (ix (x4 + (2 : Int32)))), .ref x3]) (rest := []) (f_Lw_latest_ok hst e689) (Nat.le_trans (by decide) hd) rfl kb_L_227 ks_L_latest rfl rfl (Nat.le_of_ble_eq_true rfl) dL_law__2035 rfl rfl ?_
      refine Rn.istore (pc' := 2040) (L' := [(5, .int v687), (0, .ref x0), (1, .ref x1), (2, .ref x2), (3, .ref x3), (4, .int x4)]) dL_law__2038 (by decide) rfl rfl ?_
      refine Rn.aload_n (pc' := 2041) dL_law__2040 rfl 3 rfl rfl ?_
      refine Rn.aload_n (pc' := 2042) dL_law__2041 rfl 1 rfl rfl ?_
      refine Rn.iload (pc' := 2044) dL_law__2042 5 rfl rfl ?_
      refine Rn.iconst (pc' := 2045) (v := (1 : Int32)) (hv := by decide) dL_law__2044 rfl ?_
      refine Rn.iadd (pc' := 2046) dL_law__2045 rfl ?_
      obtain ⟨g690, E⟩ := gd_of E
      obtain ⟨g691, E⟩ := gd_of E
      refine Rn.sldE (pc' := 2047) g690 g691 dL_law__2046 rfl ?_
      refine Rn.aload_n (pc' := 2048) dL_law__2047 rfl 1 rfl rfl ?_
      refine Rn.iload (pc' := 2050) dL_law__2048 5 rfl rfl ?_
      refine Rn.iconst (pc' := 2051) (v := (2 : Int32)) (hv := by decide) dL_law__2050 rfl ?_
      refine Rn.iadd (pc' := 2052) dL_law__2051 rfl ?_
      obtain ⟨g692, E⟩ := gd_of E
      obtain ⟨g693, E⟩ := gd_of E
      refine Rn.sldE (pc' := 2053) g692 g693 dL_law__2052 rfl ?_
      obtain ⟨g694, E⟩ := gd_of E
      obtain ⟨v695, h696, e697, E⟩ := bI_of E
      refine Rn.callV1 (pc' := 2056) (As := [.int (X.2 (ix (x4 + (1 : Int32)))), .int (X.2 (ix (x4 + (2 : Int32))))]) (rest := []) (f_Model_latest_ok hst e697) (Nat.le_trans (by decide) hd) rfl kb_L_229 ki_X11_latest rfl g694 rfl rfl (Nat.le_of_ble_eq_true rfl) dL_law__2053 rfl rfl ?_
      refine Rn.istore (pc' := 2058) (L' := [(6, .int v695), (5, .int v687), (0, .ref x0), (1, .ref x1), (2, .ref x2), (3, .ref x3), (4, .int x4)]) dL_law__2056 (by decide) rfl rfl ?_
      refine Rn.aload_n (pc' := 2059) dL_law__2058 rfl 4 rfl rfl ?_
      obtain ⟨g698, E⟩ := gd_of E
      obtain ⟨v699, h700, e701, E⟩ := bI_of E
      refine Rn.callV1 (pc' := 2062) (As := []) (rest := []) (f_Model_thrown_ok hst e701) (Nat.le_trans (by decide) hd) rfl kb_L_117 ki_X11_thrown rfl g698 rfl rfl (Nat.le_of_ble_eq_true rfl) dL_law__2059 rfl rfl ?_
      refine Rn.iload (pc' := 2064) dL_law__2062 1 rfl rfl ?_
      refine Rn.icmp_eq (pc' := 2067) (tgt := 2069) dL_law__2064 (by decide) rfl (fun c702 => ?_) (fun c702 => ?_)
      · replace E := (if_of E).1 c702
        refine Rn.iload (pc' := 2071) dL_law__2069 1 rfl rfl ?_
        refine Rn.if_ne (pc' := 2074) (tgt := 2086) dL_law__2071 (by decide) rfl (fun c703 => ?_) (fun c703 => ?_)
        · replace E := (if_of E).2 c703
          refine Rn.sub [2, 3, 4, 5, 6] rfl ?_
          exact f_Lw_main_b2086_ok hst hd  hk23 E
        · replace E := (if_of E).1 c703
          refine Rn.aload_n (pc' := 2075) dL_law__2074 rfl 5 rfl rfl ?_
          refine Rn.iconst (pc' := 2076) (v := (0 : Int32)) (hv := by decide) dL_law__2075 rfl ?_
          obtain ⟨g704, E⟩ := gd_of E
          obtain ⟨g705, E⟩ := gd_of E
          refine Rn.lald (pc' := 2077) g704 g705 dL_law__2076 rfl ?_
          refine Rn.iload (pc' := 2079) dL_law__2077 0 rfl rfl ?_
          refine Rn.i2l (pc' := 2080) dL_law__2079 rfl ?_
          refine Rn.lcmp (pc' := 2081) dL_law__2080 rfl ?_
          refine Rn.if_eq (pc' := 2084) (tgt := 2086) dL_law__2081 (by decide) rfl (fun c706 => ?_) (fun c706 => ?_)
          · replace E := (if_of E).1 c706
            refine Rn.sub [2, 3, 4, 5, 6] rfl ?_
            exact f_Lw_main_b2086_ok hst hd  hk23 E
          · replace E := (if_of E).2 c706
            refine Rn.iconst (pc' := 2085) (v := (0 : Int32)) (hv := by decide) dL_law__2084 rfl ?_
            cases E
            exact Rn.zret rfl rfl dL_law__2085
      · replace E := (if_of E).2 c702
        refine Rn.iconst (pc' := 2068) (v := (0 : Int32)) (hv := by decide) dL_law__2067 rfl ?_
        cases E
        exact Rn.zret rfl rfl dL_law__2068
    replace E := (if_of E).2 c682
    by_cases c707 : ((X.2 (ix x4)) &&& (63 : Int32)) = (35 : Int32)
    · replace E := (if_of E).1 c707
      skip
      refine Rn.tabIn (x := ((X.2 (ix x4)) &&& (63 : Int32))) (tgt := 2089) dL_law__40 (by rw [c707]; decide) (by rw [c707]; decide) (by rw [c707]; rfl) (by decide) ?_
      refine Rn.aload_n (pc' := 2090) dL_law__2089 rfl 1 rfl rfl ?_
      obtain ⟨g708, E⟩ := gd_of E
      obtain ⟨h710, e711, E⟩ := bV_of E
      refine Rn.callV1 (pc' := 2093) (As := []) (rest := []) (f_Water_image_ok hst e711) (Nat.le_trans (by decide) hd) rfl kb_L_230 ki_X10_image rfl g708 rfl rfl (Nat.le_of_ble_eq_true rfl) dL_law__2090 rfl rfl ?_
      refine Rn.aload_n (pc' := 2094) dL_law__2093 rfl 2 rfl rfl ?_
      obtain ⟨g712, E⟩ := gd_of E
      obtain ⟨h714, e715, E⟩ := bV_of E
      refine Rn.callV1 (pc' := 2097) (As := []) (rest := []) (f_Model_image_ok hst e715) (Nat.le_trans (by decide) hd) rfl kb_L_233 ki_X11_image rfl g712 rfl rfl (Nat.le_of_ble_eq_true rfl) dL_law__2094 rfl rfl ?_
      refine Rn.goto (pc' := 2138) dL_law__2097 (by decide) ?_
      exact f_Lw_main_b2138_ok hst hd  hk23 E
    replace E := (if_of E).2 c707
    by_cases c716 : ((X.2 (ix x4)) &&& (63 : Int32)) = (36 : Int32)
    · replace E := (if_of E).1 c716
      skip
      refine Rn.tabIn (x := ((X.2 (ix x4)) &&& (63 : Int32))) (tgt := 2100) dL_law__40 (by rw [c716]; decide) (by rw [c716]; decide) (by rw [c716]; rfl) (by decide) ?_
      refine Rn.aload_n (pc' := 2101) dL_law__2100 rfl 1 rfl rfl ?_
      obtain ⟨g717, E⟩ := gd_of E
      obtain ⟨v718, h719, e720, E⟩ := bI_of E
      refine Rn.callV1 (pc' := 2104) (As := []) (rest := []) (f_Water_back_ok hst e720) (Nat.le_trans (by decide) hd) rfl kb_L_234 ki_X10_back rfl g717 rfl rfl (Nat.le_of_ble_eq_true rfl) dL_law__2101 rfl rfl ?_
      refine Rn.aload_n (pc' := 2105) dL_law__2104 rfl 2 rfl rfl ?_
      obtain ⟨g721, E⟩ := gd_of E
      obtain ⟨v722, h723, e724, E⟩ := bI_of E
      refine Rn.callV1 (pc' := 2108) (As := []) (rest := [.int v718]) (f_Model_back_ok hst e724) (Nat.le_trans (by decide) hd) rfl kb_L_238 ki_X11_back rfl g721 rfl rfl (Nat.le_of_ble_eq_true rfl) dL_law__2105 rfl rfl ?_
      refine Rn.icmp_eq (pc' := 2111) (tgt := 2138) dL_law__2108 (by decide) rfl (fun c725 => ?_) (fun c725 => ?_)
      · replace E := (if_of E).1 c725
        exact f_Lw_main_b2138_ok hst hd  hk23 E
      · replace E := (if_of E).2 c725
        refine Rn.iconst (pc' := 2112) (v := (0 : Int32)) (hv := by decide) dL_law__2111 rfl ?_
        cases E
        exact Rn.zret rfl rfl dL_law__2112
    replace E := (if_of E).2 c716
    by_cases c726 : ((X.2 (ix x4)) &&& (63 : Int32)) = (37 : Int32)
    · replace E := (if_of E).1 c726
      skip
      refine Rn.tabIn (x := ((X.2 (ix x4)) &&& (63 : Int32))) (tgt := 2113) dL_law__40 (by rw [c726]; decide) (by rw [c726]; decide) (by rw [c726]; rfl) (by decide) ?_
      refine Rn.aload_n (pc' := 2114) dL_law__2113 rfl 1 rfl rfl ?_
      refine Rn.aload_n (pc' := 2115) dL_law__2114 rfl 0 rfl rfl ?_
      refine Rn.iload (pc' := 2117) dL_law__2115 4 rfl rfl ?_
      refine Rn.iconst (pc' := 2118) (v := (1 : Int32)) (hv := by decide) dL_law__2117 rfl ?_
      refine Rn.iadd (pc' := 2119) dL_law__2118 rfl ?_
      obtain ⟨g727, E⟩ := gd_of E
      obtain ⟨g728, E⟩ := gd_of E
      refine Rn.sldE (pc' := 2120) g727 g728 dL_law__2119 rfl ?_
      obtain ⟨g729, E⟩ := gd_of E
      obtain ⟨v730, h731, e732, E⟩ := bI_of E
      refine Rn.callV1 (pc' := 2123) (As := [.int (X.2 (ix (x4 + (1 : Int32))))]) (rest := []) (f_Water_count_ok hst e732) (Nat.le_trans (by decide) hd) rfl kb_L_239 ki_X10_count rfl g729 rfl rfl (Nat.le_of_ble_eq_true rfl) dL_law__2120 rfl rfl ?_
      refine Rn.aload_n (pc' := 2124) dL_law__2123 rfl 2 rfl rfl ?_
      refine Rn.aload_n (pc' := 2125) dL_law__2124 rfl 0 rfl rfl ?_
      refine Rn.iload (pc' := 2127) dL_law__2125 4 rfl rfl ?_
      refine Rn.iconst (pc' := 2128) (v := (1 : Int32)) (hv := by decide) dL_law__2127 rfl ?_
      refine Rn.iadd (pc' := 2129) dL_law__2128 rfl ?_
      obtain ⟨g733, E⟩ := gd_of E
      obtain ⟨g734, E⟩ := gd_of E
      refine Rn.sldE (pc' := 2130) g733 g734 dL_law__2129 rfl ?_
      obtain ⟨g735, E⟩ := gd_of E
      obtain ⟨v736, h737, e738, E⟩ := bI_of E
      refine Rn.callV1 (pc' := 2133) (As := [.int (X.2 (ix (x4 + (1 : Int32))))]) (rest := [.int v730]) (f_Model_count_ok hst e738) (Nat.le_trans (by decide) hd) rfl kb_L_242 ki_X11_count rfl g735 rfl rfl (Nat.le_of_ble_eq_true rfl) dL_law__2130 rfl rfl ?_
      refine Rn.icmp_eq (pc' := 2136) (tgt := 2138) dL_law__2133 (by decide) rfl (fun c739 => ?_) (fun c739 => ?_)
      · replace E := (if_of E).1 c739
        exact f_Lw_main_b2138_ok hst hd  hk23 E
      · replace E := (if_of E).2 c739
        refine Rn.iconst (pc' := 2137) (v := (0 : Int32)) (hv := by decide) dL_law__2136 rfl ?_
        cases E
        exact Rn.zret rfl rfl dL_law__2137
    replace E := (if_of E).2 c726
    refine Rn.tabOut (x := ((X.2 (ix x4)) &&& (63 : Int32))) (tgt := 2138) dL_law__40 (tab_out fun z hz hq => ?_) (by decide) ?_
    · have hz2 : z = 0 ∨ z = 1 ∨ z = 2 ∨ z = 3 ∨ z = 4 ∨ z = 5 ∨ z = 6 ∨ z = 7 ∨ z = 8 ∨ z = 9 ∨ z = 10 ∨ z = 11 ∨ z = 12 ∨ z = 13 ∨ z = 14 ∨ z = 15 ∨ z = 16 ∨ z = 17 ∨ z = 18 ∨ z = 19 ∨ z = 20 ∨ z = 21 ∨ z = 22 ∨ z = 23 ∨ z = 24 ∨ z = 25 ∨ z = 26 ∨ z = 27 ∨ z = 28 ∨ z = 29 ∨ z = 30 ∨ z = 31 ∨ z = 32 ∨ z = 33 ∨ z = 34 ∨ z = 35 ∨ z = 36 ∨ z = 37 := by omega
      rcases hz2 with rfl | rfl | rfl | rfl | rfl | rfl | rfl | rfl | rfl | rfl | rfl | rfl | rfl | rfl | rfl | rfl | rfl | rfl | rfl | rfl | rfl | rfl | rfl | rfl | rfl | rfl | rfl | rfl | rfl | rfl | rfl | rfl | rfl | rfl | rfl | rfl | rfl | rfl
      · exact c7 hz
      · exact c37 hz
      · exact c51 hz
      · exact c68 hz
      · exact c85 hz
      · exact c95 hz
      · exact c120 hz
      · exact c145 hz
      · exact c166 hz
      · exact c191 hz
      · exact c216 hz
      · exact c241 hz
      · exact c262 hz
      · exact c283 hz
      · exact c293 hz
      · exact c318 hz
      · exact c339 hz
      · exact c345 hz
      · exact c359 hz
      · exact c388 hz
      · exact c398 hz
      · exact c408 hz
      · exact c425 hz
      · exact c462 hz
      · exact c476 hz
      · exact c490 hz
      · exact c507 hz
      · exact c528 hz
      · exact c553 hz
      · exact c582 hz
      · exact c603 hz
      · exact c624 hz
      · exact c653 hz
      · exact c657 hz
      · exact c682 hz
      · exact c707 hz
      · exact c716 hz
      · exact c726 hz
    · exact f_Lw_main_b2138_ok hst hd  hk23 E
def f_Lw_main_L23 (X : Nat × (Nat → Int32))   (n : Nat) : Hp → Nat → Nat → Nat → Nat → Int32 → Option (Int32 × Hp) := Nat.rec (motive := fun _ => Hp → Nat → Nat → Nat → Nat → Int32 → Option (Int32 × Hp)) (fun _ _ _ _ _ _ => none) (fun _ rec => f_Lw_main_b23 X   rec) n
theorem f_Lw_main_L23_ok {l : Launch} {X : Nat × (Nat → Int32)} (hst : l.stackTraces = false) {d : Nat} (hd : 52 ≤ d)     : ∀ (n : Nat) (h : Hp) (x0 : Nat) (x1 : Nat) (x2 : Nat) (x3 : Nat) (x4 : Int32)  (r : Int32 × Hp), f_Lw_main_L23 X   n h x0 x1 x2 x3 x4 = some r → Rn l X mL_law_ d 23 [(0, .ref x0), (1, .ref x1), (2, .ref x2), (3, .ref x3), (4, .int x4)] [] h (eI r) r.2 := by
  intro n
  induction n with
  | zero => intro h x0 x1 x2 x3 x4 r E; cases E
  | succ n ih => intro h x0 x1 x2 x3 x4 r E; exact f_Lw_main_b23_ok hst hd   ih E
theorem kk_L_8 : Cond.classLink RL 8 "VintageWater" ∈ gw := gw_at 134 (by decide +kernel) (by decide +kernel)
theorem kb_L_98 : KB RL 98 yX10_init mX10_init 0 := ⟨gw_at 136 (by decide +kernel) (by decide +kernel), gw_at 107 (by decide +kernel) (by decide +kernel), trivial, ws_X10_init, by decide +kernel, by decide +kernel, by decide +kernel, by decide⟩
theorem kn_X10_init : Cond.instanceMethod yX10_init ∈ gw := gw_at 137 (by decide +kernel) (by decide +kernel)
theorem kk_L_99 : Cond.classLink RL 99 "VintageWaterModel" ∈ gw := gw_at 1420 (by decide +kernel) (by decide +kernel)
theorem kb_L_101 : KB RL 101 yX11_init mX11_init 0 := ⟨gw_at 1422 (by decide +kernel) (by decide +kernel), gw_at 117 (by decide +kernel) (by decide +kernel), trivial, ws_X11_init, by decide +kernel, by decide +kernel, by decide +kernel, by decide⟩
theorem kn_X11_init : Cond.instanceMethod yX11_init ∈ gw := gw_at 1423 (by decide +kernel) (by decide +kernel)
def f_Lw_main_b0 (X : Nat × (Nat → Int32))   (h : Hp) (x0 : Nat)  : Option (Int32 × Hp) :=
wr (hA h 10 0 (nF 9)) fun h1 =>
bV (f_Water_init h1 (hN h + 1)) fun h4 =>
wr (hA h4 11 0 (nF 10)) fun h6 =>
bV (f_Model_init h6 (hN h4 + 1)) fun h9 =>
wr (hA h9 22 (ix (1 : Int32)) (ix (1 : Int32))) fun h11 =>
f_Lw_main_L23 X   FU h11 x0 (hN h + 1) (hN h4 + 1) (hN h9 + 1) (0 : Int32)

set_option maxRecDepth 20000 in
set_option maxHeartbeats 4000000 in
theorem f_Lw_main_b0_ok {l : Launch} {X : Nat × (Nat → Int32)} (hst : l.stackTraces = false) {d : Nat} (hd : 52 ≤ d)     {h : Hp} {x0 : Nat}  {r : Int32 × Hp} (E : f_Lw_main_b0 X   h x0 = some r) : Rn l X mL_law_ d 0 [(0, .ref x0)] [] h (eI r) r.2 := by
  unfold f_Lw_main_b0 at E
  refine Rn.new (pc' := 3) (ci := 9) (C0 := "VintageWater") (by decide) (fun r hr => by cases hr; rfl) kk_L_8 dL_law__0 rfl ?_
  replace E := wr_of E
  generalize eh2 : hA h 10 0 (nF 9) = h1 at E ⊢
  refine Rn.dup (pc' := 4) (hc := rfl) dL_law__3 rfl ?_
  obtain ⟨h4, e5, E⟩ := bV_of E
  refine Rn.callI1 (pc' := 7) (As := []) (rest := [.ref (hN h + 1)]) (f_Water_init_ok hst e5) (Nat.le_trans (by decide) hd) rfl rfl kb_L_98 kn_X10_init rfl rfl (kp_n0 (kp_nA eh2)) rfl (Nat.le_of_ble_eq_true rfl) dL_law__4 rfl ?_
  refine Rn.astore_n (pc' := 8) (L' := [(1, .ref (hN h + 1)), (0, .ref x0)]) dL_law__7 rfl (by decide) rfl rfl ?_
  refine Rn.new (pc' := 11) (ci := 10) (C0 := "VintageWaterModel") (by decide) (fun r hr => by cases hr; rfl) kk_L_99 dL_law__8 rfl ?_
  replace E := wr_of E
  generalize eh7 : hA h4 11 0 (nF 10) = h6 at E ⊢
  refine Rn.dup (pc' := 12) (hc := rfl) dL_law__11 rfl ?_
  obtain ⟨h9, e10, E⟩ := bV_of E
  refine Rn.callI1 (pc' := 15) (As := []) (rest := [.ref (hN h4 + 1)]) (f_Model_init_ok hst e10) (Nat.le_trans (by decide) hd) rfl rfl kb_L_101 kn_X11_init rfl rfl (kp_n0 (kp_nA eh7)) rfl (Nat.le_of_ble_eq_true rfl) dL_law__12 rfl ?_
  refine Rn.astore_n (pc' := 16) (L' := [(2, .ref (hN h4 + 1)), (1, .ref (hN h + 1)), (0, .ref x0)]) dL_law__15 rfl (by decide) rfl rfl ?_
  refine Rn.iconst (pc' := 17) (v := (1 : Int32)) (hv := by decide) dL_law__16 rfl ?_
  refine Rn.newa (pc' := 19) (sh := 22) (by decide) (by decide) (by decide) dL_law__17 rfl ?_
  replace E := wr_of E
  generalize eh12 : hA h9 22 (ix (1 : Int32)) (ix (1 : Int32)) = h11 at E ⊢
  refine Rn.astore_n (pc' := 20) (L' := [(3, .ref (hN h9 + 1)), (2, .ref (hN h4 + 1)), (1, .ref (hN h + 1)), (0, .ref x0)]) dL_law__19 rfl (by decide) rfl rfl ?_
  refine Rn.iconst (pc' := 21) (v := (0 : Int32)) (hv := by decide) dL_law__20 rfl ?_
  refine Rn.istore (pc' := 23) (L' := [(4, .int (0 : Int32)), (3, .ref (hN h9 + 1)), (2, .ref (hN h4 + 1)), (1, .ref (hN h + 1)), (0, .ref x0)]) dL_law__21 (by decide) rfl rfl ?_
  refine Rn.sub [4, 3, 2, 1, 0] rfl ?_
  exact f_Lw_main_L23_ok hst hd   FU _ _ _ _ _ _ _ E
def f_Lw_main (X : Nat × (Nat → Int32)) (h : Hp) (x0 : Nat) : Option (Int32 × Hp) := f_Lw_main_b0 X  h x0
theorem f_Lw_main_ok {l : Launch} {X : Nat × (Nat → Int32)} (hst : l.stackTraces = false) {h : Hp} {x0 : Nat} {r : Int32 × Hp} (E : f_Lw_main X  h x0 = some r) : MC l X yL_law_ mL_law_ 52 [.ref x0] h (eI r) r.2 :=
  MC.body (by decide +kernel) rfl (by decide) hst (Nat.le_of_ble_eq_true rfl) (f_Lw_main_b0_ok hst (Nat.le_refl _) E)
