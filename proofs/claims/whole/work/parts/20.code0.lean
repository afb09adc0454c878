/-! ===== by program out of the bytecode (wip/whole/gen/emit.py) ===== -/
abbrev mX9_init : MI := (RX9, cX9_init, 1, none, [], true)
theorem ws_X9_init : ∀ w ∈ wsM yX9_init mX9_init, w ∈ gw := List.forall_mem_cons.mpr ⟨gw_at 146 (by decide +kernel) (by decide +kernel), fun _ h => h⟩
theorem ko_X9_3 : Cond.methodLink RX9 3 objectInit ∈ gw := gw_at 147 (by decide +kernel) (by decide +kernel)
theorem fl_X9_9_8 : FL RX9 9 8 0 := ⟨_, rfl, by decide, "VintageWater$Tape", gw_at 148 (by decide +kernel) (by decide +kernel), Or.inl rfl⟩
theorem fl_X9_15_8 : FL RX9 15 8 2 := ⟨_, rfl, by decide, "VintageWater$Tape", gw_at 151 (by decide +kernel) (by decide +kernel), Or.inl rfl⟩
theorem fl_X9_19_8 : FL RX9 19 8 3 := ⟨_, rfl, by decide, "VintageWater$Tape", gw_at 152 (by decide +kernel) (by decide +kernel), Or.inl rfl⟩
def f_Tape_init_b0   (h : Hp) (x0 : Nat)  : Option (Hp) :=
if hS h x0 = 9 then (
wr (hA h 21 (ix (400 : Int32)) (ix (400 : Int32))) fun h2 =>
if hS h2 x0 = 9 then (
wr (sR h2 x0 0 (hN h + 1)) fun h5 =>
wr (hA h5 20 (ix (401 : Int32)) (ix (401 : Int32))) fun h7 =>
if hS h7 x0 = 9 then (
wr (sR h7 x0 2 (hN h5 + 1)) fun h10 =>
wr (hA h10 20 (ix (401 : Int32)) (ix (401 : Int32))) fun h12 =>
if hS h12 x0 = 9 then (
wr (sR h12 x0 3 (hN h10 + 1)) fun h15 =>
some h15
) else none) else none) else none) else none
set_option maxRecDepth 20000 in
set_option maxHeartbeats 4000000 in
theorem f_Tape_init_b0_ok {l : Launch} {X : Nat × (Nat → Int32)} (hst : l.stackTraces = false) {d : Nat} (hd : 1 ≤ d)     {h : Hp} {x0 : Nat}  {r : Hp} (E : f_Tape_init_b0   h x0 = some r) : Rn l X mX9_init d 0 [(0, .ref x0)] [] h (eV r) r := by
  unfold f_Tape_init_b0 at E
  refine Rn.aload_n (pc' := 1) dX9_init_0 rfl 0 rfl rfl ?_
  obtain ⟨g1, E⟩ := gd_of E
  refine Rn.objI1 (pc' := 4) ko_X9_3 (kp_n0 g1) (Nat.le_of_ble_eq_true rfl) dX9_init_1 rfl ?_
  refine Rn.aload_n (pc' := 5) dX9_init_4 rfl 0 rfl rfl ?_
  refine Rn.sipush (pc' := 8) (v := (400 : Int32)) (hv := by decide) dX9_init_5 rfl ?_
  refine Rn.newa (pc' := 10) (sh := 21) (by decide) (by decide) (by decide) dX9_init_8 rfl ?_
  replace E := wr_of E
  generalize eh3 : hA h 21 (ix (400 : Int32)) (ix (400 : Int32)) = h2 at E ⊢
  obtain ⟨g4, E⟩ := gd_of E
  refine Rn.putR (pc' := 13) fl_X9_9_8 (fun q hq => by cases hq; decide) g4 rfl rfl dX9_init_10 rfl ?_
  replace E := wr_of E
  generalize eh6 : sR h2 x0 0 (hN h + 1) = h5 at E ⊢
  refine Rn.aload_n (pc' := 14) dX9_init_13 rfl 0 rfl rfl ?_
  refine Rn.sipush (pc' := 17) (v := (401 : Int32)) (hv := by decide) dX9_init_14 rfl ?_
  refine Rn.newa (pc' := 19) (sh := 20) (by decide) (by decide) (by decide) dX9_init_17 rfl ?_
  replace E := wr_of E
  generalize eh8 : hA h5 20 (ix (401 : Int32)) (ix (401 : Int32)) = h7 at E ⊢
  obtain ⟨g9, E⟩ := gd_of E
  refine Rn.putR (pc' := 22) fl_X9_15_8 (fun q hq => by cases hq; decide) g9 rfl rfl dX9_init_19 rfl ?_
  replace E := wr_of E
  generalize eh11 : sR h7 x0 2 (hN h5 + 1) = h10 at E ⊢
  refine Rn.aload_n (pc' := 23) dX9_init_22 rfl 0 rfl rfl ?_
  refine Rn.sipush (pc' := 26) (v := (401 : Int32)) (hv := by decide) dX9_init_23 rfl ?_
  refine Rn.newa (pc' := 28) (sh := 20) (by decide) (by decide) (by decide) dX9_init_26 rfl ?_
  replace E := wr_of E
  generalize eh13 : hA h10 20 (ix (401 : Int32)) (ix (401 : Int32)) = h12 at E ⊢
  obtain ⟨g14, E⟩ := gd_of E
  refine Rn.putR (pc' := 31) fl_X9_19_8 (fun q hq => by cases hq; decide) g14 rfl rfl dX9_init_28 rfl ?_
  replace E := wr_of E
  generalize eh16 : sR h12 x0 3 (hN h10 + 1) = h15 at E ⊢
  cases E
  exact Rn.vret rfl dX9_init_31
def f_Tape_init (h : Hp) (x0 : Nat) : Option (Hp) := f_Tape_init_b0  h x0
theorem f_Tape_init_ok {l : Launch} {X : Nat × (Nat → Int32)} (hst : l.stackTraces = false) {h : Hp} {x0 : Nat} {r : Hp} (E : f_Tape_init h x0 = some r) : MC l X yX9_init mX9_init 1 [.ref x0] h (eV r) r :=
  MC.body (by decide +kernel) rfl (by decide) hst (Nat.le_of_ble_eq_true rfl) (f_Tape_init_b0_ok hst (Nat.le_refl _) E)
abbrev mX7_init : MI := (RX7, cX7_init, 3, none, [], true)
theorem ws_X7_init : ∀ w ∈ wsM yX7_init mX7_init, w ∈ gw := List.forall_mem_cons.mpr ⟨gw_at 178 (by decide +kernel) (by decide +kernel), fun _ h => h⟩
theorem ko_X7_3 : Cond.methodLink RX7 3 objectInit ∈ gw := gw_at 179 (by decide +kernel) (by decide +kernel)
theorem fl_X7_9_4 : FL RX7 9 4 0 := ⟨_, rfl, by decide, "VintageWater$Lines", gw_at 189 (by decide +kernel) (by decide +kernel), Or.inl rfl⟩
theorem fl_X7_15_4 : FL RX7 15 4 1 := ⟨_, rfl, by decide, "VintageWater$Lines", gw_at 194 (by decide +kernel) (by decide +kernel), Or.inl rfl⟩
def f_Lines_init_4_b0   (h : Hp) (x0 : Nat) (x1 : Nat) (x2 : Int32)  : Option (Hp) :=
if hS h x0 = 5 then (
wr (sR h x0 0 x1) fun h2 =>
wr (sI h2 x0 1 x2) fun h4 =>
some h4
) else none
set_option maxRecDepth 20000 in
set_option maxHeartbeats 4000000 in
theorem f_Lines_init_4_b0_ok {l : Launch} {X : Nat × (Nat → Int32)} (hst : l.stackTraces = false) {d : Nat} (hd : 1 ≤ d)     {h : Hp} {x0 : Nat} {x1 : Nat} {x2 : Int32}  {r : Hp} (E : f_Lines_init_4_b0   h x0 x1 x2 = some r) : Rn l X mX7_init d 0 [(0, .ref x0), (1, .ref x1), (2, .int x2)] [] h (eV r) r := by
  unfold f_Lines_init_4_b0 at E
  refine Rn.aload_n (pc' := 1) dX7_init_0 rfl 0 rfl rfl ?_
  obtain ⟨g1, E⟩ := gd_of E
  refine Rn.objI1 (pc' := 4) ko_X7_3 (kp_n0 g1) (Nat.le_of_ble_eq_true rfl) dX7_init_1 rfl ?_
  refine Rn.aload_n (pc' := 5) dX7_init_4 rfl 0 rfl rfl ?_
  refine Rn.aload_n (pc' := 6) dX7_init_5 rfl 1 rfl rfl ?_
  refine Rn.putR (pc' := 9) fl_X7_9_4 (fun q hq => by cases hq; decide) g1 rfl rfl dX7_init_6 rfl ?_
  replace E := wr_of E
  generalize eh3 : sR h x0 0 x1 = h2 at E ⊢
  refine Rn.aload_n (pc' := 10) dX7_init_9 rfl 0 rfl rfl ?_
  refine Rn.iload_n (pc' := 11) dX7_init_10 rfl 2 rfl rfl ?_
  refine Rn.putI (pc' := 14) fl_X7_15_4 (fun q hq => by cases hq; decide) (kp_sR eh3 g1) rfl rfl rfl dX7_init_11 rfl ?_
  replace E := wr_of E
  generalize eh5 : sI h2 x0 1 x2 = h4 at E ⊢
  cases E
  exact Rn.vret rfl dX7_init_14
def f_Lines_init_4 (h : Hp) (x0 : Nat) (x1 : Nat) (x2 : Int32) : Option (Hp) := f_Lines_init_4_b0  h x0 x1 x2
theorem f_Lines_init_4_ok {l : Launch} {X : Nat × (Nat → Int32)} (hst : l.stackTraces = false) {h : Hp} {x0 : Nat} {x1 : Nat} {x2 : Int32} {r : Hp} (E : f_Lines_init_4 h x0 x1 x2 = some r) : MC l X yX7_init mX7_init 1 [.ref x0, .ref x1, .int x2] h (eV r) r :=
  MC.body (by decide +kernel) rfl (by decide) hst (Nat.le_of_ble_eq_true rfl) (f_Lines_init_4_b0_ok hst (Nat.le_refl _) E)
abbrev mX4_init : MI := (RX4, cX4_init, 2, none, [], true)
theorem ws_X4_init : ∀ w ∈ wsM yX4_init mX4_init, w ∈ gw := List.forall_mem_cons.mpr ⟨gw_at 175 (by decide +kernel) (by decide +kernel), fun _ h => h⟩
theorem kb_X4_3 : KB RX4 3 yX7_init mX7_init 2 := ⟨gw_at 176 (by decide +kernel) (by decide +kernel), gw_at 109 (by decide +kernel) (by decide +kernel), trivial, ws_X7_init, by decide +kernel, by decide +kernel, by decide +kernel, by decide⟩
theorem kn_X7_init : Cond.instanceMethod yX7_init ∈ gw := gw_at 177 (by decide +kernel) (by decide +kernel)
theorem fl_X4_9_4 : FL RX4 9 4 3 := ⟨_, rfl, by decide, "VintageWater$LandText", gw_at 180 (by decide +kernel) (by decide +kernel), Or.inl rfl⟩
theorem fl_X4_15_4 : FL RX4 15 4 4 := ⟨_, rfl, by decide, "VintageWater$LandText", gw_at 181 (by decide +kernel) (by decide +kernel), Or.inl rfl⟩
theorem fl_X4_18_4 : FL RX4 18 4 5 := ⟨_, rfl, by decide, "VintageWater$LandText", gw_at 182 (by decide +kernel) (by decide +kernel), Or.inl rfl⟩
theorem fl_X4_21_4 : FL RX4 21 4 6 := ⟨_, rfl, by decide, "VintageWater$LandText", gw_at 183 (by decide +kernel) (by decide +kernel), Or.inl rfl⟩
def f_LandText_init_b0   (h : Hp) (x0 : Nat) (x1 : Nat)  : Option (Hp) :=
if hS h x0 = 5 then (
bV (f_Lines_init_4 h x0 x1 (14 : Int32)) fun h3 =>
wr (hA h3 20 (ix (14 : Int32)) (ix (14 : Int32))) fun h5 =>
if hS h5 x0 = 5 then (
wr (sR h5 x0 3 (hN h3 + 1)) fun h8 =>
wr (hA h8 20 (ix (14 : Int32)) (ix (14 : Int32))) fun h10 =>
if hS h10 x0 = 5 then (
wr (sR h10 x0 4 (hN h8 + 1)) fun h13 =>
wr (hA h13 20 (ix (14 : Int32)) (ix (14 : Int32))) fun h15 =>
if hS h15 x0 = 5 then (
wr (sR h15 x0 5 (hN h13 + 1)) fun h18 =>
wr (hA h18 20 (ix (14 : Int32)) (ix (14 : Int32))) fun h20 =>
if hS h20 x0 = 5 then (
wr (sR h20 x0 6 (hN h18 + 1)) fun h23 =>
some h23
) else none) else none) else none) else none) else none
set_option maxRecDepth 20000 in
set_option maxHeartbeats 4000000 in
theorem f_LandText_init_b0_ok {l : Launch} {X : Nat × (Nat → Int32)} (hst : l.stackTraces = false) {d : Nat} (hd : 2 ≤ d)     {h : Hp} {x0 : Nat} {x1 : Nat}  {r : Hp} (E : f_LandText_init_b0   h x0 x1 = some r) : Rn l X mX4_init d 0 [(0, .ref x0), (1, .ref x1)] [] h (eV r) r := by
  unfold f_LandText_init_b0 at E
  refine Rn.aload_n (pc' := 1) dX4_init_0 rfl 0 rfl rfl ?_
  refine Rn.aload_n (pc' := 2) dX4_init_1 rfl 1 rfl rfl ?_
  refine Rn.bipush (pc' := 4) (v := (14 : Int32)) (hv := by decide) dX4_init_2 rfl ?_
  obtain ⟨g1, E⟩ := gd_of E
  obtain ⟨h3, e4, E⟩ := bV_of E
  refine Rn.callI1 (pc' := 7) (As := [.ref x1, .int (14 : Int32)]) (rest := []) (f_Lines_init_4_ok hst e4) (Nat.le_trans (by decide) hd) rfl rfl kb_X4_3 kn_X7_init rfl rfl (kp_n0 g1) rfl (Nat.le_of_ble_eq_true rfl) dX4_init_4 rfl ?_
  refine Rn.aload_n (pc' := 8) dX4_init_7 rfl 0 rfl rfl ?_
  refine Rn.bipush (pc' := 10) (v := (14 : Int32)) (hv := by decide) dX4_init_8 rfl ?_
  refine Rn.newa (pc' := 12) (sh := 20) (by decide) (by decide) (by decide) dX4_init_10 rfl ?_
  replace E := wr_of E
  generalize eh6 : hA h3 20 (ix (14 : Int32)) (ix (14 : Int32)) = h5 at E ⊢
  obtain ⟨g7, E⟩ := gd_of E
  refine Rn.putR (pc' := 15) fl_X4_9_4 (fun q hq => by cases hq; decide) g7 rfl rfl dX4_init_12 rfl ?_
  replace E := wr_of E
  generalize eh9 : sR h5 x0 3 (hN h3 + 1) = h8 at E ⊢
  refine Rn.aload_n (pc' := 16) dX4_init_15 rfl 0 rfl rfl ?_
  refine Rn.bipush (pc' := 18) (v := (14 : Int32)) (hv := by decide) dX4_init_16 rfl ?_
  refine Rn.newa (pc' := 20) (sh := 20) (by decide) (by decide) (by decide) dX4_init_18 rfl ?_
  replace E := wr_of E
  generalize eh11 : hA h8 20 (ix (14 : Int32)) (ix (14 : Int32)) = h10 at E ⊢
  obtain ⟨g12, E⟩ := gd_of E
  refine Rn.putR (pc' := 23) fl_X4_15_4 (fun q hq => by cases hq; decide) g12 rfl rfl dX4_init_20 rfl ?_
  replace E := wr_of E
  generalize eh14 : sR h10 x0 4 (hN h8 + 1) = h13 at E ⊢
  refine Rn.aload_n (pc' := 24) dX4_init_23 rfl 0 rfl rfl ?_
  refine Rn.bipush (pc' := 26) (v := (14 : Int32)) (hv := by decide) dX4_init_24 rfl ?_
  refine Rn.newa (pc' := 28) (sh := 20) (by decide) (by decide) (by decide) dX4_init_26 rfl ?_
  replace E := wr_of E
  generalize eh16 : hA h13 20 (ix (14 : Int32)) (ix (14 : Int32)) = h15 at E ⊢
  obtain ⟨g17, E⟩ := gd_of E
  refine Rn.putR (pc' := 31) fl_X4_18_4 (fun q hq => by cases hq; decide) g17 rfl rfl dX4_init_28 rfl ?_
  replace E := wr_of E
  generalize eh19 : sR h15 x0 5 (hN h13 + 1) = h18 at E ⊢
  refine Rn.aload_n (pc' := 32) dX4_init_31 rfl 0 rfl rfl ?_
  refine Rn.bipush (pc' := 34) (v := (14 : Int32)) (hv := by decide) dX4_init_32 rfl ?_
  refine Rn.newa (pc' := 36) (sh := 20) (by decide) (by decide) (by decide) dX4_init_34 rfl ?_
  replace E := wr_of E
  generalize eh21 : hA h18 20 (ix (14 : Int32)) (ix (14 : Int32)) = h20 at E ⊢
  obtain ⟨g22, E⟩ := gd_of E
  refine Rn.putR (pc' := 39) fl_X4_21_4 (fun q hq => by cases hq; decide) g22 rfl rfl dX4_init_36 rfl ?_
  replace E := wr_of E
  generalize eh24 : sR h20 x0 6 (hN h18 + 1) = h23 at E ⊢
  cases E
  exact Rn.vret rfl dX4_init_39
def f_LandText_init (h : Hp) (x0 : Nat) (x1 : Nat) : Option (Hp) := f_LandText_init_b0  h x0 x1
theorem f_LandText_init_ok {l : Launch} {X : Nat × (Nat → Int32)} (hst : l.stackTraces = false) {h : Hp} {x0 : Nat} {x1 : Nat} {r : Hp} (E : f_LandText_init h x0 x1 = some r) : MC l X yX4_init mX4_init 2 [.ref x0, .ref x1] h (eV r) r :=
  MC.body (by decide +kernel) rfl (by decide) hst (Nat.le_of_ble_eq_true rfl) (f_LandText_init_b0_ok hst (Nat.le_refl _) E)
theorem fl_X7_9_6 : FL RX7 9 6 0 := ⟨_, rfl, by decide, "VintageWater$Lines", gw_at 189 (by decide +kernel) (by decide +kernel), Or.inl rfl⟩
theorem fl_X7_15_6 : FL RX7 15 6 1 := ⟨_, rfl, by decide, "VintageWater$Lines", gw_at 194 (by decide +kernel) (by decide +kernel), Or.inl rfl⟩
def f_Lines_init_6_b0   (h : Hp) (x0 : Nat) (x1 : Nat) (x2 : Int32)  : Option (Hp) :=
if hS h x0 = 7 then (
wr (sR h x0 0 x1) fun h2 =>
wr (sI h2 x0 1 x2) fun h4 =>
some h4
) else none
set_option maxRecDepth 20000 in
set_option maxHeartbeats 4000000 in
theorem f_Lines_init_6_b0_ok {l : Launch} {X : Nat × (Nat → Int32)} (hst : l.stackTraces = false) {d : Nat} (hd : 1 ≤ d)     {h : Hp} {x0 : Nat} {x1 : Nat} {x2 : Int32}  {r : Hp} (E : f_Lines_init_6_b0   h x0 x1 x2 = some r) : Rn l X mX7_init d 0 [(0, .ref x0), (1, .ref x1), (2, .int x2)] [] h (eV r) r := by
  unfold f_Lines_init_6_b0 at E
  refine Rn.aload_n (pc' := 1) dX7_init_0 rfl 0 rfl rfl ?_
  obtain ⟨g1, E⟩ := gd_of E
  refine Rn.objI1 (pc' := 4) ko_X7_3 (kp_n0 g1) (Nat.le_of_ble_eq_true rfl) dX7_init_1 rfl ?_
  refine Rn.aload_n (pc' := 5) dX7_init_4 rfl 0 rfl rfl ?_
  refine Rn.aload_n (pc' := 6) dX7_init_5 rfl 1 rfl rfl ?_
  refine Rn.putR (pc' := 9) fl_X7_9_6 (fun q hq => by cases hq; decide) g1 rfl rfl dX7_init_6 rfl ?_
  replace E := wr_of E
  generalize eh3 : sR h x0 0 x1 = h2 at E ⊢
  refine Rn.aload_n (pc' := 10) dX7_init_9 rfl 0 rfl rfl ?_
  refine Rn.iload_n (pc' := 11) dX7_init_10 rfl 2 rfl rfl ?_
  refine Rn.putI (pc' := 14) fl_X7_15_6 (fun q hq => by cases hq; decide) (kp_sR eh3 g1) rfl rfl rfl dX7_init_11 rfl ?_
  replace E := wr_of E
  generalize eh5 : sI h2 x0 1 x2 = h4 at E ⊢
  cases E
  exact Rn.vret rfl dX7_init_14
def f_Lines_init_6 (h : Hp) (x0 : Nat) (x1 : Nat) (x2 : Int32) : Option (Hp) := f_Lines_init_6_b0  h x0 x1 x2
theorem f_Lines_init_6_ok {l : Launch} {X : Nat × (Nat → Int32)} (hst : l.stackTraces = false) {h : Hp} {x0 : Nat} {x1 : Nat} {x2 : Int32} {r : Hp} (E : f_Lines_init_6 h x0 x1 x2 = some r) : MC l X yX7_init mX7_init 1 [.ref x0, .ref x1, .int x2] h (eV r) r :=
  MC.body (by decide +kernel) rfl (by decide) hst (Nat.le_of_ble_eq_true rfl) (f_Lines_init_6_b0_ok hst (Nat.le_refl _) E)
abbrev mX6_init : MI := (RX6, cX6_init, 2, none, [], true)
theorem ws_X6_init : ∀ w ∈ wsM yX6_init mX6_init, w ∈ gw := List.forall_mem_cons.mpr ⟨gw_at 228 (by decide +kernel) (by decide +kernel), fun _ h => h⟩
theorem kb_X6_3 : KB RX6 3 yX7_init mX7_init 2 := ⟨gw_at 229 (by decide +kernel) (by decide +kernel), gw_at 109 (by decide +kernel) (by decide +kernel), trivial, ws_X7_init, by decide +kernel, by decide +kernel, by decide +kernel, by decide⟩
theorem fl_X6_9_6 : FL RX6 9 6 3 := ⟨_, rfl, by decide, "VintageWater$LawText", gw_at 230 (by decide +kernel) (by decide +kernel), Or.inl rfl⟩
theorem fl_X6_15_6 : FL RX6 15 6 4 := ⟨_, rfl, by decide, "VintageWater$LawText", gw_at 231 (by decide +kernel) (by decide +kernel), Or.inl rfl⟩
theorem fl_X6_18_6 : FL RX6 18 6 5 := ⟨_, rfl, by decide, "VintageWater$LawText", gw_at 232 (by decide +kernel) (by decide +kernel), Or.inl rfl⟩
def f_LawText_init_b0   (h : Hp) (x0 : Nat) (x1 : Nat)  : Option (Hp) :=
if hS h x0 = 7 then (
bV (f_Lines_init_6 h x0 x1 (12 : Int32)) fun h3 =>
wr (hA h3 20 (ix (12 : Int32)) (ix (12 : Int32))) fun h5 =>
if hS h5 x0 = 7 then (
wr (sR h5 x0 3 (hN h3 + 1)) fun h8 =>
wr (hA h8 20 (ix (12 : Int32)) (ix (12 : Int32))) fun h10 =>
if hS h10 x0 = 7 then (
wr (sR h10 x0 4 (hN h8 + 1)) fun h13 =>
wr (hA h13 20 (ix (400 : Int32)) (ix (400 : Int32))) fun h15 =>
if hS h15 x0 = 7 then (
wr (sR h15 x0 5 (hN h13 + 1)) fun h18 =>
some h18
) else none) else none) else none) else none
set_option maxRecDepth 20000 in
set_option maxHeartbeats 4000000 in
theorem f_LawText_init_b0_ok {l : Launch} {X : Nat × (Nat → Int32)} (hst : l.stackTraces = false) {d : Nat} (hd : 2 ≤ d)     {h : Hp} {x0 : Nat} {x1 : Nat}  {r : Hp} (E : f_LawText_init_b0   h x0 x1 = some r) : Rn l X mX6_init d 0 [(0, .ref x0), (1, .ref x1)] [] h (eV r) r := by
  unfold f_LawText_init_b0 at E
  refine Rn.aload_n (pc' := 1) dX6_init_0 rfl 0 rfl rfl ?_
  refine Rn.aload_n (pc' := 2) dX6_init_1 rfl 1 rfl rfl ?_
  refine Rn.bipush (pc' := 4) (v := (12 : Int32)) (hv := by decide) dX6_init_2 rfl ?_
  obtain ⟨g1, E⟩ := gd_of E
  obtain ⟨h3, e4, E⟩ := bV_of E
  refine Rn.callI1 (pc' := 7) (As := [.ref x1, .int (12 : Int32)]) (rest := []) (f_Lines_init_6_ok hst e4) (Nat.le_trans (by decide) hd) rfl rfl kb_X6_3 kn_X7_init rfl rfl (kp_n0 g1) rfl (Nat.le_of_ble_eq_true rfl) dX6_init_4 rfl ?_
  refine Rn.aload_n (pc' := 8) dX6_init_7 rfl 0 rfl rfl ?_
  refine Rn.bipush (pc' := 10) (v := (12 : Int32)) (hv := by decide) dX6_init_8 rfl ?_
  refine Rn.newa (pc' := 12) (sh := 20) (by decide) (by decide) (by decide) dX6_init_10 rfl ?_
  replace E := wr_of E
  generalize eh6 : hA h3 20 (ix (12 : Int32)) (ix (12 : Int32)) = h5 at E ⊢
  obtain ⟨g7, E⟩ := gd_of E
  refine Rn.putR (pc' := 15) fl_X6_9_6 (fun q hq => by cases hq; decide) g7 rfl rfl dX6_init_12 rfl ?_
  replace E := wr_of E
  generalize eh9 : sR h5 x0 3 (hN h3 + 1) = h8 at E ⊢
  refine Rn.aload_n (pc' := 16) dX6_init_15 rfl 0 rfl rfl ?_
  refine Rn.bipush (pc' := 18) (v := (12 : Int32)) (hv := by decide) dX6_init_16 rfl ?_
  refine Rn.newa (pc' := 20) (sh := 20) (by decide) (by decide) (by decide) dX6_init_18 rfl ?_
  replace E := wr_of E
  generalize eh11 : hA h8 20 (ix (12 : Int32)) (ix (12 : Int32)) = h10 at E ⊢
  obtain ⟨g12, E⟩ := gd_of E
  refine Rn.putR (pc' := 23) fl_X6_15_6 (fun q hq => by cases hq; decide) g12 rfl rfl dX6_init_20 rfl ?_
  replace E := wr_of E
  generalize eh14 : sR h10 x0 4 (hN h8 + 1) = h13 at E ⊢
  refine Rn.aload_n (pc' := 24) dX6_init_23 rfl 0 rfl rfl ?_
  refine Rn.sipush (pc' := 27) (v := (400 : Int32)) (hv := by decide) dX6_init_24 rfl ?_
  refine Rn.newa (pc' := 29) (sh := 20) (by decide) (by decide) (by decide) dX6_init_27 rfl ?_
  replace E := wr_of E
  generalize eh16 : hA h13 20 (ix (400 : Int32)) (ix (400 : Int32)) = h15 at E ⊢
  obtain ⟨g17, E⟩ := gd_of E
  refine Rn.putR (pc' := 32) fl_X6_18_6 (fun q hq => by cases hq; decide) g17 rfl rfl dX6_init_29 rfl ?_
  replace E := wr_of E
  generalize eh19 : sR h15 x0 5 (hN h13 + 1) = h18 at E ⊢
  cases E
  exact Rn.vret rfl dX6_init_32
def f_LawText_init (h : Hp) (x0 : Nat) (x1 : Nat) : Option (Hp) := f_LawText_init_b0  h x0 x1
theorem f_LawText_init_ok {l : Launch} {X : Nat × (Nat → Int32)} (hst : l.stackTraces = false) {h : Hp} {x0 : Nat} {x1 : Nat} {r : Hp} (E : f_LawText_init h x0 x1 = some r) : MC l X yX6_init mX6_init 2 [.ref x0, .ref x1] h (eV r) r :=
  MC.body (by decide +kernel) rfl (by decide) hst (Nat.le_of_ble_eq_true rfl) (f_LawText_init_b0_ok hst (Nat.le_refl _) E)
abbrev mX0_init : MI := (RX0, cX0_init, 1, none, [], true)
theorem ws_X0_init : ∀ w ∈ wsM yX0_init mX0_init, w ∈ gw := List.forall_mem_cons.mpr ⟨gw_at 268 (by decide +kernel) (by decide +kernel), fun _ h => h⟩
theorem ko_X0_3 : Cond.methodLink RX0 3 objectInit ∈ gw := gw_at 269 (by decide +kernel) (by decide +kernel)
theorem fl_X0_9_0 : FL RX0 9 0 6 := ⟨_, rfl, by decide, "VintageWater$Cistern", gw_at 287 (by decide +kernel) (by decide +kernel), Or.inl rfl⟩
def f_Cistern_init_b0   (h : Hp) (x0 : Nat)  : Option (Hp) :=
if hS h x0 = 1 then (
wr (hA h 20 (ix (30 : Int32)) (ix (30 : Int32))) fun h2 =>
if hS h2 x0 = 1 then (
wr (sR h2 x0 6 (hN h + 1)) fun h5 =>
some h5
) else none) else none
set_option maxRecDepth 20000 in
set_option maxHeartbeats 4000000 in
theorem f_Cistern_init_b0_ok {l : Launch} {X : Nat × (Nat → Int32)} (hst : l.stackTraces = false) {d : Nat} (hd : 1 ≤ d)     {h : Hp} {x0 : Nat}  {r : Hp} (E : f_Cistern_init_b0   h x0 = some r) : Rn l X mX0_init d 0 [(0, .ref x0)] [] h (eV r) r := by
  unfold f_Cistern_init_b0 at E
  refine Rn.aload_n (pc' := 1) dX0_init_0 rfl 0 rfl rfl ?_
  obtain ⟨g1, E⟩ := gd_of E
  refine Rn.objI1 (pc' := 4) ko_X0_3 (kp_n0 g1) (Nat.le_of_ble_eq_true rfl) dX0_init_1 rfl ?_
  refine Rn.aload_n (pc' := 5) dX0_init_4 rfl 0 rfl rfl ?_
  refine Rn.bipush (pc' := 7) (v := (30 : Int32)) (hv := by decide) dX0_init_5 rfl ?_
  refine Rn.newa (pc' := 9) (sh := 20) (by decide) (by decide) (by decide) dX0_init_7 rfl ?_
  replace E := wr_of E
  generalize eh3 : hA h 20 (ix (30 : Int32)) (ix (30 : Int32)) = h2 at E ⊢
  obtain ⟨g4, E⟩ := gd_of E
  refine Rn.putR (pc' := 12) fl_X0_9_0 (fun q hq => by cases hq; decide) g4 rfl rfl dX0_init_9 rfl ?_
  replace E := wr_of E
  generalize eh6 : sR h2 x0 6 (hN h + 1) = h5 at E ⊢
  cases E
  exact Rn.vret rfl dX0_init_12
def f_Cistern_init (h : Hp) (x0 : Nat) : Option (Hp) := f_Cistern_init_b0  h x0
theorem f_Cistern_init_ok {l : Launch} {X : Nat × (Nat → Int32)} (hst : l.stackTraces = false) {h : Hp} {x0 : Nat} {r : Hp} (E : f_Cistern_init h x0 = some r) : MC l X yX0_init mX0_init 1 [.ref x0] h (eV r) r :=
  MC.body (by decide +kernel) rfl (by decide) hst (Nat.le_of_ble_eq_true rfl) (f_Cistern_init_b0_ok hst (Nat.le_refl _) E)
abbrev mX2_init : MI := (RX2, cX2_init, 1, none, [], true)
theorem ws_X2_init : ∀ w ∈ wsM yX2_init mX2_init, w ∈ gw := List.forall_mem_cons.mpr ⟨gw_at 308 (by decide +kernel) (by decide +kernel), fun _ h => h⟩
theorem ko_X2_3 : Cond.methodLink RX2 3 objectInit ∈ gw := gw_at 309 (by decide +kernel) (by decide +kernel)
theorem fl_X2_9_2 : FL RX2 9 2 5 := ⟨_, rfl, by decide, "VintageWater$House", gw_at 324 (by decide +kernel) (by decide +kernel), Or.inl rfl⟩
def f_House_init_b0   (h : Hp) (x0 : Nat)  : Option (Hp) :=
if hS h x0 = 3 then (
wr (hA h 20 (ix (30 : Int32)) (ix (30 : Int32))) fun h2 =>
if hS h2 x0 = 3 then (
wr (sR h2 x0 5 (hN h + 1)) fun h5 =>
some h5
) else none) else none
set_option maxRecDepth 20000 in
set_option maxHeartbeats 4000000 in
theorem f_House_init_b0_ok {l : Launch} {X : Nat × (Nat → Int32)} (hst : l.stackTraces = false) {d : Nat} (hd : 1 ≤ d)     {h : Hp} {x0 : Nat}  {r : Hp} (E : f_House_init_b0   h x0 = some r) : Rn l X mX2_init d 0 [(0, .ref x0)] [] h (eV r) r := by
  unfold f_House_init_b0 at E
  refine Rn.aload_n (pc' := 1) dX2_init_0 rfl 0 rfl rfl ?_
  obtain ⟨g1, E⟩ := gd_of E
  refine Rn.objI1 (pc' := 4) ko_X2_3 (kp_n0 g1) (Nat.le_of_ble_eq_true rfl) dX2_init_1 rfl ?_
  refine Rn.aload_n (pc' := 5) dX2_init_4 rfl 0 rfl rfl ?_
  refine Rn.bipush (pc' := 7) (v := (30 : Int32)) (hv := by decide) dX2_init_5 rfl ?_
  refine Rn.newa (pc' := 9) (sh := 20) (by decide) (by decide) (by decide) dX2_init_7 rfl ?_
  replace E := wr_of E
  generalize eh3 : hA h 20 (ix (30 : Int32)) (ix (30 : Int32)) = h2 at E ⊢
  obtain ⟨g4, E⟩ := gd_of E
  refine Rn.putR (pc' := 12) fl_X2_9_2 (fun q hq => by cases hq; decide) g4 rfl rfl dX2_init_9 rfl ?_
  replace E := wr_of E
  generalize eh6 : sR h2 x0 5 (hN h + 1) = h5 at E ⊢
  cases E
  exact Rn.vret rfl dX2_init_12
def f_House_init (h : Hp) (x0 : Nat) : Option (Hp) := f_House_init_b0  h x0
theorem f_House_init_ok {l : Launch} {X : Nat × (Nat → Int32)} (hst : l.stackTraces = false) {h : Hp} {x0 : Nat} {r : Hp} (E : f_House_init h x0 = some r) : MC l X yX2_init mX2_init 1 [.ref x0] h (eV r) r :=
  MC.body (by decide +kernel) rfl (by decide) hst (Nat.le_of_ble_eq_true rfl) (f_House_init_b0_ok hst (Nat.le_refl _) E)
abbrev mX1_init : MI := (RX1, cX1_init, 1, none, [], true)
theorem ws_X1_init : ∀ w ∈ wsM yX1_init mX1_init, w ∈ gw := List.forall_mem_cons.mpr ⟨gw_at 343 (by decide +kernel) (by decide +kernel), fun _ h => h⟩
theorem ko_X1_1 : Cond.methodLink RX1 1 objectInit ∈ gw := gw_at 344 (by decide +kernel) (by decide +kernel)
def f_Debt_init_b0   (h : Hp) (x0 : Nat)  : Option (Hp) :=
if hS h x0 = 2 then (
some h
) else none
set_option maxRecDepth 20000 in
set_option maxHeartbeats 4000000 in
theorem f_Debt_init_b0_ok {l : Launch} {X : Nat × (Nat → Int32)} (hst : l.stackTraces = false) {d : Nat} (hd : 1 ≤ d)     {h : Hp} {x0 : Nat}  {r : Hp} (E : f_Debt_init_b0   h x0 = some r) : Rn l X mX1_init d 0 [(0, .ref x0)] [] h (eV r) r := by
  unfold f_Debt_init_b0 at E
  refine Rn.aload_n (pc' := 1) dX1_init_0 rfl 0 rfl rfl ?_
  obtain ⟨g1, E⟩ := gd_of E
  refine Rn.objI1 (pc' := 4) ko_X1_1 (kp_n0 g1) (Nat.le_of_ble_eq_true rfl) dX1_init_1 rfl ?_
  cases E
  exact Rn.vret rfl dX1_init_4
def f_Debt_init (h : Hp) (x0 : Nat) : Option (Hp) := f_Debt_init_b0  h x0
theorem f_Debt_init_ok {l : Launch} {X : Nat × (Nat → Int32)} (hst : l.stackTraces = false) {h : Hp} {x0 : Nat} {r : Hp} (E : f_Debt_init h x0 = some r) : MC l X yX1_init mX1_init 1 [.ref x0] h (eV r) r :=
  MC.body (by decide +kernel) rfl (by decide) hst (Nat.le_of_ble_eq_true rfl) (f_Debt_init_b0_ok hst (Nat.le_refl _) E)
abbrev mX3_init : MI := (RX3, cX3_init, 2, none, [], true)
theorem ws_X3_init : ∀ w ∈ wsM yX3_init mX3_init, w ∈ gw := List.forall_mem_cons.mpr ⟨gw_at 257 (by decide +kernel) (by decide +kernel), fun _ h => h⟩
theorem fl_X3_25_3 : FL RX3 25 3 5 := ⟨_, rfl, by decide, "VintageWater$Land", gw_at 369 (by decide +kernel) (by decide +kernel), Or.inl rfl⟩
theorem kk_X3_23 : Cond.classLink RX3 23 "VintageWater$Debt" ∈ gw := gw_at 263 (by decide +kernel) (by decide +kernel)
theorem kn_X1_init : Cond.instanceMethod yX1_init ∈ gw := gw_at 342 (by decide +kernel) (by decide +kernel)
def f_Land_init_b108  (k108 : Hp → Nat → Int32 → Option (Hp)) (h : Hp) (x0 : Nat) (x1 : Int32)  : Option (Hp) :=
if (8 : Int32) ≤ x1 then (
some h

) else (
if hS h x0 = 4 then (
wr (hA h 2 0 (nF 1)) fun h3 =>
bV (f_Debt_init h3 (hN h + 1)) fun h6 =>
if hS h6 (hR h x0 5) = 25 then (
if ib x1 (hL h6 (hR h x0 5)) = true then (
if hS h6 (hN h + 1) = 2 then (
wr (sR h6 (hR h x0 5) (ix x1) (hN h + 1)) fun h11 =>
k108 h11 x0 (x1 + (1 : Int32))
) else none) else none) else none) else none
)

set_option maxRecDepth 20000 in
set_option maxHeartbeats 4000000 in
theorem f_Land_init_b108_ok {l : Launch} {X : Nat × (Nat → Int32)} (hst : l.stackTraces = false) {d : Nat} (hd : 2 ≤ d)   {k108 : Hp → Nat → Int32 → Option (Hp)} (hk108 : ∀ (h : Hp) (x0 : Nat) (x1 : Int32)  (r : Hp), k108 h x0 x1 = some r → Rn l X mX3_init d 108 [(0, .ref x0), (1, .int x1)] [] h (eV r) r) {h : Hp} {x0 : Nat} {x1 : Int32}  {r : Hp} (E : f_Land_init_b108  k108 h x0 x1 = some r) : Rn l X mX3_init d 108 [(0, .ref x0), (1, .int x1)] [] h (eV r) r := by
  unfold f_Land_init_b108 at E
  refine Rn.iload_n (pc' := 109) dX3_init_108 rfl 1 rfl rfl ?_
  refine Rn.bipush (pc' := 111) (v := (8 : Int32)) (hv := by decide) dX3_init_109 rfl ?_
  refine Rn.icmp_ge (pc' := 114) (tgt := 133) dX3_init_111 (by decide) rfl (fun c1 => ?_) (fun c1 => ?_)
  · replace E := (if_of E).1 c1
    cases E
    exact Rn.vret rfl dX3_init_133
  · replace E := (if_of E).2 c1
    refine Rn.aload_n (pc' := 115) dX3_init_114 rfl 0 rfl rfl ?_
    obtain ⟨g2, E⟩ := gd_of E
    refine Rn.getR (pc' := 118) fl_X3_25_3 g2 rfl dX3_init_115 rfl ?_
    refine Rn.iload_n (pc' := 119) dX3_init_118 rfl 1 rfl rfl ?_
    refine Rn.new (pc' := 122) (ci := 1) (C0 := "VintageWater$Debt") (by decide) (fun r hr => by cases hr; rfl) kk_X3_23 dX3_init_119 rfl ?_
    replace E := wr_of E
    generalize eh4 : hA h 2 0 (nF 1) = h3 at E ⊢
    refine Rn.dup (pc' := 123) (hc := rfl) dX3_init_122 rfl ?_
    obtain ⟨h6, e7, E⟩ := bV_of E
    refine Rn.callIN1 (pc' := 126) (As := []) (rest := [.ref (hN h + 1), .int x1, .ref (hR h x0 5)]) (host := "VintageWater") (f_Debt_init_ok hst e7) (Nat.le_trans (by decide) hd) rfl rfl (List.mem_of_getElem? (i := 3) rfl) (gw_at 116 (by decide +kernel) (by decide +kernel)) ws_X1_init (by decide +kernel) (by decide) kn_X1_init rfl rfl (kp_n0 (kp_nA eh4)) rfl (Nat.le_of_ble_eq_true rfl) dX3_init_123 rfl ?_
    obtain ⟨g8, E⟩ := gd_of E
    obtain ⟨g9, E⟩ := gd_of E
    obtain ⟨g10, E⟩ := gd_of E
    refine Rn.aast (pc' := 127) (ci := 1) (by unfold QP; decide) g8 g10 g9 dX3_init_126 rfl ?_
    replace E := wr_of E
    generalize eh12 : sR h6 (hR h x0 5) (ix x1) (hN h + 1) = h11 at E ⊢
    refine Rn.iinc (pc' := 130) (v := (x1 + (1 : Int32))) (L' := [(1, .int (x1 + (1 : Int32))), (0, .ref x0)]) dX3_init_127 1 rfl rfl (by decide) rfl rfl ?_
    refine Rn.goto (pc' := 108) dX3_init_130 (by decide) ?_
    refine Rn.sub [1, 0] rfl ?_
    exact hk108 _ _ _ _ E
def f_Land_init_L108   (n : Nat) : Hp → Nat → Int32 → Option (Hp) := Nat.rec (motive := fun _ => Hp → Nat → Int32 → Option (Hp)) (fun _ _ _ => none) (fun _ rec => f_Land_init_b108   rec) n
theorem f_Land_init_L108_ok {l : Launch} {X : Nat × (Nat → Int32)} (hst : l.stackTraces = false) {d : Nat} (hd : 2 ≤ d)     : ∀ (n : Nat) (h : Hp) (x0 : Nat) (x1 : Int32)  (r : Hp), f_Land_init_L108   n h x0 x1 = some r → Rn l X mX3_init d 108 [(0, .ref x0), (1, .int x1)] [] h (eV r) r := by
  intro n
  induction n with
  | zero => intro h x0 x1 r E; cases E
  | succ n ih => intro h x0 x1 r E; exact f_Land_init_b108_ok hst hd   ih E
theorem fl_X3_19_3 : FL RX3 19 3 4 := ⟨_, rfl, by decide, "VintageWater$Land", gw_at 367 (by decide +kernel) (by decide +kernel), Or.inl rfl⟩
theorem kk_X3_17 : Cond.classLink RX3 17 "VintageWater$House" ∈ gw := gw_at 261 (by decide +kernel) (by decide +kernel)
theorem kn_X2_init : Cond.instanceMethod yX2_init ∈ gw := gw_at 307 (by decide +kernel) (by decide +kernel)
def f_Land_init_b81  (k81 : Hp → Nat → Int32 → Option (Hp)) (h : Hp) (x0 : Nat) (x1 : Int32)  : Option (Hp) :=
if (8 : Int32) ≤ x1 then (
f_Land_init_L108   FU h x0 (0 : Int32)

) else (
if hS h x0 = 4 then (
wr (hA h 3 0 (nF 2)) fun h3 =>
bV (f_House_init h3 (hN h + 1)) fun h6 =>
if hS h6 (hR h x0 4) = 24 then (
if ib x1 (hL h6 (hR h x0 4)) = true then (
if hS h6 (hN h + 1) = 3 then (
wr (sR h6 (hR h x0 4) (ix x1) (hN h + 1)) fun h11 =>
k81 h11 x0 (x1 + (1 : Int32))
) else none) else none) else none) else none
)

set_option maxRecDepth 20000 in
set_option maxHeartbeats 4000000 in
theorem f_Land_init_b81_ok {l : Launch} {X : Nat × (Nat → Int32)} (hst : l.stackTraces = false) {d : Nat} (hd : 2 ≤ d)   {k81 : Hp → Nat → Int32 → Option (Hp)} (hk81 : ∀ (h : Hp) (x0 : Nat) (x1 : Int32)  (r : Hp), k81 h x0 x1 = some r → Rn l X mX3_init d 81 [(0, .ref x0), (1, .int x1)] [] h (eV r) r) {h : Hp} {x0 : Nat} {x1 : Int32}  {r : Hp} (E : f_Land_init_b81  k81 h x0 x1 = some r) : Rn l X mX3_init d 81 [(0, .ref x0), (1, .int x1)] [] h (eV r) r := by
  unfold f_Land_init_b81 at E
  refine Rn.iload_n (pc' := 82) dX3_init_81 rfl 1 rfl rfl ?_
  refine Rn.bipush (pc' := 84) (v := (8 : Int32)) (hv := by decide) dX3_init_82 rfl ?_
  refine Rn.icmp_ge (pc' := 87) (tgt := 106) dX3_init_84 (by decide) rfl (fun c1 => ?_) (fun c1 => ?_)
  · replace E := (if_of E).1 c1
    refine Rn.iconst (pc' := 107) (v := (0 : Int32)) (hv := by decide) dX3_init_106 rfl ?_
    refine Rn.istore_n (pc' := 108) (L' := [(1, .int (0 : Int32)), (0, .ref x0)]) dX3_init_107 rfl (by decide) rfl rfl ?_
    refine Rn.sub [1, 0] rfl ?_
    exact f_Land_init_L108_ok hst hd   FU _ _ _ _ E
  · replace E := (if_of E).2 c1
    refine Rn.aload_n (pc' := 88) dX3_init_87 rfl 0 rfl rfl ?_
    obtain ⟨g2, E⟩ := gd_of E
    refine Rn.getR (pc' := 91) fl_X3_19_3 g2 rfl dX3_init_88 rfl ?_
    refine Rn.iload_n (pc' := 92) dX3_init_91 rfl 1 rfl rfl ?_
    refine Rn.new (pc' := 95) (ci := 2) (C0 := "VintageWater$House") (by decide) (fun r hr => by cases hr; rfl) kk_X3_17 dX3_init_92 rfl ?_
    replace E := wr_of E
    generalize eh4 : hA h 3 0 (nF 2) = h3 at E ⊢
    refine Rn.dup (pc' := 96) (hc := rfl) dX3_init_95 rfl ?_
    obtain ⟨h6, e7, E⟩ := bV_of E
    refine Rn.callIN1 (pc' := 99) (As := []) (rest := [.ref (hN h + 1), .int x1, .ref (hR h x0 4)]) (host := "VintageWater") (f_House_init_ok hst e7) (Nat.le_trans (by decide) hd) rfl rfl (List.mem_of_getElem? (i := 2) rfl) (gw_at 115 (by decide +kernel) (by decide +kernel)) ws_X2_init (by decide +kernel) (by decide) kn_X2_init rfl rfl (kp_n0 (kp_nA eh4)) rfl (Nat.le_of_ble_eq_true rfl) dX3_init_96 rfl ?_
    obtain ⟨g8, E⟩ := gd_of E
    obtain ⟨g9, E⟩ := gd_of E
    obtain ⟨g10, E⟩ := gd_of E
    refine Rn.aast (pc' := 100) (ci := 2) (by unfold QP; decide) g8 g10 g9 dX3_init_99 rfl ?_
    replace E := wr_of E
    generalize eh12 : sR h6 (hR h x0 4) (ix x1) (hN h + 1) = h11 at E ⊢
    refine Rn.iinc (pc' := 103) (v := (x1 + (1 : Int32))) (L' := [(1, .int (x1 + (1 : Int32))), (0, .ref x0)]) dX3_init_100 1 rfl rfl (by decide) rfl rfl ?_
    refine Rn.goto (pc' := 81) dX3_init_103 (by decide) ?_
    refine Rn.sub [1, 0] rfl ?_
    exact hk81 _ _ _ _ E
def f_Land_init_L81   (n : Nat) : Hp → Nat → Int32 → Option (Hp) := Nat.rec (motive := fun _ => Hp → Nat → Int32 → Option (Hp)) (fun _ _ _ => none) (fun _ rec => f_Land_init_b81   rec) n
theorem f_Land_init_L81_ok {l : Launch} {X : Nat × (Nat → Int32)} (hst : l.stackTraces = false) {d : Nat} (hd : 2 ≤ d)     : ∀ (n : Nat) (h : Hp) (x0 : Nat) (x1 : Int32)  (r : Hp), f_Land_init_L81   n h x0 x1 = some r → Rn l X mX3_init d 81 [(0, .ref x0), (1, .int x1)] [] h (eV r) r := by
  intro n
  induction n with
  | zero => intro h x0 x1 r E; cases E
  | succ n ih => intro h x0 x1 r E; exact f_Land_init_b81_ok hst hd   ih E
theorem fl_X3_11_3 : FL RX3 11 3 3 := ⟨_, rfl, by decide, "VintageWater$Land", gw_at 365 (by decide +kernel) (by decide +kernel), Or.inl rfl⟩
theorem kk_X3_9 : Cond.classLink RX3 9 "VintageWater$Cistern" ∈ gw := gw_at 259 (by decide +kernel) (by decide +kernel)
theorem kn_X0_init : Cond.instanceMethod yX0_init ∈ gw := gw_at 267 (by decide +kernel) (by decide +kernel)
def f_Land_init_b54  (k54 : Hp → Nat → Int32 → Option (Hp)) (h : Hp) (x0 : Nat) (x1 : Int32)  : Option (Hp) :=
if (8 : Int32) ≤ x1 then (
f_Land_init_L81   FU h x0 (0 : Int32)

) else (
if hS h x0 = 4 then (
wr (hA h 1 0 (nF 0)) fun h3 =>
bV (f_Cistern_init h3 (hN h + 1)) fun h6 =>
if hS h6 (hR h x0 3) = 23 then (
if ib x1 (hL h6 (hR h x0 3)) = true then (
if hS h6 (hN h + 1) = 1 then (
wr (sR h6 (hR h x0 3) (ix x1) (hN h + 1)) fun h11 =>
k54 h11 x0 (x1 + (1 : Int32))
) else none) else none) else none) else none
)

set_option maxRecDepth 20000 in
set_option maxHeartbeats 4000000 in
theorem f_Land_init_b54_ok {l : Launch} {X : Nat × (Nat → Int32)} (hst : l.stackTraces = false) {d : Nat} (hd : 2 ≤ d)   {k54 : Hp → Nat → Int32 → Option (Hp)} (hk54 : ∀ (h : Hp) (x0 : Nat) (x1 : Int32)  (r : Hp), k54 h x0 x1 = some r → Rn l X mX3_init d 54 [(0, .ref x0), (1, .int x1)] [] h (eV r) r) {h : Hp} {x0 : Nat} {x1 : Int32}  {r : Hp} (E : f_Land_init_b54  k54 h x0 x1 = some r) : Rn l X mX3_init d 54 [(0, .ref x0), (1, .int x1)] [] h (eV r) r := by
  unfold f_Land_init_b54 at E
  refine Rn.iload_n (pc' := 55) dX3_init_54 rfl 1 rfl rfl ?_
  refine Rn.bipush (pc' := 57) (v := (8 : Int32)) (hv := by decide) dX3_init_55 rfl ?_
  refine Rn.icmp_ge (pc' := 60) (tgt := 79) dX3_init_57 (by decide) rfl (fun c1 => ?_) (fun c1 => ?_)
  · replace E := (if_of E).1 c1
    refine Rn.iconst (pc' := 80) (v := (0 : Int32)) (hv := by decide) dX3_init_79 rfl ?_
    refine Rn.istore_n (pc' := 81) (L' := [(1, .int (0 : Int32)), (0, .ref x0)]) dX3_init_80 rfl (by decide) rfl rfl ?_
    refine Rn.sub [1, 0] rfl ?_
    exact f_Land_init_L81_ok hst hd   FU _ _ _ _ E
  · replace E := (if_of E).2 c1
    refine Rn.aload_n (pc' := 61) dX3_init_60 rfl 0 rfl rfl ?_
    obtain ⟨g2, E⟩ := gd_of E
    refine Rn.getR (pc' := 64) fl_X3_11_3 g2 rfl dX3_init_61 rfl ?_
    refine Rn.iload_n (pc' := 65) dX3_init_64 rfl 1 rfl rfl ?_
    refine Rn.new (pc' := 68) (ci := 0) (C0 := "VintageWater$Cistern") (by decide) (fun r hr => by cases hr; rfl) kk_X3_9 dX3_init_65 rfl ?_
    replace E := wr_of E
    generalize eh4 : hA h 1 0 (nF 0) = h3 at E ⊢
    refine Rn.dup (pc' := 69) (hc := rfl) dX3_init_68 rfl ?_
    obtain ⟨h6, e7, E⟩ := bV_of E
    refine Rn.callIN1 (pc' := 72) (As := []) (rest := [.ref (hN h + 1), .int x1, .ref (hR h x0 3)]) (host := "VintageWater") (f_Cistern_init_ok hst e7) (Nat.le_trans (by decide) hd) rfl rfl (List.mem_of_getElem? (i := 1) rfl) (gw_at 114 (by decide +kernel) (by decide +kernel)) ws_X0_init (by decide +kernel) (by decide) kn_X0_init rfl rfl (kp_n0 (kp_nA eh4)) rfl (Nat.le_of_ble_eq_true rfl) dX3_init_69 rfl ?_
    obtain ⟨g8, E⟩ := gd_of E
    obtain ⟨g9, E⟩ := gd_of E
    obtain ⟨g10, E⟩ := gd_of E
    refine Rn.aast (pc' := 73) (ci := 0) (by unfold QP; decide) g8 g10 g9 dX3_init_72 rfl ?_
    replace E := wr_of E
    generalize eh12 : sR h6 (hR h x0 3) (ix x1) (hN h + 1) = h11 at E ⊢
    refine Rn.iinc (pc' := 76) (v := (x1 + (1 : Int32))) (L' := [(1, .int (x1 + (1 : Int32))), (0, .ref x0)]) dX3_init_73 1 rfl rfl (by decide) rfl rfl ?_
    refine Rn.goto (pc' := 54) dX3_init_76 (by decide) ?_
    refine Rn.sub [1, 0] rfl ?_
    exact hk54 _ _ _ _ E
def f_Land_init_L54   (n : Nat) : Hp → Nat → Int32 → Option (Hp) := Nat.rec (motive := fun _ => Hp → Nat → Int32 → Option (Hp)) (fun _ _ _ => none) (fun _ rec => f_Land_init_b54   rec) n
theorem f_Land_init_L54_ok {l : Launch} {X : Nat × (Nat → Int32)} (hst : l.stackTraces = false) {d : Nat} (hd : 2 ≤ d)     : ∀ (n : Nat) (h : Hp) (x0 : Nat) (x1 : Int32)  (r : Hp), f_Land_init_L54   n h x0 x1 = some r → Rn l X mX3_init d 54 [(0, .ref x0), (1, .int x1)] [] h (eV r) r := by
  intro n
  induction n with
  | zero => intro h x0 x1 r E; cases E
  | succ n ih => intro h x0 x1 r E; exact f_Land_init_b54_ok hst hd   ih E
theorem ko_X3_3 : Cond.methodLink RX3 3 objectInit ∈ gw := gw_at 258 (by decide +kernel) (by decide +kernel)
theorem fl_X3_29_3 : FL RX3 29 3 6 := ⟨_, rfl, by decide, "VintageWater$Land", gw_at 371 (by decide +kernel) (by decide +kernel), Or.inl rfl⟩
theorem fl_X3_33_3 : FL RX3 33 3 7 := ⟨_, rfl, by decide, "VintageWater$Land", gw_at 373 (by decide +kernel) (by decide +kernel), Or.inl rfl⟩
theorem fl_X3_36_3 : FL RX3 36 3 11 := ⟨_, rfl, by decide, "VintageWater$Land", gw_at 380 (by decide +kernel) (by decide +kernel), Or.inl rfl⟩
def f_Land_init_b0   (h : Hp) (x0 : Nat)  : Option (Hp) :=
if hS h x0 = 4 then (
wr (hA h 23 (ix (8 : Int32)) (ix (8 : Int32))) fun h2 =>
if hS h2 x0 = 4 then (
wr (sR h2 x0 3 (hN h + 1)) fun h5 =>
wr (hA h5 24 (ix (8 : Int32)) (ix (8 : Int32))) fun h7 =>
if hS h7 x0 = 4 then (
wr (sR h7 x0 4 (hN h5 + 1)) fun h10 =>
wr (hA h10 25 (ix (8 : Int32)) (ix (8 : Int32))) fun h12 =>
if hS h12 x0 = 4 then (
wr (sR h12 x0 5 (hN h10 + 1)) fun h15 =>
wr (hA h15 20 (ix (30 : Int32)) (ix (30 : Int32))) fun h17 =>
if hS h17 x0 = 4 then (
wr (sR h17 x0 6 (hN h15 + 1)) fun h20 =>
wr (hA h20 20 (ix (30 : Int32)) (ix (30 : Int32))) fun h22 =>
if hS h22 x0 = 4 then (
wr (sR h22 x0 7 (hN h20 + 1)) fun h25 =>
wr (sI h25 x0 11 (1 : Int32)) fun h27 =>
f_Land_init_L54   FU h27 x0 (0 : Int32)
) else none) else none) else none) else none) else none) else none
set_option maxRecDepth 20000 in
set_option maxHeartbeats 4000000 in
theorem f_Land_init_b0_ok {l : Launch} {X : Nat × (Nat → Int32)} (hst : l.stackTraces = false) {d : Nat} (hd : 2 ≤ d)     {h : Hp} {x0 : Nat}  {r : Hp} (E : f_Land_init_b0   h x0 = some r) : Rn l X mX3_init d 0 [(0, .ref x0)] [] h (eV r) r := by
  unfold f_Land_init_b0 at E
  refine Rn.aload_n (pc' := 1) dX3_init_0 rfl 0 rfl rfl ?_
  obtain ⟨g1, E⟩ := gd_of E
  refine Rn.objI1 (pc' := 4) ko_X3_3 (kp_n0 g1) (Nat.le_of_ble_eq_true rfl) dX3_init_1 rfl ?_
  refine Rn.aload_n (pc' := 5) dX3_init_4 rfl 0 rfl rfl ?_
  refine Rn.bipush (pc' := 7) (v := (8 : Int32)) (hv := by decide) dX3_init_5 rfl ?_
  refine Rn.anew (pc' := 10) (sh := 23) (ci := 0) (C0 := "VintageWater$Cistern") (by unfold QP; decide) (fun r hr => by cases hr; rfl) (by decide) kk_X3_9 (by decide) (by decide) dX3_init_7 rfl ?_
  replace E := wr_of E
  generalize eh3 : hA h 23 (ix (8 : Int32)) (ix (8 : Int32)) = h2 at E ⊢
  obtain ⟨g4, E⟩ := gd_of E
  refine Rn.putR (pc' := 13) fl_X3_11_3 (fun q hq => by cases hq; decide) g4 rfl rfl dX3_init_10 rfl ?_
  replace E := wr_of E
  generalize eh6 : sR h2 x0 3 (hN h + 1) = h5 at E ⊢
  refine Rn.aload_n (pc' := 14) dX3_init_13 rfl 0 rfl rfl ?_
  refine Rn.bipush (pc' := 16) (v := (8 : Int32)) (hv := by decide) dX3_init_14 rfl ?_
  refine Rn.anew (pc' := 19) (sh := 24) (ci := 2) (C0 := "VintageWater$House") (by unfold QP; decide) (fun r hr => by cases hr; rfl) (by decide) kk_X3_17 (by decide) (by decide) dX3_init_16 rfl ?_
  replace E := wr_of E
  generalize eh8 : hA h5 24 (ix (8 : Int32)) (ix (8 : Int32)) = h7 at E ⊢
  obtain ⟨g9, E⟩ := gd_of E
  refine Rn.putR (pc' := 22) fl_X3_19_3 (fun q hq => by cases hq; decide) g9 rfl rfl dX3_init_19 rfl ?_
  replace E := wr_of E
  generalize eh11 : sR h7 x0 4 (hN h5 + 1) = h10 at E ⊢
  refine Rn.aload_n (pc' := 23) dX3_init_22 rfl 0 rfl rfl ?_
  refine Rn.bipush (pc' := 25) (v := (8 : Int32)) (hv := by decide) dX3_init_23 rfl ?_
  refine Rn.anew (pc' := 28) (sh := 25) (ci := 1) (C0 := "VintageWater$Debt") (by unfold QP; decide) (fun r hr => by cases hr; rfl) (by decide) kk_X3_23 (by decide) (by decide) dX3_init_25 rfl ?_
  replace E := wr_of E
  generalize eh13 : hA h10 25 (ix (8 : Int32)) (ix (8 : Int32)) = h12 at E ⊢
  obtain ⟨g14, E⟩ := gd_of E
  refine Rn.putR (pc' := 31) fl_X3_25_3 (fun q hq => by cases hq; decide) g14 rfl rfl dX3_init_28 rfl ?_
  replace E := wr_of E
  generalize eh16 : sR h12 x0 5 (hN h10 + 1) = h15 at E ⊢
  refine Rn.aload_n (pc' := 32) dX3_init_31 rfl 0 rfl rfl ?_
  refine Rn.bipush (pc' := 34) (v := (30 : Int32)) (hv := by decide) dX3_init_32 rfl ?_
  refine Rn.newa (pc' := 36) (sh := 20) (by decide) (by decide) (by decide) dX3_init_34 rfl ?_
  replace E := wr_of E
  generalize eh18 : hA h15 20 (ix (30 : Int32)) (ix (30 : Int32)) = h17 at E ⊢
  obtain ⟨g19, E⟩ := gd_of E
  refine Rn.putR (pc' := 39) fl_X3_29_3 (fun q hq => by cases hq; decide) g19 rfl rfl dX3_init_36 rfl ?_
  replace E := wr_of E
  generalize eh21 : sR h17 x0 6 (hN h15 + 1) = h20 at E ⊢
  refine Rn.aload_n (pc' := 40) dX3_init_39 rfl 0 rfl rfl ?_
  refine Rn.bipush (pc' := 42) (v := (30 : Int32)) (hv := by decide) dX3_init_40 rfl ?_
  refine Rn.newa (pc' := 44) (sh := 20) (by decide) (by decide) (by decide) dX3_init_42 rfl ?_
  replace E := wr_of E
  generalize eh23 : hA h20 20 (ix (30 : Int32)) (ix (30 : Int32)) = h22 at E ⊢
  obtain ⟨g24, E⟩ := gd_of E
  refine Rn.putR (pc' := 47) fl_X3_33_3 (fun q hq => by cases hq; decide) g24 rfl rfl dX3_init_44 rfl ?_
  replace E := wr_of E
  generalize eh26 : sR h22 x0 7 (hN h20 + 1) = h25 at E ⊢
  refine Rn.aload_n (pc' := 48) dX3_init_47 rfl 0 rfl rfl ?_
  refine Rn.iconst (pc' := 49) (v := (1 : Int32)) (hv := by decide) dX3_init_48 rfl ?_
  refine Rn.putI (pc' := 52) fl_X3_36_3 (fun q hq => by cases hq; decide) (kp_sR eh26 g24) rfl rfl rfl dX3_init_49 rfl ?_
  replace E := wr_of E
  generalize eh28 : sI h25 x0 11 (1 : Int32) = h27 at E ⊢
  refine Rn.iconst (pc' := 53) (v := (0 : Int32)) (hv := by decide) dX3_init_52 rfl ?_
  refine Rn.istore_n (pc' := 54) (L' := [(1, .int (0 : Int32)), (0, .ref x0)]) dX3_init_53 rfl (by decide) rfl rfl ?_
  refine Rn.sub [1, 0] rfl ?_
  exact f_Land_init_L54_ok hst hd   FU _ _ _ _ E
def f_Land_init (h : Hp) (x0 : Nat) : Option (Hp) := f_Land_init_b0  h x0
theorem f_Land_init_ok {l : Launch} {X : Nat × (Nat → Int32)} (hst : l.stackTraces = false) {h : Hp} {x0 : Nat} {r : Hp} (E : f_Land_init h x0 = some r) : MC l X yX3_init mX3_init 2 [.ref x0] h (eV r) r :=
  MC.body (by decide +kernel) rfl (by decide) hst (Nat.le_of_ble_eq_true rfl) (f_Land_init_b0_ok hst (Nat.le_refl _) E)
abbrev mX8_init : MI := (RX8, cX8_init, 2, none, [], true)
theorem ws_X8_init : ∀ w ∈ wsM yX8_init mX8_init, w ∈ gw := List.forall_mem_cons.mpr ⟨gw_at 250 (by decide +kernel) (by decide +kernel), fun _ h => h⟩
theorem fl_X8_11_7 : FL RX8 11 7 0 := ⟨_, rfl, by decide, "VintageWater$Memory", gw_at 422 (by decide +kernel) (by decide +kernel), Or.inl rfl⟩
theorem kk_X8_9 : Cond.classLink RX8 9 "VintageWater$Land" ∈ gw := gw_at 252 (by decide +kernel) (by decide +kernel)
theorem kb_X8_17 : KB RX8 17 yX3_init mX3_init 0 := ⟨gw_at 255 (by decide +kernel) (by decide +kernel), gw_at 113 (by decide +kernel) (by decide +kernel), trivial, ws_X3_init, by decide +kernel, by decide +kernel, by decide +kernel, by decide⟩
theorem kn_X3_init : Cond.instanceMethod yX3_init ∈ gw := gw_at 256 (by decide +kernel) (by decide +kernel)
def f_Memory_init_b15  (k15 : Hp → Nat → Int32 → Option (Hp)) (h : Hp) (x0 : Nat) (x1 : Int32)  : Option (Hp) :=
if (12 : Int32) ≤ x1 then (
some h

) else (
if hS h x0 = 8 then (
wr (hA h 4 0 (nF 3)) fun h3 =>
bV (f_Land_init h3 (hN h + 1)) fun h6 =>
if hS h6 (hR h x0 0) = 26 then (
if ib x1 (hL h6 (hR h x0 0)) = true then (
if hS h6 (hN h + 1) = 4 then (
wr (sR h6 (hR h x0 0) (ix x1) (hN h + 1)) fun h11 =>
k15 h11 x0 (x1 + (1 : Int32))
) else none) else none) else none) else none
)

set_option maxRecDepth 20000 in
set_option maxHeartbeats 4000000 in
theorem f_Memory_init_b15_ok {l : Launch} {X : Nat × (Nat → Int32)} (hst : l.stackTraces = false) {d : Nat} (hd : 3 ≤ d)   {k15 : Hp → Nat → Int32 → Option (Hp)} (hk15 : ∀ (h : Hp) (x0 : Nat) (x1 : Int32)  (r : Hp), k15 h x0 x1 = some r → Rn l X mX8_init d 15 [(0, .ref x0), (1, .int x1)] [] h (eV r) r) {h : Hp} {x0 : Nat} {x1 : Int32}  {r : Hp} (E : f_Memory_init_b15  k15 h x0 x1 = some r) : Rn l X mX8_init d 15 [(0, .ref x0), (1, .int x1)] [] h (eV r) r := by
  unfold f_Memory_init_b15 at E
  refine Rn.iload_n (pc' := 16) dX8_init_15 rfl 1 rfl rfl ?_
  refine Rn.bipush (pc' := 18) (v := (12 : Int32)) (hv := by decide) dX8_init_16 rfl ?_
  refine Rn.icmp_ge (pc' := 21) (tgt := 40) dX8_init_18 (by decide) rfl (fun c1 => ?_) (fun c1 => ?_)
  · replace E := (if_of E).1 c1
    cases E
    exact Rn.vret rfl dX8_init_40
  · replace E := (if_of E).2 c1
    refine Rn.aload_n (pc' := 22) dX8_init_21 rfl 0 rfl rfl ?_
    obtain ⟨g2, E⟩ := gd_of E
    refine Rn.getR (pc' := 25) fl_X8_11_7 g2 rfl dX8_init_22 rfl ?_
    refine Rn.iload_n (pc' := 26) dX8_init_25 rfl 1 rfl rfl ?_
    refine Rn.new (pc' := 29) (ci := 3) (C0 := "VintageWater$Land") (by decide) (fun r hr => by cases hr; rfl) kk_X8_9 dX8_init_26 rfl ?_
    replace E := wr_of E
    generalize eh4 : hA h 4 0 (nF 3) = h3 at E ⊢
    refine Rn.dup (pc' := 30) (hc := rfl) dX8_init_29 rfl ?_
    obtain ⟨h6, e7, E⟩ := bV_of E
    refine Rn.callI1 (pc' := 33) (As := []) (rest := [.ref (hN h + 1), .int x1, .ref (hR h x0 0)]) (f_Land_init_ok hst e7) (Nat.le_trans (by decide) hd) rfl rfl kb_X8_17 kn_X3_init rfl rfl (kp_n0 (kp_nA eh4)) rfl (Nat.le_of_ble_eq_true rfl) dX8_init_30 rfl ?_
    obtain ⟨g8, E⟩ := gd_of E
    obtain ⟨g9, E⟩ := gd_of E
    obtain ⟨g10, E⟩ := gd_of E
    refine Rn.aast (pc' := 34) (ci := 3) (by unfold QP; decide) g8 g10 g9 dX8_init_33 rfl ?_
    replace E := wr_of E
    generalize eh12 : sR h6 (hR h x0 0) (ix x1) (hN h + 1) = h11 at E ⊢
    refine Rn.iinc (pc' := 37) (v := (x1 + (1 : Int32))) (L' := [(1, .int (x1 + (1 : Int32))), (0, .ref x0)]) dX8_init_34 1 rfl rfl (by decide) rfl rfl ?_
    refine Rn.goto (pc' := 15) dX8_init_37 (by decide) ?_
    refine Rn.sub [1, 0] rfl ?_
    exact hk15 _ _ _ _ E
def f_Memory_init_L15   (n : Nat) : Hp → Nat → Int32 → Option (Hp) := Nat.rec (motive := fun _ => Hp → Nat → Int32 → Option (Hp)) (fun _ _ _ => none) (fun _ rec => f_Memory_init_b15   rec) n
theorem f_Memory_init_L15_ok {l : Launch} {X : Nat × (Nat → Int32)} (hst : l.stackTraces = false) {d : Nat} (hd : 3 ≤ d)     : ∀ (n : Nat) (h : Hp) (x0 : Nat) (x1 : Int32)  (r : Hp), f_Memory_init_L15   n h x0 x1 = some r → Rn l X mX8_init d 15 [(0, .ref x0), (1, .int x1)] [] h (eV r) r := by
  intro n
  induction n with
  | zero => intro h x0 x1 r E; cases E
  | succ n ih => intro h x0 x1 r E; exact f_Memory_init_b15_ok hst hd   ih E
theorem ko_X8_3 : Cond.methodLink RX8 3 objectInit ∈ gw := gw_at 251 (by decide +kernel) (by decide +kernel)
def f_Memory_init_b0   (h : Hp) (x0 : Nat)  : Option (Hp) :=
if hS h x0 = 8 then (
wr (hA h 26 (ix (12 : Int32)) (ix (12 : Int32))) fun h2 =>
if hS h2 x0 = 8 then (
wr (sR h2 x0 0 (hN h + 1)) fun h5 =>
f_Memory_init_L15   FU h5 x0 (0 : Int32)
) else none) else none
set_option maxRecDepth 20000 in
set_option maxHeartbeats 4000000 in
theorem f_Memory_init_b0_ok {l : Launch} {X : Nat × (Nat → Int32)} (hst : l.stackTraces = false) {d : Nat} (hd : 3 ≤ d)     {h : Hp} {x0 : Nat}  {r : Hp} (E : f_Memory_init_b0   h x0 = some r) : Rn l X mX8_init d 0 [(0, .ref x0)] [] h (eV r) r := by
  unfold f_Memory_init_b0 at E
  refine Rn.aload_n (pc' := 1) dX8_init_0 rfl 0 rfl rfl ?_
  obtain ⟨g1, E⟩ := gd_of E
  refine Rn.objI1 (pc' := 4) ko_X8_3 (kp_n0 g1) (Nat.le_of_ble_eq_true rfl) dX8_init_1 rfl ?_
  refine Rn.aload_n (pc' := 5) dX8_init_4 rfl 0 rfl rfl ?_
  refine Rn.bipush (pc' := 7) (v := (12 : Int32)) (hv := by decide) dX8_init_5 rfl ?_
  refine Rn.anew (pc' := 10) (sh := 26) (ci := 3) (C0 := "VintageWater$Land") (by unfold QP; decide) (fun r hr => by cases hr; rfl) (by decide) kk_X8_9 (by decide) (by decide) dX8_init_7 rfl ?_
  replace E := wr_of E
  generalize eh3 : hA h 26 (ix (12 : Int32)) (ix (12 : Int32)) = h2 at E ⊢
  obtain ⟨g4, E⟩ := gd_of E
  refine Rn.putR (pc' := 13) fl_X8_11_7 (fun q hq => by cases hq; decide) g4 rfl rfl dX8_init_10 rfl ?_
  replace E := wr_of E
  generalize eh6 : sR h2 x0 0 (hN h + 1) = h5 at E ⊢
  refine Rn.iconst (pc' := 14) (v := (0 : Int32)) (hv := by decide) dX8_init_13 rfl ?_
  refine Rn.istore_n (pc' := 15) (L' := [(1, .int (0 : Int32)), (0, .ref x0)]) dX8_init_14 rfl (by decide) rfl rfl ?_
  refine Rn.sub [1, 0] rfl ?_
  exact f_Memory_init_L15_ok hst hd   FU _ _ _ _ E
def f_Memory_init (h : Hp) (x0 : Nat) : Option (Hp) := f_Memory_init_b0  h x0
theorem f_Memory_init_ok {l : Launch} {X : Nat × (Nat → Int32)} (hst : l.stackTraces = false) {h : Hp} {x0 : Nat} {r : Hp} (E : f_Memory_init h x0 = some r) : MC l X yX8_init mX8_init 3 [.ref x0] h (eV r) r :=
  MC.body (by decide +kernel) rfl (by decide) hst (Nat.le_of_ble_eq_true rfl) (f_Memory_init_b0_ok hst (Nat.le_refl _) E)
abbrev mX10_init : MI := (RX10, cX10_init, 1, none, [], true)
theorem ws_X10_init : ∀ w ∈ wsM yX10_init mX10_init, w ∈ gw := List.forall_mem_cons.mpr ⟨gw_at 138 (by decide +kernel) (by decide +kernel), fun _ h => h⟩
theorem ko_X10_3 : Cond.methodLink RX10 3 objectInit ∈ gw := gw_at 139 (by decide +kernel) (by decide +kernel)
theorem kk_X10_9 : Cond.classLink RX10 9 "VintageWater$Tape" ∈ gw := gw_at 142 (by decide +kernel) (by decide +kernel)
theorem kn_X9_init : Cond.instanceMethod yX9_init ∈ gw := gw_at 145 (by decide +kernel) (by decide +kernel)
theorem fl_X10_12_9 : FL RX10 12 9 0 := ⟨_, rfl, by decide, "VintageWater", gw_at 435 (by decide +kernel) (by decide +kernel), Or.inl rfl⟩
theorem kk_X10_16 : Cond.classLink RX10 16 "VintageWater$LandText" ∈ gw := gw_at 171 (by decide +kernel) (by decide +kernel)
theorem kb_X10_18 : KB RX10 18 yX4_init mX4_init 1 := ⟨gw_at 173 (by decide +kernel) (by decide +kernel), gw_at 110 (by decide +kernel) (by decide +kernel), trivial, ws_X4_init, by decide +kernel, by decide +kernel, by decide +kernel, by decide⟩
theorem kn_X4_init : Cond.instanceMethod yX4_init ∈ gw := gw_at 174 (by decide +kernel) (by decide +kernel)
theorem fl_X10_21_9 : FL RX10 21 9 1 := ⟨_, rfl, by decide, "VintageWater", gw_at 436 (by decide +kernel) (by decide +kernel), Or.inl rfl⟩
theorem kk_X10_25 : Cond.classLink RX10 25 "VintageWater$LawText" ∈ gw := gw_at 224 (by decide +kernel) (by decide +kernel)
theorem kb_X10_27 : KB RX10 27 yX6_init mX6_init 1 := ⟨gw_at 226 (by decide +kernel) (by decide +kernel), gw_at 111 (by decide +kernel) (by decide +kernel), trivial, ws_X6_init, by decide +kernel, by decide +kernel, by decide +kernel, by decide⟩
theorem kn_X6_init : Cond.instanceMethod yX6_init ∈ gw := gw_at 227 (by decide +kernel) (by decide +kernel)
theorem fl_X10_28_9 : FL RX10 28 9 2 := ⟨_, rfl, by decide, "VintageWater", gw_at 437 (by decide +kernel) (by decide +kernel), Or.inl rfl⟩
theorem kk_X10_32 : Cond.classLink RX10 32 "VintageWater$Memory" ∈ gw := gw_at 246 (by decide +kernel) (by decide +kernel)
theorem kb_X10_34 : KB RX10 34 yX8_init mX8_init 0 := ⟨gw_at 248 (by decide +kernel) (by decide +kernel), gw_at 112 (by decide +kernel) (by decide +kernel), trivial, ws_X8_init, by decide +kernel, by decide +kernel, by decide +kernel, by decide⟩
theorem kn_X8_init : Cond.instanceMethod yX8_init ∈ gw := gw_at 249 (by decide +kernel) (by decide +kernel)
theorem fl_X10_35_9 : FL RX10 35 9 3 := ⟨_, rfl, by decide, "VintageWater", gw_at 438 (by decide +kernel) (by decide +kernel), Or.inl rfl⟩
theorem kk_X10_39 : Cond.classLink RX10 39 "VintageWater$Land" ∈ gw := gw_at 433 (by decide +kernel) (by decide +kernel)
theorem kb_X10_41 : KB RX10 41 yX3_init mX3_init 0 := ⟨gw_at 434 (by decide +kernel) (by decide +kernel), gw_at 113 (by decide +kernel) (by decide +kernel), trivial, ws_X3_init, by decide +kernel, by decide +kernel, by decide +kernel, by decide⟩
theorem fl_X10_42_9 : FL RX10 42 9 4 := ⟨_, rfl, by decide, "VintageWater", gw_at 439 (by decide +kernel) (by decide +kernel), Or.inl rfl⟩
theorem fl_X10_46_9 : FL RX10 46 9 5 := ⟨_, rfl, by decide, "VintageWater", gw_at 440 (by decide +kernel) (by decide +kernel), Or.inl rfl⟩
theorem fl_X10_49_9 : FL RX10 49 9 6 := ⟨_, rfl, by decide, "VintageWater", gw_at 441 (by decide +kernel) (by decide +kernel), Or.inl rfl⟩
theorem fl_X10_52_9 : FL RX10 52 9 7 := ⟨_, rfl, by decide, "VintageWater", gw_at 442 (by decide +kernel) (by decide +kernel), Or.inl rfl⟩
theorem fl_X10_55_9 : FL RX10 55 9 8 := ⟨_, rfl, by decide, "VintageWater", gw_at 443 (by decide +kernel) (by decide +kernel), Or.inl rfl⟩
theorem fl_X10_59_9 : FL RX10 59 9 9 := ⟨_, rfl, by decide, "VintageWater", gw_at 444 (by decide +kernel) (by decide +kernel), Or.inl rfl⟩
theorem fl_X10_62_9 : FL RX10 62 9 11 := ⟨_, rfl, by decide, "VintageWater", gw_at 446 (by decide +kernel) (by decide +kernel), Or.inl rfl⟩
def f_Water_init_b0   (h : Hp) (x0 : Nat)  : Option (Hp) :=
if hS h x0 = 10 then (
wr (hA h 9 0 (nF 8)) fun h2 =>
bV (f_Tape_init h2 (hN h + 1)) fun h5 =>
if hS h5 x0 = 10 then (
wr (sR h5 x0 0 (hN h + 1)) fun h8 =>
wr (hA h8 5 0 (nF 4)) fun h10 =>
if hS h10 x0 = 10 then (
bV (f_LandText_init h10 (hN h8 + 1) (hR h10 x0 0)) fun h14 =>
if hS h14 x0 = 10 then (
wr (sR h14 x0 1 (hN h8 + 1)) fun h17 =>
wr (hA h17 7 0 (nF 6)) fun h19 =>
if hS h19 x0 = 10 then (
bV (f_LawText_init h19 (hN h17 + 1) (hR h19 x0 0)) fun h23 =>
if hS h23 x0 = 10 then (
wr (sR h23 x0 2 (hN h17 + 1)) fun h26 =>
wr (hA h26 8 0 (nF 7)) fun h28 =>
bV (f_Memory_init h28 (hN h26 + 1)) fun h31 =>
if hS h31 x0 = 10 then (
wr (sR h31 x0 3 (hN h26 + 1)) fun h34 =>
wr (hA h34 4 0 (nF 3)) fun h36 =>
bV (f_Land_init h36 (hN h34 + 1)) fun h39 =>
if hS h39 x0 = 10 then (
wr (sR h39 x0 4 (hN h34 + 1)) fun h42 =>
wr (hA h42 4 0 (nF 3)) fun h44 =>
bV (f_Land_init h44 (hN h42 + 1)) fun h47 =>
if hS h47 x0 = 10 then (
wr (sR h47 x0 5 (hN h42 + 1)) fun h50 =>
wr (hA h50 4 0 (nF 3)) fun h52 =>
bV (f_Land_init h52 (hN h50 + 1)) fun h55 =>
if hS h55 x0 = 10 then (
wr (sR h55 x0 6 (hN h50 + 1)) fun h58 =>
wr (hA h58 4 0 (nF 3)) fun h60 =>
bV (f_Land_init h60 (hN h58 + 1)) fun h63 =>
if hS h63 x0 = 10 then (
wr (sR h63 x0 7 (hN h58 + 1)) fun h66 =>
wr (hA h66 20 (ix (8 : Int32)) (ix (8 : Int32))) fun h68 =>
if hS h68 x0 = 10 then (
wr (sR h68 x0 8 (hN h66 + 1)) fun h71 =>
wr (hA h71 20 (ix (30 : Int32)) (ix (30 : Int32))) fun h73 =>
if hS h73 x0 = 10 then (
wr (sR h73 x0 9 (hN h71 + 1)) fun h76 =>
wr (sI h76 x0 11 (-1 : Int32)) fun h78 =>
some h78
) else none) else none) else none) else none) else none) else none) else none) else none) else none) else none) else none) else none) else none
set_option maxRecDepth 20000 in
set_option maxHeartbeats 4000000 in
theorem f_Water_init_b0_ok {l : Launch} {X : Nat × (Nat → Int32)} (hst : l.stackTraces = false) {d : Nat} (hd : 4 ≤ d)     {h : Hp} {x0 : Nat}  {r : Hp} (E : f_Water_init_b0   h x0 = some r) : Rn l X mX10_init d 0 [(0, .ref x0)] [] h (eV r) r := by
  unfold f_Water_init_b0 at E
  refine Rn.aload_n (pc' := 1) dX10_init_0 rfl 0 rfl rfl ?_
  obtain ⟨g1, E⟩ := gd_of E
  refine Rn.objI1 (pc' := 4) ko_X10_3 (kp_n0 g1) (Nat.le_of_ble_eq_true rfl) dX10_init_1 rfl ?_
  refine Rn.aload_n (pc' := 5) dX10_init_4 rfl 0 rfl rfl ?_
  refine Rn.new (pc' := 8) (ci := 8) (C0 := "VintageWater$Tape") (by decide) (fun r hr => by cases hr; rfl) kk_X10_9 dX10_init_5 rfl ?_
  replace E := wr_of E
  generalize eh3 : hA h 9 0 (nF 8) = h2 at E ⊢
  refine Rn.dup (pc' := 9) (hc := rfl) dX10_init_8 rfl ?_
  obtain ⟨h5, e6, E⟩ := bV_of E
  refine Rn.callIN1 (pc' := 12) (As := []) (rest := [.ref (hN h + 1), .ref x0]) (host := "VintageWater") (f_Tape_init_ok hst e6) (Nat.le_trans (by decide) hd) rfl rfl (List.mem_of_getElem? (i := 0) rfl) (gw_at 108 (by decide +kernel) (by decide +kernel)) ws_X9_init (by decide +kernel) (by decide) kn_X9_init rfl rfl (kp_n0 (kp_nA eh3)) rfl (Nat.le_of_ble_eq_true rfl) dX10_init_9 rfl ?_
  obtain ⟨g7, E⟩ := gd_of E
  refine Rn.putR (pc' := 15) fl_X10_12_9 (fun q hq => by cases hq; decide) g7 rfl rfl dX10_init_12 rfl ?_
  replace E := wr_of E
  generalize eh9 : sR h5 x0 0 (hN h + 1) = h8 at E ⊢
  refine Rn.aload_n (pc' := 16) dX10_init_15 rfl 0 rfl rfl ?_
  refine Rn.new (pc' := 19) (ci := 4) (C0 := "VintageWater$LandText") (by decide) (fun r hr => by cases hr; rfl) kk_X10_16 dX10_init_16 rfl ?_
  replace E := wr_of E
  generalize eh11 : hA h8 5 0 (nF 4) = h10 at E ⊢
  refine Rn.dup (pc' := 20) (hc := rfl) dX10_init_19 rfl ?_
  refine Rn.aload_n (pc' := 21) dX10_init_20 rfl 0 rfl rfl ?_
  obtain ⟨g12, E⟩ := gd_of E
  refine Rn.getR (pc' := 24) fl_X10_12_9 g12 rfl dX10_init_21 rfl ?_
  obtain ⟨h14, e15, E⟩ := bV_of E
  refine Rn.callI1 (pc' := 27) (As := [.ref (hR h10 x0 0)]) (rest := [.ref (hN h8 + 1), .ref x0]) (f_LandText_init_ok hst e15) (Nat.le_trans (by decide) hd) rfl rfl kb_X10_18 kn_X4_init rfl rfl (kp_n0 (kp_nA eh11)) rfl (Nat.le_of_ble_eq_true rfl) dX10_init_24 rfl ?_
  obtain ⟨g16, E⟩ := gd_of E
  refine Rn.putR (pc' := 30) fl_X10_21_9 (fun q hq => by cases hq; decide) g16 rfl rfl dX10_init_27 rfl ?_
  replace E := wr_of E
  generalize eh18 : sR h14 x0 1 (hN h8 + 1) = h17 at E ⊢
  refine Rn.aload_n (pc' := 31) dX10_init_30 rfl 0 rfl rfl ?_
  refine Rn.new (pc' := 34) (ci := 6) (C0 := "VintageWater$LawText") (by decide) (fun r hr => by cases hr; rfl) kk_X10_25 dX10_init_31 rfl ?_
  replace E := wr_of E
  generalize eh20 : hA h17 7 0 (nF 6) = h19 at E ⊢
  refine Rn.dup (pc' := 35) (hc := rfl) dX10_init_34 rfl ?_
  refine Rn.aload_n (pc' := 36) dX10_init_35 rfl 0 rfl rfl ?_
  obtain ⟨g21, E⟩ := gd_of E
  refine Rn.getR (pc' := 39) fl_X10_12_9 g21 rfl dX10_init_36 rfl ?_
  obtain ⟨h23, e24, E⟩ := bV_of E
  refine Rn.callI1 (pc' := 42) (As := [.ref (hR h19 x0 0)]) (rest := [.ref (hN h17 + 1), .ref x0]) (f_LawText_init_ok hst e24) (Nat.le_trans (by decide) hd) rfl rfl kb_X10_27 kn_X6_init rfl rfl (kp_n0 (kp_nA eh20)) rfl (Nat.le_of_ble_eq_true rfl) dX10_init_39 rfl ?_
  obtain ⟨g25, E⟩ := gd_of E
  refine Rn.putR (pc' := 45) fl_X10_28_9 (fun q hq => by cases hq; decide) g25 rfl rfl dX10_init_42 rfl ?_
  replace E := wr_of E
  generalize eh27 : sR h23 x0 2 (hN h17 + 1) = h26 at E ⊢
  refine Rn.aload_n (pc' := 46) dX10_init_45 rfl 0 rfl rfl ?_
  refine Rn.new (pc' := 49) (ci := 7) (C0 := "VintageWater$Memory") (by decide) (fun r hr => by cases hr; rfl) kk_X10_32 dX10_init_46 rfl ?_
  replace E := wr_of E
  generalize eh29 : hA h26 8 0 (nF 7) = h28 at E ⊢
  refine Rn.dup (pc' := 50) (hc := rfl) dX10_init_49 rfl ?_
  obtain ⟨h31, e32, E⟩ := bV_of E
  refine Rn.callI1 (pc' := 53) (As := []) (rest := [.ref (hN h26 + 1), .ref x0]) (f_Memory_init_ok hst e32) (Nat.le_trans (by decide) hd) rfl rfl kb_X10_34 kn_X8_init rfl rfl (kp_n0 (kp_nA eh29)) rfl (Nat.le_of_ble_eq_true rfl) dX10_init_50 rfl ?_
  obtain ⟨g33, E⟩ := gd_of E
  refine Rn.putR (pc' := 56) fl_X10_35_9 (fun q hq => by cases hq; decide) g33 rfl rfl dX10_init_53 rfl ?_
  replace E := wr_of E
  generalize eh35 : sR h31 x0 3 (hN h26 + 1) = h34 at E ⊢
  refine Rn.aload_n (pc' := 57) dX10_init_56 rfl 0 rfl rfl ?_
  refine Rn.new (pc' := 60) (ci := 3) (C0 := "VintageWater$Land") (by decide) (fun r hr => by cases hr; rfl) kk_X10_39 dX10_init_57 rfl ?_
  replace E := wr_of E
  generalize eh37 : hA h34 4 0 (nF 3) = h36 at E ⊢
  refine Rn.dup (pc' := 61) (hc := rfl) dX10_init_60 rfl ?_
  obtain ⟨h39, e40, E⟩ := bV_of E
  refine Rn.callI1 (pc' := 64) (As := []) (rest := [.ref (hN h34 + 1), .ref x0]) (f_Land_init_ok hst e40) (Nat.le_trans (by decide) hd) rfl rfl kb_X10_41 kn_X3_init rfl rfl (kp_n0 (kp_nA eh37)) rfl (Nat.le_of_ble_eq_true rfl) dX10_init_61 rfl ?_
  obtain ⟨g41, E⟩ := gd_of E
  refine Rn.putR (pc' := 67) fl_X10_42_9 (fun q hq => by cases hq; decide) g41 rfl rfl dX10_init_64 rfl ?_
  replace E := wr_of E
  generalize eh43 : sR h39 x0 4 (hN h34 + 1) = h42 at E ⊢
  refine Rn.aload_n (pc' := 68) dX10_init_67 rfl 0 rfl rfl ?_
  refine Rn.new (pc' := 71) (ci := 3) (C0 := "VintageWater$Land") (by decide) (fun r hr => by cases hr; rfl) kk_X10_39 dX10_init_68 rfl ?_
  replace E := wr_of E
  generalize eh45 : hA h42 4 0 (nF 3) = h44 at E ⊢
  refine Rn.dup (pc' := 72) (hc := rfl) dX10_init_71 rfl ?_
  obtain ⟨h47, e48, E⟩ := bV_of E
  refine Rn.callI1 (pc' := 75) (As := []) (rest := [.ref (hN h42 + 1), .ref x0]) (f_Land_init_ok hst e48) (Nat.le_trans (by decide) hd) rfl rfl kb_X10_41 kn_X3_init rfl rfl (kp_n0 (kp_nA eh45)) rfl (Nat.le_of_ble_eq_true rfl) dX10_init_72 rfl ?_
  obtain ⟨g49, E⟩ := gd_of E
  refine Rn.putR (pc' := 78) fl_X10_46_9 (fun q hq => by cases hq; decide) g49 rfl rfl dX10_init_75 rfl ?_
  replace E := wr_of E
  generalize eh51 : sR h47 x0 5 (hN h42 + 1) = h50 at E ⊢
  refine Rn.aload_n (pc' := 79) dX10_init_78 rfl 0 rfl rfl ?_
  refine Rn.new (pc' := 82) (ci := 3) (C0 := "VintageWater$Land") (by decide) (fun r hr => by cases hr; rfl) kk_X10_39 dX10_init_79 rfl ?_
  replace E := wr_of E
  generalize eh53 : hA h50 4 0 (nF 3) = h52 at E ⊢
  refine Rn.dup (pc' := 83) (hc := rfl) dX10_init_82 rfl ?_
  obtain ⟨h55, e56, E⟩ := bV_of E
  refine Rn.callI1 (pc' := 86) (As := []) (rest := [.ref (hN h50 + 1), .ref x0]) (f_Land_init_ok hst e56) (Nat.le_trans (by decide) hd) rfl rfl kb_X10_41 kn_X3_init rfl rfl (kp_n0 (kp_nA eh53)) rfl (Nat.le_of_ble_eq_true rfl) dX10_init_83 rfl ?_
  obtain ⟨g57, E⟩ := gd_of E
  refine Rn.putR (pc' := 89) fl_X10_49_9 (fun q hq => by cases hq; decide) g57 rfl rfl dX10_init_86 rfl ?_
  replace E := wr_of E
  generalize eh59 : sR h55 x0 6 (hN h50 + 1) = h58 at E ⊢
  refine Rn.aload_n (pc' := 90) dX10_init_89 rfl 0 rfl rfl ?_
  refine Rn.new (pc' := 93) (ci := 3) (C0 := "VintageWater$Land") (by decide) (fun r hr => by cases hr; rfl) kk_X10_39 dX10_init_90 rfl ?_
  replace E := wr_of E
  generalize eh61 : hA h58 4 0 (nF 3) = h60 at E ⊢
  refine Rn.dup (pc' := 94) (hc := rfl) dX10_init_93 rfl ?_
  obtain ⟨h63, e64, E⟩ := bV_of E
  refine Rn.callI1 (pc' := 97) (As := []) (rest := [.ref (hN h58 + 1), .ref x0]) (f_Land_init_ok hst e64) (Nat.le_trans (by decide) hd) rfl rfl kb_X10_41 kn_X3_init rfl rfl (kp_n0 (kp_nA eh61)) rfl (Nat.le_of_ble_eq_true rfl) dX10_init_94 rfl ?_
  obtain ⟨g65, E⟩ := gd_of E
  refine Rn.putR (pc' := 100) fl_X10_52_9 (fun q hq => by cases hq; decide) g65 rfl rfl dX10_init_97 rfl ?_
  replace E := wr_of E
  generalize eh67 : sR h63 x0 7 (hN h58 + 1) = h66 at E ⊢
  refine Rn.aload_n (pc' := 101) dX10_init_100 rfl 0 rfl rfl ?_
  refine Rn.bipush (pc' := 103) (v := (8 : Int32)) (hv := by decide) dX10_init_101 rfl ?_
  refine Rn.newa (pc' := 105) (sh := 20) (by decide) (by decide) (by decide) dX10_init_103 rfl ?_
  replace E := wr_of E
  generalize eh69 : hA h66 20 (ix (8 : Int32)) (ix (8 : Int32)) = h68 at E ⊢
  obtain ⟨g70, E⟩ := gd_of E
  refine Rn.putR (pc' := 108) fl_X10_55_9 (fun q hq => by cases hq; decide) g70 rfl rfl dX10_init_105 rfl ?_
  replace E := wr_of E
  generalize eh72 : sR h68 x0 8 (hN h66 + 1) = h71 at E ⊢
  refine Rn.aload_n (pc' := 109) dX10_init_108 rfl 0 rfl rfl ?_
  refine Rn.bipush (pc' := 111) (v := (30 : Int32)) (hv := by decide) dX10_init_109 rfl ?_
  refine Rn.newa (pc' := 113) (sh := 20) (by decide) (by decide) (by decide) dX10_init_111 rfl ?_
  replace E := wr_of E
  generalize eh74 : hA h71 20 (ix (30 : Int32)) (ix (30 : Int32)) = h73 at E ⊢
  obtain ⟨g75, E⟩ := gd_of E
  refine Rn.putR (pc' := 116) fl_X10_59_9 (fun q hq => by cases hq; decide) g75 rfl rfl dX10_init_113 rfl ?_
  replace E := wr_of E
  generalize eh77 : sR h73 x0 9 (hN h71 + 1) = h76 at E ⊢
  refine Rn.aload_n (pc' := 117) dX10_init_116 rfl 0 rfl rfl ?_
  refine Rn.iconst (pc' := 118) (v := (-1 : Int32)) (hv := by decide) dX10_init_117 rfl ?_
  refine Rn.putI (pc' := 121) fl_X10_62_9 (fun q hq => by cases hq; decide) (kp_sR eh77 g75) rfl rfl rfl dX10_init_118 rfl ?_
  replace E := wr_of E
  generalize eh79 : sI h76 x0 11 (-1 : Int32) = h78 at E ⊢
  cases E
  exact Rn.vret rfl dX10_init_121
def f_Water_init (h : Hp) (x0 : Nat) : Option (Hp) := f_Water_init_b0  h x0
theorem f_Water_init_ok {l : Launch} {X : Nat × (Nat → Int32)} (hst : l.stackTraces = false) {h : Hp} {x0 : Nat} {r : Hp} (E : f_Water_init h x0 = some r) : MC l X yX10_init mX10_init 4 [.ref x0] h (eV r) r :=
  MC.body (by decide +kernel) rfl (by decide) hst (Nat.le_of_ble_eq_true rfl) (f_Water_init_b0_ok hst (Nat.le_refl _) E)
abbrev mX11_init : MI := (RX11, cX11_init, 1, none, [], true)
theorem ws_X11_init : ∀ w ∈ wsM yX11_init mX11_init, w ∈ gw := List.forall_mem_cons.mpr ⟨gw_at 1424 (by decide +kernel) (by decide +kernel), fun _ h => h⟩
theorem ko_X11_7 : Cond.methodLink RX11 7 objectInit ∈ gw := gw_at 1425 (by decide +kernel) (by decide +kernel)
theorem fl_X11_13_10 : FL RX11 13 10 1 := ⟨_, rfl, by decide, "VintageWaterModel", gw_at 1427 (by decide +kernel) (by decide +kernel), Or.inl rfl⟩
theorem fl_X11_17_10 : FL RX11 17 10 2 := ⟨_, rfl, by decide, "VintageWaterModel", gw_at 1428 (by decide +kernel) (by decide +kernel), Or.inl rfl⟩
theorem fl_X11_20_10 : FL RX11 20 10 3 := ⟨_, rfl, by decide, "VintageWaterModel", gw_at 1429 (by decide +kernel) (by decide +kernel), Or.inl rfl⟩
theorem fl_X11_23_10 : FL RX11 23 10 4 := ⟨_, rfl, by decide, "VintageWaterModel", gw_at 1430 (by decide +kernel) (by decide +kernel), Or.inl rfl⟩
theorem fl_X11_26_10 : FL RX11 26 10 5 := ⟨_, rfl, by decide, "VintageWaterModel", gw_at 1431 (by decide +kernel) (by decide +kernel), Or.inl rfl⟩
theorem fl_X11_29_10 : FL RX11 29 10 8 := ⟨_, rfl, by decide, "VintageWaterModel", gw_at 1434 (by decide +kernel) (by decide +kernel), Or.inl rfl⟩
theorem fl_X11_33_10 : FL RX11 33 10 14 := ⟨_, rfl, by decide, "VintageWaterModel", gw_at 1440 (by decide +kernel) (by decide +kernel), Or.inl rfl⟩
theorem fl_X11_36_10 : FL RX11 36 10 15 := ⟨_, rfl, by decide, "VintageWaterModel", gw_at 1441 (by decide +kernel) (by decide +kernel), Or.inl rfl⟩
theorem fl_X11_39_10 : FL RX11 39 10 17 := ⟨_, rfl, by decide, "VintageWaterModel", gw_at 1443 (by decide +kernel) (by decide +kernel), Or.inl rfl⟩
theorem fl_X11_42_10 : FL RX11 42 10 19 := ⟨_, rfl, by decide, "VintageWaterModel", gw_at 1445 (by decide +kernel) (by decide +kernel), Or.inl rfl⟩
def f_Model_init_b0   (h : Hp) (x0 : Nat)  : Option (Hp) :=
if hS h x0 = 11 then (
wr (hA h 20 (ix (2291 : Int32)) (ix (2291 : Int32))) fun h2 =>
if hS h2 x0 = 11 then (
wr (sR h2 x0 1 (hN h + 1)) fun h5 =>
wr (hA h5 20 (ix (1454 : Int32)) (ix (1454 : Int32))) fun h7 =>
if hS h7 x0 = 11 then (
wr (sR h7 x0 2 (hN h5 + 1)) fun h10 =>
wr (hA h10 20 (ix (1454 : Int32)) (ix (1454 : Int32))) fun h12 =>
if hS h12 x0 = 11 then (
wr (sR h12 x0 3 (hN h10 + 1)) fun h15 =>
wr (hA h15 20 (ix (617 : Int32)) (ix (617 : Int32))) fun h17 =>
if hS h17 x0 = 11 then (
wr (sR h17 x0 4 (hN h15 + 1)) fun h20 =>
wr (hA h20 20 (ix (17448 : Int32)) (ix (17448 : Int32))) fun h22 =>
if hS h22 x0 = 11 then (
wr (sR h22 x0 5 (hN h20 + 1)) fun h25 =>
wr (hA h25 21 (ix (400 : Int32)) (ix (400 : Int32))) fun h27 =>
if hS h27 x0 = 11 then (
wr (sR h27 x0 8 (hN h25 + 1)) fun h30 =>
wr (sI h30 x0 14 (-1 : Int32)) fun h32 =>
wr (hA h32 20 (ix (5 : Int32)) (ix (5 : Int32))) fun h34 =>
if hS h34 x0 = 11 then (
wr (sR h34 x0 15 (hN h32 + 1)) fun h37 =>
wr (hA h37 20 (ix (400 : Int32)) (ix (400 : Int32))) fun h39 =>
if hS h39 x0 = 11 then (
wr (sR h39 x0 17 (hN h37 + 1)) fun h42 =>
wr (hA h42 20 (ix (8 : Int32)) (ix (8 : Int32))) fun h44 =>
if hS h44 x0 = 11 then (
wr (sR h44 x0 19 (hN h42 + 1)) fun h47 =>
if hS h47 (hR h47 x0 1) = 20 then (
if ib (5 : Int32) (hL h47 (hR h47 x0 1)) = true then (
wr (sI h47 (hR h47 x0 1) (ix (5 : Int32)) (1 : Int32)) fun h51 =>
some h51
) else none) else none) else none) else none) else none) else none) else none) else none) else none) else none) else none) else none
set_option maxRecDepth 20000 in
set_option maxHeartbeats 4000000 in
theorem f_Model_init_b0_ok {l : Launch} {X : Nat × (Nat → Int32)} (hst : l.stackTraces = false) {d : Nat} (hd : 1 ≤ d)     {h : Hp} {x0 : Nat}  {r : Hp} (E : f_Model_init_b0   h x0 = some r) : Rn l X mX11_init d 0 [(0, .ref x0)] [] h (eV r) r := by
  unfold f_Model_init_b0 at E
  refine Rn.aload_n (pc' := 1) dX11_init_0 rfl 0 rfl rfl ?_
  obtain ⟨g1, E⟩ := gd_of E
  refine Rn.objI1 (pc' := 4) ko_X11_7 (kp_n0 g1) (Nat.le_of_ble_eq_true rfl) dX11_init_1 rfl ?_
  refine Rn.aload_n (pc' := 5) dX11_init_4 rfl 0 rfl rfl ?_
  refine Rn.sipush (pc' := 8) (v := (2291 : Int32)) (hv := by decide) dX11_init_5 rfl ?_
  refine Rn.newa (pc' := 10) (sh := 20) (by decide) (by decide) (by decide) dX11_init_8 rfl ?_
  replace E := wr_of E
  generalize eh3 : hA h 20 (ix (2291 : Int32)) (ix (2291 : Int32)) = h2 at E ⊢
  obtain ⟨g4, E⟩ := gd_of E
  refine Rn.putR (pc' := 13) fl_X11_13_10 (fun q hq => by cases hq; decide) g4 rfl rfl dX11_init_10 rfl ?_
  replace E := wr_of E
  generalize eh6 : sR h2 x0 1 (hN h + 1) = h5 at E ⊢
  refine Rn.aload_n (pc' := 14) dX11_init_13 rfl 0 rfl rfl ?_
  refine Rn.sipush (pc' := 17) (v := (1454 : Int32)) (hv := by decide) dX11_init_14 rfl ?_
  refine Rn.newa (pc' := 19) (sh := 20) (by decide) (by decide) (by decide) dX11_init_17 rfl ?_
  replace E := wr_of E
  generalize eh8 : hA h5 20 (ix (1454 : Int32)) (ix (1454 : Int32)) = h7 at E ⊢
  obtain ⟨g9, E⟩ := gd_of E
  refine Rn.putR (pc' := 22) fl_X11_17_10 (fun q hq => by cases hq; decide) g9 rfl rfl dX11_init_19 rfl ?_
  replace E := wr_of E
  generalize eh11 : sR h7 x0 2 (hN h5 + 1) = h10 at E ⊢
  refine Rn.aload_n (pc' := 23) dX11_init_22 rfl 0 rfl rfl ?_
  refine Rn.sipush (pc' := 26) (v := (1454 : Int32)) (hv := by decide) dX11_init_23 rfl ?_
  refine Rn.newa (pc' := 28) (sh := 20) (by decide) (by decide) (by decide) dX11_init_26 rfl ?_
  replace E := wr_of E
  generalize eh13 : hA h10 20 (ix (1454 : Int32)) (ix (1454 : Int32)) = h12 at E ⊢
  obtain ⟨g14, E⟩ := gd_of E
  refine Rn.putR (pc' := 31) fl_X11_20_10 (fun q hq => by cases hq; decide) g14 rfl rfl dX11_init_28 rfl ?_
  replace E := wr_of E
  generalize eh16 : sR h12 x0 3 (hN h10 + 1) = h15 at E ⊢
  refine Rn.aload_n (pc' := 32) dX11_init_31 rfl 0 rfl rfl ?_
  refine Rn.sipush (pc' := 35) (v := (617 : Int32)) (hv := by decide) dX11_init_32 rfl ?_
  refine Rn.newa (pc' := 37) (sh := 20) (by decide) (by decide) (by decide) dX11_init_35 rfl ?_
  replace E := wr_of E
  generalize eh18 : hA h15 20 (ix (617 : Int32)) (ix (617 : Int32)) = h17 at E ⊢
  obtain ⟨g19, E⟩ := gd_of E
  refine Rn.putR (pc' := 40) fl_X11_23_10 (fun q hq => by cases hq; decide) g19 rfl rfl dX11_init_37 rfl ?_
  replace E := wr_of E
  generalize eh21 : sR h17 x0 4 (hN h15 + 1) = h20 at E ⊢
  refine Rn.aload_n (pc' := 41) dX11_init_40 rfl 0 rfl rfl ?_
  refine Rn.sipush (pc' := 44) (v := (17448 : Int32)) (hv := by decide) dX11_init_41 rfl ?_
  refine Rn.newa (pc' := 46) (sh := 20) (by decide) (by decide) (by decide) dX11_init_44 rfl ?_
  replace E := wr_of E
  generalize eh23 : hA h20 20 (ix (17448 : Int32)) (ix (17448 : Int32)) = h22 at E ⊢
  obtain ⟨g24, E⟩ := gd_of E
  refine Rn.putR (pc' := 49) fl_X11_26_10 (fun q hq => by cases hq; decide) g24 rfl rfl dX11_init_46 rfl ?_
  replace E := wr_of E
  generalize eh26 : sR h22 x0 5 (hN h20 + 1) = h25 at E ⊢
  refine Rn.aload_n (pc' := 50) dX11_init_49 rfl 0 rfl rfl ?_
  refine Rn.sipush (pc' := 53) (v := (400 : Int32)) (hv := by decide) dX11_init_50 rfl ?_
  refine Rn.newa (pc' := 55) (sh := 21) (by decide) (by decide) (by decide) dX11_init_53 rfl ?_
  replace E := wr_of E
  generalize eh28 : hA h25 21 (ix (400 : Int32)) (ix (400 : Int32)) = h27 at E ⊢
  obtain ⟨g29, E⟩ := gd_of E
  refine Rn.putR (pc' := 58) fl_X11_29_10 (fun q hq => by cases hq; decide) g29 rfl rfl dX11_init_55 rfl ?_
  replace E := wr_of E
  generalize eh31 : sR h27 x0 8 (hN h25 + 1) = h30 at E ⊢
  refine Rn.aload_n (pc' := 59) dX11_init_58 rfl 0 rfl rfl ?_
  refine Rn.iconst (pc' := 60) (v := (-1 : Int32)) (hv := by decide) dX11_init_59 rfl ?_
  refine Rn.putI (pc' := 63) fl_X11_33_10 (fun q hq => by cases hq; decide) (kp_sR eh31 g29) rfl rfl rfl dX11_init_60 rfl ?_
  replace E := wr_of E
  generalize eh33 : sI h30 x0 14 (-1 : Int32) = h32 at E ⊢
  refine Rn.aload_n (pc' := 64) dX11_init_63 rfl 0 rfl rfl ?_
  refine Rn.iconst (pc' := 65) (v := (5 : Int32)) (hv := by decide) dX11_init_64 rfl ?_
  refine Rn.newa (pc' := 67) (sh := 20) (by decide) (by decide) (by decide) dX11_init_65 rfl ?_
  replace E := wr_of E
  generalize eh35 : hA h32 20 (ix (5 : Int32)) (ix (5 : Int32)) = h34 at E ⊢
  obtain ⟨g36, E⟩ := gd_of E
  refine Rn.putR (pc' := 70) fl_X11_36_10 (fun q hq => by cases hq; decide) g36 rfl rfl dX11_init_67 rfl ?_
  replace E := wr_of E
  generalize eh38 : sR h34 x0 15 (hN h32 + 1) = h37 at E ⊢
  refine Rn.aload_n (pc' := 71) dX11_init_70 rfl 0 rfl rfl ?_
  refine Rn.sipush (pc' := 74) (v := (400 : Int32)) (hv := by decide) dX11_init_71 rfl ?_
  refine Rn.newa (pc' := 76) (sh := 20) (by decide) (by decide) (by decide) dX11_init_74 rfl ?_
  replace E := wr_of E
  generalize eh40 : hA h37 20 (ix (400 : Int32)) (ix (400 : Int32)) = h39 at E ⊢
  obtain ⟨g41, E⟩ := gd_of E
  refine Rn.putR (pc' := 79) fl_X11_39_10 (fun q hq => by cases hq; decide) g41 rfl rfl dX11_init_76 rfl ?_
  replace E := wr_of E
  generalize eh43 : sR h39 x0 17 (hN h37 + 1) = h42 at E ⊢
  refine Rn.aload_n (pc' := 80) dX11_init_79 rfl 0 rfl rfl ?_
  refine Rn.bipush (pc' := 82) (v := (8 : Int32)) (hv := by decide) dX11_init_80 rfl ?_
  refine Rn.newa (pc' := 84) (sh := 20) (by decide) (by decide) (by decide) dX11_init_82 rfl ?_
  replace E := wr_of E
  generalize eh45 : hA h42 20 (ix (8 : Int32)) (ix (8 : Int32)) = h44 at E ⊢
  obtain ⟨g46, E⟩ := gd_of E
  refine Rn.putR (pc' := 87) fl_X11_42_10 (fun q hq => by cases hq; decide) g46 rfl rfl dX11_init_84 rfl ?_
  replace E := wr_of E
  generalize eh48 : sR h44 x0 19 (hN h42 + 1) = h47 at E ⊢
  refine Rn.aload_n (pc' := 88) dX11_init_87 rfl 0 rfl rfl ?_
  refine Rn.getR (pc' := 91) fl_X11_13_10 (kp_sR eh48 g46) rfl dX11_init_88 rfl ?_
  refine Rn.iconst (pc' := 92) (v := (5 : Int32)) (hv := by decide) dX11_init_91 rfl ?_
  refine Rn.iconst (pc' := 93) (v := (1 : Int32)) (hv := by decide) dX11_init_92 rfl ?_
  obtain ⟨g49, E⟩ := gd_of E
  obtain ⟨g50, E⟩ := gd_of E
  refine Rn.iast (pc' := 94) g49 g50 dX11_init_93 rfl ?_
  replace E := wr_of E
  generalize eh52 : sI h47 (hR h47 x0 1) (ix (5 : Int32)) (1 : Int32) = h51 at E ⊢
  cases E
  exact Rn.vret rfl dX11_init_94
def f_Model_init (h : Hp) (x0 : Nat) : Option (Hp) := f_Model_init_b0  h x0
theorem f_Model_init_ok {l : Launch} {X : Nat × (Nat → Int32)} (hst : l.stackTraces = false) {h : Hp} {x0 : Nat} {r : Hp} (E : f_Model_init h x0 = some r) : MC l X yX11_init mX11_init 1 [.ref x0] h (eV r) r :=
  MC.body (by decide +kernel) rfl (by decide) hst (Nat.le_of_ble_eq_true rfl) (f_Model_init_b0_ok hst (Nat.le_refl _) E)
abbrev mX3_allThirst : MI := (RX3, cX3_allThirst, 3, (some Jvm.ClassFile.FieldType.int), [], false)
theorem ws_X3_allThirst : ∀ w ∈ wsM yX3_allThirst mX3_allThirst, w ∈ gw := List.forall_mem_cons.mpr ⟨gw_at 709 (by decide +kernel) (by decide +kernel), fun _ h => h⟩
theorem fl_X3_46_3 : FL RX3 46 3 1 := ⟨_, rfl, by decide, "VintageWater$Land", gw_at 361 (by decide +kernel) (by decide +kernel), Or.inl rfl⟩
theorem fl_X3_203_2 : FL RX3 203 2 3 := ⟨_, rfl, by decide, "VintageWater$House", gw_at 321 (by decide +kernel) (by decide +kernel), Or.inl rfl⟩
def f_Land_allThirst_b4  (k4 : Hp → Nat → Int32 → Int32 → Option (Int32 × Hp)) (h : Hp) (x0 : Nat) (x1 : Int32) (x2 : Int32)  : Option (Int32 × Hp) :=
if hS h x0 = 4 then (
if (hI h x0 1) ≤ x2 then (
some (x1, h)

) else (
if hS h (hR h x0 4) = 24 then (
if ib x2 (hL h (hR h x0 4)) = true then (
if hS h (hR h (hR h x0 4) (ix x2)) = 3 then (
k4 h x0 (x1 + (hI h (hR h (hR h x0 4) (ix x2)) 3)) (x2 + (1 : Int32))
) else none) else none) else none
)
) else none
set_option maxRecDepth 20000 in
set_option maxHeartbeats 4000000 in
theorem f_Land_allThirst_b4_ok {l : Launch} {X : Nat × (Nat → Int32)} (hst : l.stackTraces = false) {d : Nat} (hd : 0 ≤ d)   {k4 : Hp → Nat → Int32 → Int32 → Option (Int32 × Hp)} (hk4 : ∀ (h : Hp) (x0 : Nat) (x1 : Int32) (x2 : Int32)  (r : Int32 × Hp), k4 h x0 x1 x2 = some r → Rn l X mX3_allThirst d 4 [(0, .ref x0), (1, .int x1), (2, .int x2)] [] h (eI r) r.2) {h : Hp} {x0 : Nat} {x1 : Int32} {x2 : Int32}  {r : Int32 × Hp} (E : f_Land_allThirst_b4  k4 h x0 x1 x2 = some r) : Rn l X mX3_allThirst d 4 [(0, .ref x0), (1, .int x1), (2, .int x2)] [] h (eI r) r.2 := by
  unfold f_Land_allThirst_b4 at E
  refine Rn.iload_n (pc' := 5) dX3_allThirst_4 rfl 2 rfl rfl ?_
  refine Rn.aload_n (pc' := 6) dX3_allThirst_5 rfl 0 rfl rfl ?_
  obtain ⟨g1, E⟩ := gd_of E
  refine Rn.getI (pc' := 9) fl_X3_46_3 g1 rfl dX3_allThirst_6 rfl ?_
  refine Rn.icmp_ge (pc' := 12) (tgt := 30) dX3_allThirst_9 (by decide) rfl (fun c2 => ?_) (fun c2 => ?_)
  · replace E := (if_of E).1 c2
    refine Rn.iload_n (pc' := 31) dX3_allThirst_30 rfl 1 rfl rfl ?_
    cases E
    exact Rn.zret rfl rfl dX3_allThirst_31
  · replace E := (if_of E).2 c2
    refine Rn.iload_n (pc' := 13) dX3_allThirst_12 rfl 1 rfl rfl ?_
    refine Rn.aload_n (pc' := 14) dX3_allThirst_13 rfl 0 rfl rfl ?_
    refine Rn.getR (pc' := 17) fl_X3_19_3 g1 rfl dX3_allThirst_14 rfl ?_
    refine Rn.iload_n (pc' := 18) dX3_allThirst_17 rfl 2 rfl rfl ?_
    obtain ⟨g3, E⟩ := gd_of E
    obtain ⟨g4, E⟩ := gd_of E
    refine Rn.aald (pc' := 19) g3 (by decide) (by decide) g4 dX3_allThirst_18 rfl ?_
    obtain ⟨g5, E⟩ := gd_of E
    refine Rn.getI (pc' := 22) fl_X3_203_2 g5 rfl dX3_allThirst_19 rfl ?_
    refine Rn.iadd (pc' := 23) dX3_allThirst_22 rfl ?_
    refine Rn.istore_n (pc' := 24) (L' := [(1, .int (x1 + (hI h (hR h (hR h x0 4) (ix x2)) 3))), (0, .ref x0), (2, .int x2)]) dX3_allThirst_23 rfl (by decide) rfl rfl ?_
    refine Rn.iinc (pc' := 27) (v := (x2 + (1 : Int32))) (L' := [(2, .int (x2 + (1 : Int32))), (1, .int (x1 + (hI h (hR h (hR h x0 4) (ix x2)) 3))), (0, .ref x0)]) dX3_allThirst_24 2 rfl rfl (by decide) rfl rfl ?_
    refine Rn.goto (pc' := 4) dX3_allThirst_27 (by decide) ?_
    refine Rn.sub [2, 1, 0] rfl ?_
    exact hk4 _ _ _ _ _ E
def f_Land_allThirst_L4   (n : Nat) : Hp → Nat → Int32 → Int32 → Option (Int32 × Hp) := Nat.rec (motive := fun _ => Hp → Nat → Int32 → Int32 → Option (Int32 × Hp)) (fun _ _ _ _ => none) (fun _ rec => f_Land_allThirst_b4   rec) n
theorem f_Land_allThirst_L4_ok {l : Launch} {X : Nat × (Nat → Int32)} (hst : l.stackTraces = false) {d : Nat} (hd : 0 ≤ d)     : ∀ (n : Nat) (h : Hp) (x0 : Nat) (x1 : Int32) (x2 : Int32)  (r : Int32 × Hp), f_Land_allThirst_L4   n h x0 x1 x2 = some r → Rn l X mX3_allThirst d 4 [(0, .ref x0), (1, .int x1), (2, .int x2)] [] h (eI r) r.2 := by
  intro n
  induction n with
  | zero => intro h x0 x1 x2 r E; cases E
  | succ n ih => intro h x0 x1 x2 r E; exact f_Land_allThirst_b4_ok hst hd   ih E
def f_Land_allThirst_b0   (h : Hp) (x0 : Nat)  : Option (Int32 × Hp) :=
f_Land_allThirst_L4   FU h x0 (0 : Int32) (0 : Int32)

set_option maxRecDepth 20000 in
set_option maxHeartbeats 4000000 in
theorem f_Land_allThirst_b0_ok {l : Launch} {X : Nat × (Nat → Int32)} (hst : l.stackTraces = false) {d : Nat} (hd : 0 ≤ d)     {h : Hp} {x0 : Nat}  {r : Int32 × Hp} (E : f_Land_allThirst_b0   h x0 = some r) : Rn l X mX3_allThirst d 0 [(0, .ref x0)] [] h (eI r) r.2 := by
  unfold f_Land_allThirst_b0 at E
  refine Rn.iconst (pc' := 1) (v := (0 : Int32)) (hv := by decide) dX3_allThirst_0 rfl ?_
  refine Rn.istore_n (pc' := 2) (L' := [(1, .int (0 : Int32)), (0, .ref x0)]) dX3_allThirst_1 rfl (by decide) rfl rfl ?_
  refine Rn.iconst (pc' := 3) (v := (0 : Int32)) (hv := by decide) dX3_allThirst_2 rfl ?_
  refine Rn.istore_n (pc' := 4) (L' := [(2, .int (0 : Int32)), (1, .int (0 : Int32)), (0, .ref x0)]) dX3_allThirst_3 rfl (by decide) rfl rfl ?_
  refine Rn.sub [2, 1, 0] rfl ?_
  exact f_Land_allThirst_L4_ok hst hd   FU _ _ _ _ _ E
def f_Land_allThirst (h : Hp) (x0 : Nat) : Option (Int32 × Hp) := f_Land_allThirst_b0  h x0
theorem f_Land_allThirst_ok {l : Launch} {X : Nat × (Nat → Int32)} (hst : l.stackTraces = false) {h : Hp} {x0 : Nat} {r : Int32 × Hp} (E : f_Land_allThirst h x0 = some r) : MC l X yX3_allThirst mX3_allThirst 0 [.ref x0] h (eI r) r.2 :=
  MC.body (by decide +kernel) rfl (by decide) hst (Nat.le_of_ble_eq_true rfl) (f_Land_allThirst_b0_ok hst (Nat.le_refl _) E)
abbrev mX2_allDrunk : MI := (RX2, cX2_allDrunk, 3, (some Jvm.ClassFile.FieldType.int), [], false)
theorem ws_X2_allDrunk : ∀ w ∈ wsM yX2_allDrunk mX2_allDrunk, w ∈ gw := List.forall_mem_cons.mpr ⟨gw_at 705 (by decide +kernel) (by decide +kernel), fun _ h => h⟩
def f_House_allDrunk_b4  (k4 : Hp → Nat → Int32 → Int32 → Option (Int32 × Hp)) (h : Hp) (x0 : Nat) (x1 : Int32) (x2 : Int32)  : Option (Int32 × Hp) :=
if (30 : Int32) ≤ x2 then (
some (x1, h)

) else (
if hS h x0 = 3 then (
if hS h (hR h x0 5) = 20 then (
if ib x2 (hL h (hR h x0 5)) = true then (
k4 h x0 (x1 + (hI h (hR h x0 5) (ix x2))) (x2 + (1 : Int32))
) else none) else none) else none
)

set_option maxRecDepth 20000 in
set_option maxHeartbeats 4000000 in
theorem f_House_allDrunk_b4_ok {l : Launch} {X : Nat × (Nat → Int32)} (hst : l.stackTraces = false) {d : Nat} (hd : 0 ≤ d)   {k4 : Hp → Nat → Int32 → Int32 → Option (Int32 × Hp)} (hk4 : ∀ (h : Hp) (x0 : Nat) (x1 : Int32) (x2 : Int32)  (r : Int32 × Hp), k4 h x0 x1 x2 = some r → Rn l X mX2_allDrunk d 4 [(0, .ref x0), (1, .int x1), (2, .int x2)] [] h (eI r) r.2) {h : Hp} {x0 : Nat} {x1 : Int32} {x2 : Int32}  {r : Int32 × Hp} (E : f_House_allDrunk_b4  k4 h x0 x1 x2 = some r) : Rn l X mX2_allDrunk d 4 [(0, .ref x0), (1, .int x1), (2, .int x2)] [] h (eI r) r.2 := by
  unfold f_House_allDrunk_b4 at E
  refine Rn.iload_n (pc' := 5) dX2_allDrunk_4 rfl 2 rfl rfl ?_
  refine Rn.bipush (pc' := 7) (v := (30 : Int32)) (hv := by decide) dX2_allDrunk_5 rfl ?_
  refine Rn.icmp_ge (pc' := 10) (tgt := 25) dX2_allDrunk_7 (by decide) rfl (fun c1 => ?_) (fun c1 => ?_)
  · replace E := (if_of E).1 c1
    refine Rn.iload_n (pc' := 26) dX2_allDrunk_25 rfl 1 rfl rfl ?_
    cases E
    exact Rn.zret rfl rfl dX2_allDrunk_26
  · replace E := (if_of E).2 c1
    refine Rn.iload_n (pc' := 11) dX2_allDrunk_10 rfl 1 rfl rfl ?_
    refine Rn.aload_n (pc' := 12) dX2_allDrunk_11 rfl 0 rfl rfl ?_
    obtain ⟨g2, E⟩ := gd_of E
    refine Rn.getR (pc' := 15) fl_X2_9_2 g2 rfl dX2_allDrunk_12 rfl ?_
    refine Rn.iload_n (pc' := 16) dX2_allDrunk_15 rfl 2 rfl rfl ?_
    obtain ⟨g3, E⟩ := gd_of E
    obtain ⟨g4, E⟩ := gd_of E
    refine Rn.iald (pc' := 17) g3 g4 dX2_allDrunk_16 rfl ?_
    refine Rn.iadd (pc' := 18) dX2_allDrunk_17 rfl ?_
    refine Rn.istore_n (pc' := 19) (L' := [(1, .int (x1 + (hI h (hR h x0 5) (ix x2)))), (0, .ref x0), (2, .int x2)]) dX2_allDrunk_18 rfl (by decide) rfl rfl ?_
    refine Rn.iinc (pc' := 22) (v := (x2 + (1 : Int32))) (L' := [(2, .int (x2 + (1 : Int32))), (1, .int (x1 + (hI h (hR h x0 5) (ix x2)))), (0, .ref x0)]) dX2_allDrunk_19 2 rfl rfl (by decide) rfl rfl ?_
    refine Rn.goto (pc' := 4) dX2_allDrunk_22 (by decide) ?_
    refine Rn.sub [2, 1, 0] rfl ?_
    exact hk4 _ _ _ _ _ E
def f_House_allDrunk_L4   (n : Nat) : Hp → Nat → Int32 → Int32 → Option (Int32 × Hp) := Nat.rec (motive := fun _ => Hp → Nat → Int32 → Int32 → Option (Int32 × Hp)) (fun _ _ _ _ => none) (fun _ rec => f_House_allDrunk_b4   rec) n
theorem f_House_allDrunk_L4_ok {l : Launch} {X : Nat × (Nat → Int32)} (hst : l.stackTraces = false) {d : Nat} (hd : 0 ≤ d)     : ∀ (n : Nat) (h : Hp) (x0 : Nat) (x1 : Int32) (x2 : Int32)  (r : Int32 × Hp), f_House_allDrunk_L4   n h x0 x1 x2 = some r → Rn l X mX2_allDrunk d 4 [(0, .ref x0), (1, .int x1), (2, .int x2)] [] h (eI r) r.2 := by
  intro n
  induction n with
  | zero => intro h x0 x1 x2 r E; cases E
  | succ n ih => intro h x0 x1 x2 r E; exact f_House_allDrunk_b4_ok hst hd   ih E
def f_House_allDrunk_b0   (h : Hp) (x0 : Nat)  : Option (Int32 × Hp) :=
f_House_allDrunk_L4   FU h x0 (0 : Int32) (0 : Int32)

set_option maxRecDepth 20000 in
set_option maxHeartbeats 4000000 in
theorem f_House_allDrunk_b0_ok {l : Launch} {X : Nat × (Nat → Int32)} (hst : l.stackTraces = false) {d : Nat} (hd : 0 ≤ d)     {h : Hp} {x0 : Nat}  {r : Int32 × Hp} (E : f_House_allDrunk_b0   h x0 = some r) : Rn l X mX2_allDrunk d 0 [(0, .ref x0)] [] h (eI r) r.2 := by
  unfold f_House_allDrunk_b0 at E
  refine Rn.iconst (pc' := 1) (v := (0 : Int32)) (hv := by decide) dX2_allDrunk_0 rfl ?_
  refine Rn.istore_n (pc' := 2) (L' := [(1, .int (0 : Int32)), (0, .ref x0)]) dX2_allDrunk_1 rfl (by decide) rfl rfl ?_
  refine Rn.iconst (pc' := 3) (v := (0 : Int32)) (hv := by decide) dX2_allDrunk_2 rfl ?_
  refine Rn.istore_n (pc' := 4) (L' := [(2, .int (0 : Int32)), (1, .int (0 : Int32)), (0, .ref x0)]) dX2_allDrunk_3 rfl (by decide) rfl rfl ?_
  refine Rn.sub [2, 1, 0] rfl ?_
  exact f_House_allDrunk_L4_ok hst hd   FU _ _ _ _ _ E
def f_House_allDrunk (h : Hp) (x0 : Nat) : Option (Int32 × Hp) := f_House_allDrunk_b0  h x0
theorem f_House_allDrunk_ok {l : Launch} {X : Nat × (Nat → Int32)} (hst : l.stackTraces = false) {h : Hp} {x0 : Nat} {r : Int32 × Hp} (E : f_House_allDrunk h x0 = some r) : MC l X yX2_allDrunk mX2_allDrunk 0 [.ref x0] h (eI r) r.2 :=
  MC.body (by decide +kernel) rfl (by decide) hst (Nat.le_of_ble_eq_true rfl) (f_House_allDrunk_b0_ok hst (Nat.le_refl _) E)
abbrev mX3_allDrunk : MI := (RX3, cX3_allDrunk, 3, (some Jvm.ClassFile.FieldType.int), [], false)
theorem ws_X3_allDrunk : ∀ w ∈ wsM yX3_allDrunk mX3_allDrunk, w ∈ gw := List.forall_mem_cons.mpr ⟨gw_at 701 (by decide +kernel) (by decide +kernel), fun _ h => h⟩
theorem kb_X3_237 : KB RX3 237 yX2_allDrunk mX2_allDrunk 0 := ⟨gw_at 702 (by decide +kernel) (by decide +kernel), gw_at 115 (by decide +kernel) (by decide +kernel), trivial, ws_X2_allDrunk, by decide +kernel, by decide +kernel, by decide +kernel, by decide⟩
theorem ki_X2_allDrunk : Cond.instanceMethod yX2_allDrunk ∈ gw ∧ Cond.selects yX2_allDrunk.cls yX2_allDrunk yX2_allDrunk ∈ gw := ⟨gw_at 703 (by decide +kernel) (by decide +kernel), gw_at 704 (by decide +kernel) (by decide +kernel)⟩
def f_Land_allDrunk_b7  (k7 : Hp → Nat → Int32 → Int32 → Option (Int32 × Hp)) (h : Hp) (x0 : Nat) (x1 : Int32) (x2 : Int32)  : Option (Int32 × Hp) :=
if hS h x0 = 4 then (
if (hI h x0 1) ≤ x2 then (
some (x1, h)

) else (
if hS h (hR h x0 4) = 24 then (
if ib x2 (hL h (hR h x0 4)) = true then (
if hS h (hR h (hR h x0 4) (ix x2)) = 3 then (
bI (f_House_allDrunk h (hR h (hR h x0 4) (ix x2))) fun v6 h7 =>
k7 h7 x0 (x1 + v6) (x2 + (1 : Int32))
) else none) else none) else none
)
) else none
set_option maxRecDepth 20000 in
set_option maxHeartbeats 4000000 in
theorem f_Land_allDrunk_b7_ok {l : Launch} {X : Nat × (Nat → Int32)} (hst : l.stackTraces = false) {d : Nat} (hd : 1 ≤ d)   {k7 : Hp → Nat → Int32 → Int32 → Option (Int32 × Hp)} (hk7 : ∀ (h : Hp) (x0 : Nat) (x1 : Int32) (x2 : Int32)  (r : Int32 × Hp), k7 h x0 x1 x2 = some r → Rn l X mX3_allDrunk d 7 [(0, .ref x0), (1, .int x1), (2, .int x2)] [] h (eI r) r.2) {h : Hp} {x0 : Nat} {x1 : Int32} {x2 : Int32}  {r : Int32 × Hp} (E : f_Land_allDrunk_b7  k7 h x0 x1 x2 = some r) : Rn l X mX3_allDrunk d 7 [(0, .ref x0), (1, .int x1), (2, .int x2)] [] h (eI r) r.2 := by
  unfold f_Land_allDrunk_b7 at E
  refine Rn.iload_n (pc' := 8) dX3_allDrunk_7 rfl 2 rfl rfl ?_
  refine Rn.aload_n (pc' := 9) dX3_allDrunk_8 rfl 0 rfl rfl ?_
  obtain ⟨g1, E⟩ := gd_of E
  refine Rn.getI (pc' := 12) fl_X3_46_3 g1 rfl dX3_allDrunk_9 rfl ?_
  refine Rn.icmp_ge (pc' := 15) (tgt := 33) dX3_allDrunk_12 (by decide) rfl (fun c2 => ?_) (fun c2 => ?_)
  · replace E := (if_of E).1 c2
    refine Rn.iload_n (pc' := 34) dX3_allDrunk_33 rfl 1 rfl rfl ?_
    cases E
    exact Rn.zret rfl rfl dX3_allDrunk_34
  · replace E := (if_of E).2 c2
    refine Rn.iload_n (pc' := 16) dX3_allDrunk_15 rfl 1 rfl rfl ?_
    refine Rn.aload_n (pc' := 17) dX3_allDrunk_16 rfl 0 rfl rfl ?_
    refine Rn.getR (pc' := 20) fl_X3_19_3 g1 rfl dX3_allDrunk_17 rfl ?_
    refine Rn.iload_n (pc' := 21) dX3_allDrunk_20 rfl 2 rfl rfl ?_
    obtain ⟨g3, E⟩ := gd_of E
    obtain ⟨g4, E⟩ := gd_of E
    refine Rn.aald (pc' := 22) g3 (by decide) (by decide) g4 dX3_allDrunk_21 rfl ?_
    obtain ⟨g5, E⟩ := gd_of E
    obtain ⟨v6, h7, e8, E⟩ := bI_of E
    refine Rn.callV1 (pc' := 25) (As := []) (rest := [.int x1]) (f_House_allDrunk_ok hst e8) (Nat.le_trans (by decide) hd) rfl kb_X3_237 ki_X2_allDrunk rfl g5 rfl rfl (Nat.le_of_ble_eq_true rfl) dX3_allDrunk_22 rfl rfl ?_
    refine Rn.iadd (pc' := 26) dX3_allDrunk_25 rfl ?_
    refine Rn.istore_n (pc' := 27) (L' := [(1, .int (x1 + v6)), (0, .ref x0), (2, .int x2)]) dX3_allDrunk_26 rfl (by decide) rfl rfl ?_
    refine Rn.iinc (pc' := 30) (v := (x2 + (1 : Int32))) (L' := [(2, .int (x2 + (1 : Int32))), (1, .int (x1 + v6)), (0, .ref x0)]) dX3_allDrunk_27 2 rfl rfl (by decide) rfl rfl ?_
    refine Rn.goto (pc' := 7) dX3_allDrunk_30 (by decide) ?_
    refine Rn.sub [2, 1, 0] rfl ?_
    exact hk7 _ _ _ _ _ E
def f_Land_allDrunk_L7   (n : Nat) : Hp → Nat → Int32 → Int32 → Option (Int32 × Hp) := Nat.rec (motive := fun _ => Hp → Nat → Int32 → Int32 → Option (Int32 × Hp)) (fun _ _ _ _ => none) (fun _ rec => f_Land_allDrunk_b7   rec) n
theorem f_Land_allDrunk_L7_ok {l : Launch} {X : Nat × (Nat → Int32)} (hst : l.stackTraces = false) {d : Nat} (hd : 1 ≤ d)     : ∀ (n : Nat) (h : Hp) (x0 : Nat) (x1 : Int32) (x2 : Int32)  (r : Int32 × Hp), f_Land_allDrunk_L7   n h x0 x1 x2 = some r → Rn l X mX3_allDrunk d 7 [(0, .ref x0), (1, .int x1), (2, .int x2)] [] h (eI r) r.2 := by
  intro n
  induction n with
  | zero => intro h x0 x1 x2 r E; cases E
  | succ n ih => intro h x0 x1 x2 r E; exact f_Land_allDrunk_b7_ok hst hd   ih E
theorem fl_X3_87_3 : FL RX3 87 3 15 := ⟨_, rfl, by decide, "VintageWater$Land", gw_at 388 (by decide +kernel) (by decide +kernel), Or.inl rfl⟩
def f_Land_allDrunk_b0   (h : Hp) (x0 : Nat)  : Option (Int32 × Hp) :=
if hS h x0 = 4 then (
f_Land_allDrunk_L7   FU h x0 (hI h x0 15) (0 : Int32)
) else none
set_option maxRecDepth 20000 in
set_option maxHeartbeats 4000000 in
theorem f_Land_allDrunk_b0_ok {l : Launch} {X : Nat × (Nat → Int32)} (hst : l.stackTraces = false) {d : Nat} (hd : 1 ≤ d)     {h : Hp} {x0 : Nat}  {r : Int32 × Hp} (E : f_Land_allDrunk_b0   h x0 = some r) : Rn l X mX3_allDrunk d 0 [(0, .ref x0)] [] h (eI r) r.2 := by
  unfold f_Land_allDrunk_b0 at E
  refine Rn.aload_n (pc' := 1) dX3_allDrunk_0 rfl 0 rfl rfl ?_
  obtain ⟨g1, E⟩ := gd_of E
  refine Rn.getI (pc' := 4) fl_X3_87_3 g1 rfl dX3_allDrunk_1 rfl ?_
  refine Rn.istore_n (pc' := 5) (L' := [(1, .int (hI h x0 15)), (0, .ref x0)]) dX3_allDrunk_4 rfl (by decide) rfl rfl ?_
  refine Rn.iconst (pc' := 6) (v := (0 : Int32)) (hv := by decide) dX3_allDrunk_5 rfl ?_
  refine Rn.istore_n (pc' := 7) (L' := [(2, .int (0 : Int32)), (1, .int (hI h x0 15)), (0, .ref x0)]) dX3_allDrunk_6 rfl (by decide) rfl rfl ?_
  refine Rn.sub [2, 1, 0] rfl ?_
  exact f_Land_allDrunk_L7_ok hst hd   FU _ _ _ _ _ E
def f_Land_allDrunk (h : Hp) (x0 : Nat) : Option (Int32 × Hp) := f_Land_allDrunk_b0  h x0
theorem f_Land_allDrunk_ok {l : Launch} {X : Nat × (Nat → Int32)} (hst : l.stackTraces = false) {h : Hp} {x0 : Nat} {r : Int32 × Hp} (E : f_Land_allDrunk h x0 = some r) : MC l X yX3_allDrunk mX3_allDrunk 1 [.ref x0] h (eI r) r.2 :=
  MC.body (by decide +kernel) rfl (by decide) hst (Nat.le_of_ble_eq_true rfl) (f_Land_allDrunk_b0_ok hst (Nat.le_refl _) E)
abbrev mX3_allMeasures : MI := (RX3, cX3_allMeasures, 3, (some Jvm.ClassFile.FieldType.int), [], false)
theorem ws_X3_allMeasures : ∀ w ∈ wsM yX3_allMeasures mX3_allMeasures, w ∈ gw := List.forall_mem_cons.mpr ⟨gw_at 697 (by decide +kernel) (by decide +kernel), fun _ h => h⟩
theorem fl_X3_43_3 : FL RX3 43 3 0 := ⟨_, rfl, by decide, "VintageWater$Land", gw_at 359 (by decide +kernel) (by decide +kernel), Or.inl rfl⟩
theorem fl_X3_160_0 : FL RX3 160 0 5 := ⟨_, rfl, by decide, "VintageWater$Cistern", gw_at 286 (by decide +kernel) (by decide +kernel), Or.inl rfl⟩
def f_Land_allMeasures_b4  (k4 : Hp → Nat → Int32 → Int32 → Option (Int32 × Hp)) (h : Hp) (x0 : Nat) (x1 : Int32) (x2 : Int32)  : Option (Int32 × Hp) :=
if hS h x0 = 4 then (
if (hI h x0 0) ≤ x2 then (
some (x1, h)

) else (
if hS h (hR h x0 3) = 23 then (
if ib x2 (hL h (hR h x0 3)) = true then (
if hS h (hR h (hR h x0 3) (ix x2)) = 1 then (
k4 h x0 (x1 + (hI h (hR h (hR h x0 3) (ix x2)) 5)) (x2 + (1 : Int32))
) else none) else none) else none
)
) else none
set_option maxRecDepth 20000 in
set_option maxHeartbeats 4000000 in
theorem f_Land_allMeasures_b4_ok {l : Launch} {X : Nat × (Nat → Int32)} (hst : l.stackTraces = false) {d : Nat} (hd : 0 ≤ d)   {k4 : Hp → Nat → Int32 → Int32 → Option (Int32 × Hp)} (hk4 : ∀ (h : Hp) (x0 : Nat) (x1 : Int32) (x2 : Int32)  (r : Int32 × Hp), k4 h x0 x1 x2 = some r → Rn l X mX3_allMeasures d 4 [(0, .ref x0), (1, .int x1), (2, .int x2)] [] h (eI r) r.2) {h : Hp} {x0 : Nat} {x1 : Int32} {x2 : Int32}  {r : Int32 × Hp} (E : f_Land_allMeasures_b4  k4 h x0 x1 x2 = some r) : Rn l X mX3_allMeasures d 4 [(0, .ref x0), (1, .int x1), (2, .int x2)] [] h (eI r) r.2 := by
  unfold f_Land_allMeasures_b4 at E
  refine Rn.iload_n (pc' := 5) dX3_allMeasures_4 rfl 2 rfl rfl ?_
  refine Rn.aload_n (pc' := 6) dX3_allMeasures_5 rfl 0 rfl rfl ?_
  obtain ⟨g1, E⟩ := gd_of E
  refine Rn.getI (pc' := 9) fl_X3_43_3 g1 rfl dX3_allMeasures_6 rfl ?_
  refine Rn.icmp_ge (pc' := 12) (tgt := 30) dX3_allMeasures_9 (by decide) rfl (fun c2 => ?_) (fun c2 => ?_)
  · replace E := (if_of E).1 c2
    refine Rn.iload_n (pc' := 31) dX3_allMeasures_30 rfl 1 rfl rfl ?_
    cases E
    exact Rn.zret rfl rfl dX3_allMeasures_31
  · replace E := (if_of E).2 c2
    refine Rn.iload_n (pc' := 13) dX3_allMeasures_12 rfl 1 rfl rfl ?_
    refine Rn.aload_n (pc' := 14) dX3_allMeasures_13 rfl 0 rfl rfl ?_
    refine Rn.getR (pc' := 17) fl_X3_11_3 g1 rfl dX3_allMeasures_14 rfl ?_
    refine Rn.iload_n (pc' := 18) dX3_allMeasures_17 rfl 2 rfl rfl ?_
    obtain ⟨g3, E⟩ := gd_of E
    obtain ⟨g4, E⟩ := gd_of E
    refine Rn.aald (pc' := 19) g3 (by decide) (by decide) g4 dX3_allMeasures_18 rfl ?_
    obtain ⟨g5, E⟩ := gd_of E
    refine Rn.getI (pc' := 22) fl_X3_160_0 g5 rfl dX3_allMeasures_19 rfl ?_
    refine Rn.iadd (pc' := 23) dX3_allMeasures_22 rfl ?_
    refine Rn.istore_n (pc' := 24) (L' := [(1, .int (x1 + (hI h (hR h (hR h x0 3) (ix x2)) 5))), (0, .ref x0), (2, .int x2)]) dX3_allMeasures_23 rfl (by decide) rfl rfl ?_
    refine Rn.iinc (pc' := 27) (v := (x2 + (1 : Int32))) (L' := [(2, .int (x2 + (1 : Int32))), (1, .int (x1 + (hI h (hR h (hR h x0 3) (ix x2)) 5))), (0, .ref x0)]) dX3_allMeasures_24 2 rfl rfl (by decide) rfl rfl ?_
    refine Rn.goto (pc' := 4) dX3_allMeasures_27 (by decide) ?_
    refine Rn.sub [2, 1, 0] rfl ?_
    exact hk4 _ _ _ _ _ E
def f_Land_allMeasures_L4   (n : Nat) : Hp → Nat → Int32 → Int32 → Option (Int32 × Hp) := Nat.rec (motive := fun _ => Hp → Nat → Int32 → Int32 → Option (Int32 × Hp)) (fun _ _ _ _ => none) (fun _ rec => f_Land_allMeasures_b4   rec) n
theorem f_Land_allMeasures_L4_ok {l : Launch} {X : Nat × (Nat → Int32)} (hst : l.stackTraces = false) {d : Nat} (hd : 0 ≤ d)     : ∀ (n : Nat) (h : Hp) (x0 : Nat) (x1 : Int32) (x2 : Int32)  (r : Int32 × Hp), f_Land_allMeasures_L4   n h x0 x1 x2 = some r → Rn l X mX3_allMeasures d 4 [(0, .ref x0), (1, .int x1), (2, .int x2)] [] h (eI r) r.2 := by
  intro n
  induction n with
  | zero => intro h x0 x1 x2 r E; cases E
  | succ n ih => intro h x0 x1 x2 r E; exact f_Land_allMeasures_b4_ok hst hd   ih E
def f_Land_allMeasures_b0   (h : Hp) (x0 : Nat)  : Option (Int32 × Hp) :=
f_Land_allMeasures_L4   FU h x0 (0 : Int32) (0 : Int32)

set_option maxRecDepth 20000 in
set_option maxHeartbeats 4000000 in
theorem f_Land_allMeasures_b0_ok {l : Launch} {X : Nat × (Nat → Int32)} (hst : l.stackTraces = false) {d : Nat} (hd : 0 ≤ d)     {h : Hp} {x0 : Nat}  {r : Int32 × Hp} (E : f_Land_allMeasures_b0   h x0 = some r) : Rn l X mX3_allMeasures d 0 [(0, .ref x0)] [] h (eI r) r.2 := by
  unfold f_Land_allMeasures_b0 at E
  refine Rn.iconst (pc' := 1) (v := (0 : Int32)) (hv := by decide) dX3_allMeasures_0 rfl ?_
  refine Rn.istore_n (pc' := 2) (L' := [(1, .int (0 : Int32)), (0, .ref x0)]) dX3_allMeasures_1 rfl (by decide) rfl rfl ?_
  refine Rn.iconst (pc' := 3) (v := (0 : Int32)) (hv := by decide) dX3_allMeasures_2 rfl ?_
  refine Rn.istore_n (pc' := 4) (L' := [(2, .int (0 : Int32)), (1, .int (0 : Int32)), (0, .ref x0)]) dX3_allMeasures_3 rfl (by decide) rfl rfl ?_
  refine Rn.sub [2, 1, 0] rfl ?_
  exact f_Land_allMeasures_L4_ok hst hd   FU _ _ _ _ _ E
def f_Land_allMeasures (h : Hp) (x0 : Nat) : Option (Int32 × Hp) := f_Land_allMeasures_b0  h x0
theorem f_Land_allMeasures_ok {l : Launch} {X : Nat × (Nat → Int32)} (hst : l.stackTraces = false) {h : Hp} {x0 : Nat} {r : Int32 × Hp} (E : f_Land_allMeasures h x0 = some r) : MC l X yX3_allMeasures mX3_allMeasures 0 [.ref x0] h (eI r) r.2 :=
  MC.body (by decide +kernel) rfl (by decide) hst (Nat.le_of_ble_eq_true rfl) (f_Land_allMeasures_b0_ok hst (Nat.le_refl _) E)
abbrev mJ9_min_7cf53 : MI := (RJ9, cJ9_min_7cf53, 2, (some Jvm.ClassFile.FieldType.int), [], false)
theorem ws_J9_min_7cf53 : ∀ w ∈ wsM yJ9_min_7cf53 mJ9_min_7cf53, w ∈ gw := List.forall_mem_cons.mpr ⟨gw_at 553 (by decide +kernel) (by decide +kernel), fun _ h => h⟩
def f_Math_min_b0   (h : Hp) (x0 : Int32) (x1 : Int32)  : Option (Int32 × Hp) :=
if x1 < x0 then (
some (x1, h)

) else (
some (x0, h)

)

set_option maxRecDepth 20000 in
set_option maxHeartbeats 4000000 in
theorem f_Math_min_b0_ok {l : Launch} {X : Nat × (Nat → Int32)} (hst : l.stackTraces = false) {d : Nat} (hd : 0 ≤ d)     {h : Hp} {x0 : Int32} {x1 : Int32}  {r : Int32 × Hp} (E : f_Math_min_b0   h x0 x1 = some r) : Rn l X mJ9_min_7cf53 d 0 [(0, .int x0), (1, .int x1)] [] h (eI r) r.2 := by
  unfold f_Math_min_b0 at E
  refine Rn.iload_n (pc' := 1) dJ9_min_7cf53_0 rfl 0 rfl rfl ?_
  refine Rn.iload_n (pc' := 2) dJ9_min_7cf53_1 rfl 1 rfl rfl ?_
  refine Rn.icmp_gt (pc' := 5) (tgt := 9) dJ9_min_7cf53_2 (by decide) rfl (fun c1 => ?_) (fun c1 => ?_)
  · replace E := (if_of E).1 c1
    refine Rn.iload_n (pc' := 10) dJ9_min_7cf53_9 rfl 1 rfl rfl ?_
    cases E
    exact Rn.zret rfl rfl dJ9_min_7cf53_10
  · replace E := (if_of E).2 c1
    refine Rn.iload_n (pc' := 6) dJ9_min_7cf53_5 rfl 0 rfl rfl ?_
    refine Rn.goto (pc' := 10) dJ9_min_7cf53_6 (by decide) ?_
    cases E
    exact Rn.zret rfl rfl dJ9_min_7cf53_10
def f_Math_min (h : Hp) (x0 : Int32) (x1 : Int32) : Option (Int32 × Hp) := f_Math_min_b0  h x0 x1
theorem f_Math_min_ok {l : Launch} {X : Nat × (Nat → Int32)} (hst : l.stackTraces = false) {h : Hp} {x0 : Int32} {x1 : Int32} {r : Int32 × Hp} (E : f_Math_min h x0 x1 = some r) : MC l X yJ9_min_7cf53 mJ9_min_7cf53 0 [.int x0, .int x1] h (eI r) r.2 :=
  MC.body (by decide +kernel) rfl (by decide) hst (Nat.le_of_ble_eq_true rfl) (f_Math_min_b0_ok hst (Nat.le_refl _) E)
abbrev mX3_yearNow : MI := (RX3, cX3_yearNow, 1, (some Jvm.ClassFile.FieldType.int), [], false)
theorem ws_X3_yearNow : ∀ w ∈ wsM yX3_yearNow mX3_yearNow, w ∈ gw := List.forall_mem_cons.mpr ⟨gw_at 598 (by decide +kernel) (by decide +kernel), fun _ h => h⟩
theorem fl_X3_75_3 : FL RX3 75 3 10 := ⟨_, rfl, by decide, "VintageWater$Land", gw_at 378 (by decide +kernel) (by decide +kernel), Or.inl rfl⟩
theorem kb_X3_114 : KB RX3 114 yJ9_min_7cf53 mJ9_min_7cf53 2 := ⟨gw_at 551 (by decide +kernel) (by decide +kernel), gw_at 128 (by decide +kernel) (by decide +kernel), trivial, ws_J9_min_7cf53, by decide +kernel, by decide +kernel, by decide +kernel, by decide⟩
theorem ks_J9_min_7cf53 : Cond.static yJ9_min_7cf53 ∈ gw := gw_at 552 (by decide +kernel) (by decide +kernel)
def f_Land_yearNow_b0   (h : Hp) (x0 : Nat)  : Option (Int32 × Hp) :=
if hS h x0 = 4 then (
bI (f_Math_min h (29 : Int32) ((hI h x0 10) / (12 : Int32))) fun v2 h3 =>
some (v2, h3)
) else none
set_option maxRecDepth 20000 in
set_option maxHeartbeats 4000000 in
theorem f_Land_yearNow_b0_ok {l : Launch} {X : Nat × (Nat → Int32)} (hst : l.stackTraces = false) {d : Nat} (hd : 1 ≤ d)     {h : Hp} {x0 : Nat}  {r : Int32 × Hp} (E : f_Land_yearNow_b0   h x0 = some r) : Rn l X mX3_yearNow d 0 [(0, .ref x0)] [] h (eI r) r.2 := by
  unfold f_Land_yearNow_b0 at E
  refine Rn.bipush (pc' := 2) (v := (29 : Int32)) (hv := by decide) dX3_yearNow_0 rfl ?_
  refine Rn.aload_n (pc' := 3) dX3_yearNow_2 rfl 0 rfl rfl ?_
  obtain ⟨g1, E⟩ := gd_of E
  refine Rn.getI (pc' := 6) fl_X3_75_3 g1 rfl dX3_yearNow_3 rfl ?_
  refine Rn.bipush (pc' := 8) (v := (12 : Int32)) (hv := by decide) dX3_yearNow_6 rfl ?_
  refine Rn.idiv (pc' := 9) (hne := (by decide)) dX3_yearNow_8 rfl ?_
  obtain ⟨v2, h3, e4, E⟩ := bI_of E
  refine Rn.callS1 (pc' := 12) (As := [.int (29 : Int32), .int ((hI h x0 10) / (12 : Int32))]) (rest := []) (f_Math_min_ok hst e4) (Nat.le_trans (by decide) hd) rfl kb_X3_114 ks_J9_min_7cf53 rfl rfl (Nat.le_of_ble_eq_true rfl) dX3_yearNow_9 rfl rfl ?_
  cases E
  exact Rn.zret rfl rfl dX3_yearNow_12
def f_Land_yearNow (h : Hp) (x0 : Nat) : Option (Int32 × Hp) := f_Land_yearNow_b0  h x0
theorem f_Land_yearNow_ok {l : Launch} {X : Nat × (Nat → Int32)} (hst : l.stackTraces = false) {h : Hp} {x0 : Nat} {r : Int32 × Hp} (E : f_Land_yearNow h x0 = some r) : MC l X yX3_yearNow mX3_yearNow 1 [.ref x0] h (eI r) r.2 :=
  MC.body (by decide +kernel) rfl (by decide) hst (Nat.le_of_ble_eq_true rfl) (f_Land_yearNow_b0_ok hst (Nat.le_refl _) E)
abbrev mX10_count : MI := (RX10, cX10_count, 2, (some Jvm.ClassFile.FieldType.int), [], false)
theorem ws_X10_count : ∀ w ∈ wsM yX10_count mX10_count, w ∈ gw := List.forall_mem_cons.mpr ⟨gw_at 692 (by decide +kernel) (by decide +kernel), fun _ h => h⟩
theorem fl_X10_73_3 : FL RX10 73 3 0 := ⟨_, rfl, by decide, "VintageWater$Land", gw_at 360 (by decide +kernel) (by decide +kernel), Or.inl rfl⟩
theorem fl_X10_76_3 : FL RX10 76 3 1 := ⟨_, rfl, by decide, "VintageWater$Land", gw_at 362 (by decide +kernel) (by decide +kernel), Or.inl rfl⟩
theorem fl_X10_95_3 : FL RX10 95 3 9 := ⟨_, rfl, by decide, "VintageWater$Land", gw_at 377 (by decide +kernel) (by decide +kernel), Or.inl rfl⟩
theorem fl_X10_114_3 : FL RX10 114 3 8 := ⟨_, rfl, by decide, "VintageWater$Land", gw_at 375 (by decide +kernel) (by decide +kernel), Or.inl rfl⟩
theorem fl_X10_118_5 : FL RX10 118 5 0 := ⟨_, rfl, by decide, "VintageWater$Law", gw_at 1078 (by decide +kernel) (by decide +kernel), Or.inl rfl⟩
theorem fl_X10_225_3 : FL RX10 225 3 10 := ⟨_, rfl, by decide, "VintageWater$Land", gw_at 379 (by decide +kernel) (by decide +kernel), Or.inl rfl⟩
theorem kb_X10_365 : KB RX10 365 yX3_yearNow mX3_yearNow 0 := ⟨gw_at 693 (by decide +kernel) (by decide +kernel), gw_at 113 (by decide +kernel) (by decide +kernel), trivial, ws_X3_yearNow, by decide +kernel, by decide +kernel, by decide +kernel, by decide⟩
theorem ki_X3_yearNow : Cond.instanceMethod yX3_yearNow ∈ gw ∧ Cond.selects yX3_yearNow.cls yX3_yearNow yX3_yearNow ∈ gw := ⟨gw_at 596 (by decide +kernel) (by decide +kernel), gw_at 597 (by decide +kernel) (by decide +kernel)⟩
theorem kb_X10_368 : KB RX10 368 yX3_allMeasures mX3_allMeasures 0 := ⟨gw_at 694 (by decide +kernel) (by decide +kernel), gw_at 113 (by decide +kernel) (by decide +kernel), trivial, ws_X3_allMeasures, by decide +kernel, by decide +kernel, by decide +kernel, by decide⟩
theorem ki_X3_allMeasures : Cond.instanceMethod yX3_allMeasures ∈ gw ∧ Cond.selects yX3_allMeasures.cls yX3_allMeasures yX3_allMeasures ∈ gw := ⟨gw_at 695 (by decide +kernel) (by decide +kernel), gw_at 696 (by decide +kernel) (by decide +kernel)⟩
theorem kb_X10_371 : KB RX10 371 yX3_allDrunk mX3_allDrunk 0 := ⟨gw_at 698 (by decide +kernel) (by decide +kernel), gw_at 113 (by decide +kernel) (by decide +kernel), trivial, ws_X3_allDrunk, by decide +kernel, by decide +kernel, by decide +kernel, by decide⟩
theorem ki_X3_allDrunk : Cond.instanceMethod yX3_allDrunk ∈ gw ∧ Cond.selects yX3_allDrunk.cls yX3_allDrunk yX3_allDrunk ∈ gw := ⟨gw_at 699 (by decide +kernel) (by decide +kernel), gw_at 700 (by decide +kernel) (by decide +kernel)⟩
theorem fl_X10_372_3 : FL RX10 372 3 12 := ⟨_, rfl, by decide, "VintageWater$Land", gw_at 383 (by decide +kernel) (by decide +kernel), Or.inl rfl⟩
theorem fl_X10_375_3 : FL RX10 375 3 13 := ⟨_, rfl, by decide, "VintageWater$Land", gw_at 385 (by decide +kernel) (by decide +kernel), Or.inl rfl⟩
theorem fl_X10_378_3 : FL RX10 378 3 14 := ⟨_, rfl, by decide, "VintageWater$Land", gw_at 387 (by decide +kernel) (by decide +kernel), Or.inl rfl⟩
theorem fl_X10_214_7 : FL RX10 214 7 2 := ⟨_, rfl, by decide, "VintageWater$Memory", gw_at 425 (by decide +kernel) (by decide +kernel), Or.inl rfl⟩
theorem kb_X10_381 : KB RX10 381 yX3_allThirst mX3_allThirst 0 := ⟨gw_at 706 (by decide +kernel) (by decide +kernel), gw_at 113 (by decide +kernel) (by decide +kernel), trivial, ws_X3_allThirst, by decide +kernel, by decide +kernel, by decide +kernel, by decide⟩
theorem ki_X3_allThirst : Cond.instanceMethod yX3_allThirst ∈ gw ∧ Cond.selects yX3_allThirst.cls yX3_allThirst yX3_allThirst ∈ gw := ⟨gw_at 707 (by decide +kernel) (by decide +kernel), gw_at 708 (by decide +kernel) (by decide +kernel)⟩
theorem fl_X10_311_3 : FL RX10 311 3 2 := ⟨_, rfl, by decide, "VintageWater$Land", gw_at 364 (by decide +kernel) (by decide +kernel), Or.inl rfl⟩
def f_Water_count_b0   (h : Hp) (x0 : Nat) (x1 : Int32)  : Option (Int32 × Hp) :=
if x1 = (0 : Int32) then (
if hS h x0 = 10 then (
if hS h (hR h x0 4) = 4 then (
some ((hI h (hR h x0 4) 0), h)
) else none) else none
) else (
if x1 = (1 : Int32) then (
if hS h x0 = 10 then (
if hS h (hR h x0 4) = 4 then (
some ((hI h (hR h x0 4) 1), h)
) else none) else none
) else (
if x1 = (2 : Int32) then (
if hS h x0 = 10 then (
if hS h (hR h x0 4) = 4 then (
some ((hI h (hR h x0 4) 9), h)
) else none) else none
) else (
if x1 = (3 : Int32) then (
if hS h x0 = 10 then (
if hS h (hR h x0 4) = 4 then (
if (hR h (hR h x0 4) 8) = 0 then (
some ((-1 : Int32), h)

) else (
if hS h (hR h (hR h x0 4) 8) = 6 then (
some ((hI h (hR h (hR h x0 4) 8) 0), h)
) else none
)
) else none) else none
) else (
if x1 = (4 : Int32) then (
if hS h x0 = 10 then (
if hS h (hR h x0 4) = 4 then (
some ((hI h (hR h x0 4) 10), h)
) else none) else none
) else (
if x1 = (5 : Int32) then (
if hS h x0 = 10 then (
if hS h (hR h x0 4) = 4 then (
bI (f_Land_yearNow h (hR h x0 4)) fun v23 h24 =>
some (v23, h24)
) else none) else none
) else (
if x1 = (6 : Int32) then (
if hS h x0 = 10 then (
if hS h (hR h x0 4) = 4 then (
bI (f_Land_allMeasures h (hR h x0 4)) fun v29 h30 =>
some (v29, h30)
) else none) else none
) else (
if x1 = (7 : Int32) then (
if hS h x0 = 10 then (
if hS h (hR h x0 4) = 4 then (
bI (f_Land_allDrunk h (hR h x0 4)) fun v35 h36 =>
some (v35, h36)
) else none) else none
) else (
if x1 = (8 : Int32) then (
if hS h x0 = 10 then (
if hS h (hR h x0 4) = 4 then (
some ((hI h (hR h x0 4) 12), h)
) else none) else none
) else (
if x1 = (9 : Int32) then (
if hS h x0 = 10 then (
if hS h (hR h x0 4) = 4 then (
some ((hI h (hR h x0 4) 13), h)
) else none) else none
) else (
if x1 = (10 : Int32) then (
if hS h x0 = 10 then (
if hS h (hR h x0 4) = 4 then (
some ((hI h (hR h x0 4) 14), h)
) else none) else none
) else (
if x1 = (11 : Int32) then (
if hS h x0 = 10 then (
if hS h (hR h x0 3) = 8 then (
some ((hI h (hR h x0 3) 2), h)
) else none) else none
) else (
if x1 = (12 : Int32) then (
if hS h x0 = 10 then (
if hS h (hR h x0 4) = 4 then (
bI (f_Land_allThirst h (hR h x0 4)) fun v53 h54 =>
some (v53, h54)
) else none) else none
) else (
if x1 = (13 : Int32) then (
if hS h x0 = 10 then (
if hS h (hR h x0 4) = 4 then (
some ((hI h (hR h x0 4) 2), h)
) else none) else none
) else (
some ((-1 : Int32), h)

))))))))))))))

set_option maxRecDepth 20000 in
set_option maxHeartbeats 4000000 in
theorem f_Water_count_b0_ok {l : Launch} {X : Nat × (Nat → Int32)} (hst : l.stackTraces = false) {d : Nat} (hd : 2 ≤ d)     {h : Hp} {x0 : Nat} {x1 : Int32}  {r : Int32 × Hp} (E : f_Water_count_b0   h x0 x1 = some r) : Rn l X mX10_count d 0 [(0, .ref x0), (1, .int x1)] [] h (eI r) r.2 := by
  unfold f_Water_count_b0 at E
  refine Rn.iload_n (pc' := 1) dX10_count_0 rfl 1 rfl rfl ?_
  by_cases c3 : x1 = (0 : Int32)
  · replace E := (if_of E).1 c3
    skip
    refine Rn.tabIn (x := x1) (tgt := 72) dX10_count_1 (by rw [c3]; decide) (by rw [c3]; decide) (by rw [c3]; rfl) (by decide) ?_
    refine Rn.aload_n (pc' := 73) dX10_count_72 rfl 0 rfl rfl ?_
    obtain ⟨g4, E⟩ := gd_of E
    refine Rn.getR (pc' := 76) fl_X10_42_9 g4 rfl dX10_count_73 rfl ?_
    obtain ⟨g5, E⟩ := gd_of E
    refine Rn.getI (pc' := 79) fl_X10_73_3 g5 rfl dX10_count_76 rfl ?_
    cases E
    exact Rn.zret rfl rfl dX10_count_79
  replace E := (if_of E).2 c3
  by_cases c6 : x1 = (1 : Int32)
  · replace E := (if_of E).1 c6
    skip
    refine Rn.tabIn (x := x1) (tgt := 80) dX10_count_1 (by rw [c6]; decide) (by rw [c6]; decide) (by rw [c6]; rfl) (by decide) ?_
    refine Rn.aload_n (pc' := 81) dX10_count_80 rfl 0 rfl rfl ?_
    obtain ⟨g7, E⟩ := gd_of E
    refine Rn.getR (pc' := 84) fl_X10_42_9 g7 rfl dX10_count_81 rfl ?_
    obtain ⟨g8, E⟩ := gd_of E
    refine Rn.getI (pc' := 87) fl_X10_76_3 g8 rfl dX10_count_84 rfl ?_
    cases E
    exact Rn.zret rfl rfl dX10_count_87
  replace E := (if_of E).2 c6
  by_cases c9 : x1 = (2 : Int32)
  · replace E := (if_of E).1 c9
    skip
    refine Rn.tabIn (x := x1) (tgt := 88) dX10_count_1 (by rw [c9]; decide) (by rw [c9]; decide) (by rw [c9]; rfl) (by decide) ?_
    refine Rn.aload_n (pc' := 89) dX10_count_88 rfl 0 rfl rfl ?_
    obtain ⟨g10, E⟩ := gd_of E
    refine Rn.getR (pc' := 92) fl_X10_42_9 g10 rfl dX10_count_89 rfl ?_
    obtain ⟨g11, E⟩ := gd_of E
    refine Rn.getI (pc' := 95) fl_X10_95_3 g11 rfl dX10_count_92 rfl ?_
    cases E
    exact Rn.zret rfl rfl dX10_count_95
  replace E := (if_of E).2 c9
  by_cases c12 : x1 = (3 : Int32)
  · replace E := (if_of E).1 c12
    skip
    refine Rn.tabIn (x := x1) (tgt := 96) dX10_count_1 (by rw [c12]; decide) (by rw [c12]; decide) (by rw [c12]; rfl) (by decide) ?_
    refine Rn.aload_n (pc' := 97) dX10_count_96 rfl 0 rfl rfl ?_
    obtain ⟨g13, E⟩ := gd_of E
    refine Rn.getR (pc' := 100) fl_X10_42_9 g13 rfl dX10_count_97 rfl ?_
    obtain ⟨g14, E⟩ := gd_of E
    refine Rn.getR (pc' := 103) fl_X10_114_3 g14 rfl dX10_count_100 rfl ?_
    refine Rn.ifnonnull (pc' := 106) (tgt := 110) dX10_count_103 (by decide) rfl (fun c15 => ?_) (fun c15 => ?_)
    · replace E := (if_of E).1 c15
      refine Rn.iconst (pc' := 107) (v := (-1 : Int32)) (hv := by decide) dX10_count_106 rfl ?_
      refine Rn.goto (pc' := 120) dX10_count_107 (by decide) ?_
      cases E
      exact Rn.zret rfl rfl dX10_count_120
    · replace E := (if_of E).2 c15
      refine Rn.aload_n (pc' := 111) dX10_count_110 rfl 0 rfl rfl ?_
      refine Rn.getR (pc' := 114) fl_X10_42_9 g13 rfl dX10_count_111 rfl ?_
      refine Rn.getR (pc' := 117) fl_X10_114_3 g14 rfl dX10_count_114 rfl ?_
      obtain ⟨g16, E⟩ := gd_of E
      refine Rn.getI (pc' := 120) fl_X10_118_5 g16 rfl dX10_count_117 rfl ?_
      cases E
      exact Rn.zret rfl rfl dX10_count_120
  replace E := (if_of E).2 c12
  by_cases c17 : x1 = (4 : Int32)
  · replace E := (if_of E).1 c17
    skip
    refine Rn.tabIn (x := x1) (tgt := 121) dX10_count_1 (by rw [c17]; decide) (by rw [c17]; decide) (by rw [c17]; rfl) (by decide) ?_
    refine Rn.aload_n (pc' := 122) dX10_count_121 rfl 0 rfl rfl ?_
    obtain ⟨g18, E⟩ := gd_of E
    refine Rn.getR (pc' := 125) fl_X10_42_9 g18 rfl dX10_count_122 rfl ?_
    obtain ⟨g19, E⟩ := gd_of E
    refine Rn.getI (pc' := 128) fl_X10_225_3 g19 rfl dX10_count_125 rfl ?_
    cases E
    exact Rn.zret rfl rfl dX10_count_128
  replace E := (if_of E).2 c17
  by_cases c20 : x1 = (5 : Int32)
  · replace E := (if_of E).1 c20
    skip
    refine Rn.tabIn (x := x1) (tgt := 129) dX10_count_1 (by rw [c20]; decide) (by rw [c20]; decide) (by rw [c20]; rfl) (by decide) ?_
    refine Rn.aload_n (pc' := 130) dX10_count_129 rfl 0 rfl rfl ?_
    obtain ⟨g21, E⟩ := gd_of E
    refine Rn.getR (pc' := 133) fl_X10_42_9 g21 rfl dX10_count_130 rfl ?_
    obtain ⟨g22, E⟩ := gd_of E
    obtain ⟨v23, h24, e25, E⟩ := bI_of E
    refine Rn.callV1 (pc' := 136) (As := []) (rest := []) (f_Land_yearNow_ok hst e25) (Nat.le_trans (by decide) hd) rfl kb_X10_365 ki_X3_yearNow rfl g22 rfl rfl (Nat.le_of_ble_eq_true rfl) dX10_count_133 rfl rfl ?_
    cases E
    exact Rn.zret rfl rfl dX10_count_136
  replace E := (if_of E).2 c20
  by_cases c26 : x1 = (6 : Int32)
  · replace E := (if_of E).1 c26
    skip
    refine Rn.tabIn (x := x1) (tgt := 137) dX10_count_1 (by rw [c26]; decide) (by rw [c26]; decide) (by rw [c26]; rfl) (by decide) ?_
    refine Rn.aload_n (pc' := 138) dX10_count_137 rfl 0 rfl rfl ?_
    obtain ⟨g27, E⟩ := gd_of E
    refine Rn.getR (pc' := 141) fl_X10_42_9 g27 rfl dX10_count_138 rfl ?_
    obtain ⟨g28, E⟩ := gd_of E
    obtain ⟨v29, h30, e31, E⟩ := bI_of E
    refine Rn.callV1 (pc' := 144) (As := []) (rest := []) (f_Land_allMeasures_ok hst e31) (Nat.le_trans (by decide) hd) rfl kb_X10_368 ki_X3_allMeasures rfl g28 rfl rfl (Nat.le_of_ble_eq_true rfl) dX10_count_141 rfl rfl ?_
    cases E
    exact Rn.zret rfl rfl dX10_count_144
  replace E := (if_of E).2 c26
  by_cases c32 : x1 = (7 : Int32)
  · replace E := (if_of E).1 c32
    skip
    refine Rn.tabIn (x := x1) (tgt := 145) dX10_count_1 (by rw [c32]; decide) (by rw [c32]; decide) (by rw [c32]; rfl) (by decide) ?_
    refine Rn.aload_n (pc' := 146) dX10_count_145 rfl 0 rfl rfl ?_
    obtain ⟨g33, E⟩ := gd_of E
    refine Rn.getR (pc' := 149) fl_X10_42_9 g33 rfl dX10_count_146 rfl ?_
    obtain ⟨g34, E⟩ := gd_of E
    obtain ⟨v35, h36, e37, E⟩ := bI_of E
    refine Rn.callV1 (pc' := 152) (As := []) (rest := []) (f_Land_allDrunk_ok hst e37) (Nat.le_trans (by decide) hd) rfl kb_X10_371 ki_X3_allDrunk rfl g34 rfl rfl (Nat.le_of_ble_eq_true rfl) dX10_count_149 rfl rfl ?_
    cases E
    exact Rn.zret rfl rfl dX10_count_152
  replace E := (if_of E).2 c32
  by_cases c38 : x1 = (8 : Int32)
  · replace E := (if_of E).1 c38
    skip
    refine Rn.tabIn (x := x1) (tgt := 153) dX10_count_1 (by rw [c38]; decide) (by rw [c38]; decide) (by rw [c38]; rfl) (by decide) ?_
    refine Rn.aload_n (pc' := 154) dX10_count_153 rfl 0 rfl rfl ?_
    obtain ⟨g39, E⟩ := gd_of E
    refine Rn.getR (pc' := 157) fl_X10_42_9 g39 rfl dX10_count_154 rfl ?_
    obtain ⟨g40, E⟩ := gd_of E
    refine Rn.getI (pc' := 160) fl_X10_372_3 g40 rfl dX10_count_157 rfl ?_
    cases E
    exact Rn.zret rfl rfl dX10_count_160
  replace E := (if_of E).2 c38
  by_cases c41 : x1 = (9 : Int32)
  · replace E := (if_of E).1 c41
    skip
    refine Rn.tabIn (x := x1) (tgt := 161) dX10_count_1 (by rw [c41]; decide) (by rw [c41]; decide) (by rw [c41]; rfl) (by decide) ?_
    refine Rn.aload_n (pc' := 162) dX10_count_161 rfl 0 rfl rfl ?_
    obtain ⟨g42, E⟩ := gd_of E
    refine Rn.getR (pc' := 165) fl_X10_42_9 g42 rfl dX10_count_162 rfl ?_
    obtain ⟨g43, E⟩ := gd_of E
    refine Rn.getI (pc' := 168) fl_X10_375_3 g43 rfl dX10_count_165 rfl ?_
    cases E
    exact Rn.zret rfl rfl dX10_count_168
  replace E := (if_of E).2 c41
  by_cases c44 : x1 = (10 : Int32)
  · replace E := (if_of E).1 c44
    skip
    refine Rn.tabIn (x := x1) (tgt := 169) dX10_count_1 (by rw [c44]; decide) (by rw [c44]; decide) (by rw [c44]; rfl) (by decide) ?_
    refine Rn.aload_n (pc' := 170) dX10_count_169 rfl 0 rfl rfl ?_
    obtain ⟨g45, E⟩ := gd_of E
    refine Rn.getR (pc' := 173) fl_X10_42_9 g45 rfl dX10_count_170 rfl ?_
    obtain ⟨g46, E⟩ := gd_of E
    refine Rn.getI (pc' := 176) fl_X10_378_3 g46 rfl dX10_count_173 rfl ?_
    cases E
    exact Rn.zret rfl rfl dX10_count_176
  replace E := (if_of E).2 c44
  by_cases c47 : x1 = (11 : Int32)
  · replace E := (if_of E).1 c47
    skip
    refine Rn.tabIn (x := x1) (tgt := 177) dX10_count_1 (by rw [c47]; decide) (by rw [c47]; decide) (by rw [c47]; rfl) (by decide) ?_
    refine Rn.aload_n (pc' := 178) dX10_count_177 rfl 0 rfl rfl ?_
    obtain ⟨g48, E⟩ := gd_of E
    refine Rn.getR (pc' := 181) fl_X10_35_9 g48 rfl dX10_count_178 rfl ?_
    obtain ⟨g49, E⟩ := gd_of E
    refine Rn.getI (pc' := 184) fl_X10_214_7 g49 rfl dX10_count_181 rfl ?_
    cases E
    exact Rn.zret rfl rfl dX10_count_184
  replace E := (if_of E).2 c47
  by_cases c50 : x1 = (12 : Int32)
  · replace E := (if_of E).1 c50
    skip
    refine Rn.tabIn (x := x1) (tgt := 185) dX10_count_1 (by rw [c50]; decide) (by rw [c50]; decide) (by rw [c50]; rfl) (by decide) ?_
    refine Rn.aload_n (pc' := 186) dX10_count_185 rfl 0 rfl rfl ?_
    obtain ⟨g51, E⟩ := gd_of E
    refine Rn.getR (pc' := 189) fl_X10_42_9 g51 rfl dX10_count_186 rfl ?_
    obtain ⟨g52, E⟩ := gd_of E
    obtain ⟨v53, h54, e55, E⟩ := bI_of E
    refine Rn.callV1 (pc' := 192) (As := []) (rest := []) (f_Land_allThirst_ok hst e55) (Nat.le_trans (by decide) hd) rfl kb_X10_381 ki_X3_allThirst rfl g52 rfl rfl (Nat.le_of_ble_eq_true rfl) dX10_count_189 rfl rfl ?_
    cases E
    exact Rn.zret rfl rfl dX10_count_192
  replace E := (if_of E).2 c50
  by_cases c56 : x1 = (13 : Int32)
  · replace E := (if_of E).1 c56
    skip
    refine Rn.tabIn (x := x1) (tgt := 193) dX10_count_1 (by rw [c56]; decide) (by rw [c56]; decide) (by rw [c56]; rfl) (by decide) ?_
    refine Rn.aload_n (pc' := 194) dX10_count_193 rfl 0 rfl rfl ?_
    obtain ⟨g57, E⟩ := gd_of E
    refine Rn.getR (pc' := 197) fl_X10_42_9 g57 rfl dX10_count_194 rfl ?_
    obtain ⟨g58, E⟩ := gd_of E
    refine Rn.getI (pc' := 200) fl_X10_311_3 g58 rfl dX10_count_197 rfl ?_
    cases E
    exact Rn.zret rfl rfl dX10_count_200
  replace E := (if_of E).2 c56
  refine Rn.tabOut (x := x1) (tgt := 201) dX10_count_1 (tab_out fun z hz hq => ?_) (by decide) ?_
  · have hz2 : z = 0 ∨ z = 1 ∨ z = 2 ∨ z = 3 ∨ z = 4 ∨ z = 5 ∨ z = 6 ∨ z = 7 ∨ z = 8 ∨ z = 9 ∨ z = 10 ∨ z = 11 ∨ z = 12 ∨ z = 13 := by omega
    rcases hz2 with rfl | rfl | rfl | rfl | rfl | rfl | rfl | rfl | rfl | rfl | rfl | rfl | rfl | rfl
    · exact c3 hz
    · exact c6 hz
    · exact c9 hz
    · exact c12 hz
    · exact c17 hz
    · exact c20 hz
    · exact c26 hz
    · exact c32 hz
    · exact c38 hz
    · exact c41 hz
    · exact c44 hz
    · exact c47 hz
    · exact c50 hz
    · exact c56 hz
  · refine Rn.iconst (pc' := 202) (v := (-1 : Int32)) (hv := by decide) dX10_count_201 rfl ?_
    cases E
    exact Rn.zret rfl rfl dX10_count_202
def f_Water_count (h : Hp) (x0 : Nat) (x1 : Int32) : Option (Int32 × Hp) := f_Water_count_b0  h x0 x1
theorem f_Water_count_ok {l : Launch} {X : Nat × (Nat → Int32)} (hst : l.stackTraces = false) {h : Hp} {x0 : Nat} {x1 : Int32} {r : Int32 × Hp} (E : f_Water_count h x0 x1 = some r) : MC l X yX10_count mX10_count 2 [.ref x0, .int x1] h (eI r) r.2 :=
  MC.body (by decide +kernel) rfl (by decide) hst (Nat.le_of_ble_eq_true rfl) (f_Water_count_b0_ok hst (Nat.le_refl _) E)
abbrev mX11_houses : MI := (RX11, cX11_houses, 1, (some Jvm.ClassFile.FieldType.int), [], false)
theorem ws_X11_houses : ∀ w ∈ wsM yX11_houses mX11_houses, w ∈ gw := List.forall_mem_cons.mpr ⟨gw_at 1618 (by decide +kernel) (by decide +kernel), fun _ h => h⟩
def f_Model_houses_b0   (h : Hp) (x0 : Nat)  : Option (Int32 × Hp) :=
if hS h x0 = 11 then (
if hS h (hR h x0 1) = 20 then (
if ib (1 : Int32) (hL h (hR h x0 1)) = true then (
some ((hI h (hR h x0 1) (ix (1 : Int32))), h)
) else none) else none) else none
set_option maxRecDepth 20000 in
set_option maxHeartbeats 4000000 in
theorem f_Model_houses_b0_ok {l : Launch} {X : Nat × (Nat → Int32)} (hst : l.stackTraces = false) {d : Nat} (hd : 0 ≤ d)     {h : Hp} {x0 : Nat}  {r : Int32 × Hp} (E : f_Model_houses_b0   h x0 = some r) : Rn l X mX11_houses d 0 [(0, .ref x0)] [] h (eI r) r.2 := by
  unfold f_Model_houses_b0 at E
  refine Rn.aload_n (pc' := 1) dX11_houses_0 rfl 0 rfl rfl ?_
  obtain ⟨g1, E⟩ := gd_of E
  refine Rn.getR (pc' := 4) fl_X11_13_10 g1 rfl dX11_houses_1 rfl ?_
  refine Rn.iconst (pc' := 5) (v := (1 : Int32)) (hv := by decide) dX11_houses_4 rfl ?_
  obtain ⟨g2, E⟩ := gd_of E
  obtain ⟨g3, E⟩ := gd_of E
  refine Rn.iald (pc' := 6) g2 g3 dX11_houses_5 rfl ?_
  cases E
  exact Rn.zret rfl rfl dX11_houses_6
def f_Model_houses (h : Hp) (x0 : Nat) : Option (Int32 × Hp) := f_Model_houses_b0  h x0
theorem f_Model_houses_ok {l : Launch} {X : Nat × (Nat → Int32)} (hst : l.stackTraces = false) {h : Hp} {x0 : Nat} {r : Int32 × Hp} (E : f_Model_houses h x0 = some r) : MC l X yX11_houses mX11_houses 0 [.ref x0] h (eI r) r.2 :=
  MC.body (by decide +kernel) rfl (by decide) hst (Nat.le_of_ble_eq_true rfl) (f_Model_houses_b0_ok hst (Nat.le_refl _) E)
abbrev mX11_ofHouse : MI := (RX11, cX11_ofHouse, 3, (some Jvm.ClassFile.FieldType.int), [], false)
theorem ws_X11_ofHouse : ∀ w ∈ wsM yX11_ofHouse mX11_ofHouse, w ∈ gw := List.forall_mem_cons.mpr ⟨gw_at 1626 (by decide +kernel) (by decide +kernel), fun _ h => h⟩
def f_Model_ofHouse_b0   (h : Hp) (x0 : Nat) (x1 : Int32) (x2 : Int32)  : Option (Int32 × Hp) :=
if hS h x0 = 11 then (
if hS h (hR h x0 1) = 20 then (
if ib (((345 : Int32) + ((34 : Int32) * x1)) + x2) (hL h (hR h x0 1)) = true then (
some ((hI h (hR h x0 1) (ix (((345 : Int32) + ((34 : Int32) * x1)) + x2))), h)
) else none) else none) else none
set_option maxRecDepth 20000 in
set_option maxHeartbeats 4000000 in
theorem f_Model_ofHouse_b0_ok {l : Launch} {X : Nat × (Nat → Int32)} (hst : l.stackTraces = false) {d : Nat} (hd : 0 ≤ d)     {h : Hp} {x0 : Nat} {x1 : Int32} {x2 : Int32}  {r : Int32 × Hp} (E : f_Model_ofHouse_b0   h x0 x1 x2 = some r) : Rn l X mX11_ofHouse d 0 [(0, .ref x0), (1, .int x1), (2, .int x2)] [] h (eI r) r.2 := by
  unfold f_Model_ofHouse_b0 at E
  refine Rn.aload_n (pc' := 1) dX11_ofHouse_0 rfl 0 rfl rfl ?_
  obtain ⟨g1, E⟩ := gd_of E
  refine Rn.getR (pc' := 4) fl_X11_13_10 g1 rfl dX11_ofHouse_1 rfl ?_
  refine Rn.sipush (pc' := 7) (v := (345 : Int32)) (hv := by decide) dX11_ofHouse_4 rfl ?_
  refine Rn.bipush (pc' := 9) (v := (34 : Int32)) (hv := by decide) dX11_ofHouse_7 rfl ?_
  refine Rn.iload_n (pc' := 10) dX11_ofHouse_9 rfl 1 rfl rfl ?_
  refine Rn.imul (pc' := 11) dX11_ofHouse_10 rfl ?_
  refine Rn.iadd (pc' := 12) dX11_ofHouse_11 rfl ?_
  refine Rn.iload_n (pc' := 13) dX11_ofHouse_12 rfl 2 rfl rfl ?_
  refine Rn.iadd (pc' := 14) dX11_ofHouse_13 rfl ?_
  obtain ⟨g2, E⟩ := gd_of E
  obtain ⟨g3, E⟩ := gd_of E
  refine Rn.iald (pc' := 15) g2 g3 dX11_ofHouse_14 rfl ?_
  cases E
  exact Rn.zret rfl rfl dX11_ofHouse_15
def f_Model_ofHouse (h : Hp) (x0 : Nat) (x1 : Int32) (x2 : Int32) : Option (Int32 × Hp) := f_Model_ofHouse_b0  h x0 x1 x2
theorem f_Model_ofHouse_ok {l : Launch} {X : Nat × (Nat → Int32)} (hst : l.stackTraces = false) {h : Hp} {x0 : Nat} {x1 : Int32} {x2 : Int32} {r : Int32 × Hp} (E : f_Model_ofHouse h x0 x1 x2 = some r) : MC l X yX11_ofHouse mX11_ofHouse 0 [.ref x0, .int x1, .int x2] h (eI r) r.2 :=
  MC.body (by decide +kernel) rfl (by decide) hst (Nat.le_of_ble_eq_true rfl) (f_Model_ofHouse_b0_ok hst (Nat.le_refl _) E)
abbrev mX11_drunkBy : MI := (RX11, cX11_drunkBy, 4, (some Jvm.ClassFile.FieldType.int), [], false)
theorem ws_X11_drunkBy : ∀ w ∈ wsM yX11_drunkBy mX11_drunkBy, w ∈ gw := List.forall_mem_cons.mpr ⟨gw_at 1738 (by decide +kernel) (by decide +kernel), fun _ h => h⟩
theorem kb_X11_151 : KB RX11 151 yX11_ofHouse mX11_ofHouse 2 := ⟨gw_at 1623 (by decide +kernel) (by decide +kernel), gw_at 117 (by decide +kernel) (by decide +kernel), trivial, ws_X11_ofHouse, by decide +kernel, by decide +kernel, by decide +kernel, by decide⟩
theorem ki_X11_ofHouse : Cond.instanceMethod yX11_ofHouse ∈ gw ∧ Cond.selects yX11_ofHouse.cls yX11_ofHouse yX11_ofHouse ∈ gw := ⟨gw_at 1625 (by decide +kernel) (by decide +kernel), gw_at 65 (by decide +kernel) (by decide +kernel)⟩
def f_Model_drunkBy_b4  (k4 : Hp → Nat → Int32 → Int32 → Int32 → Option (Int32 × Hp)) (h : Hp) (x0 : Nat) (x1 : Int32) (x2 : Int32) (x3 : Int32)  : Option (Int32 × Hp) :=
if (30 : Int32) ≤ x3 then (
some (x2, h)

) else (
if hS h x0 = 11 then (
bI (f_Model_ofHouse h x0 x1 ((4 : Int32) + x3)) fun v3 h4 =>
k4 h4 x0 x1 (x2 + v3) (x3 + (1 : Int32))
) else none
)

set_option maxRecDepth 20000 in
set_option maxHeartbeats 4000000 in
theorem f_Model_drunkBy_b4_ok {l : Launch} {X : Nat × (Nat → Int32)} (hst : l.stackTraces = false) {d : Nat} (hd : 1 ≤ d)   {k4 : Hp → Nat → Int32 → Int32 → Int32 → Option (Int32 × Hp)} (hk4 : ∀ (h : Hp) (x0 : Nat) (x1 : Int32) (x2 : Int32) (x3 : Int32)  (r : Int32 × Hp), k4 h x0 x1 x2 x3 = some r → Rn l X mX11_drunkBy d 4 [(0, .ref x0), (1, .int x1), (2, .int x2), (3, .int x3)] [] h (eI r) r.2) {h : Hp} {x0 : Nat} {x1 : Int32} {x2 : Int32} {x3 : Int32}  {r : Int32 × Hp} (E : f_Model_drunkBy_b4  k4 h x0 x1 x2 x3 = some r) : Rn l X mX11_drunkBy d 4 [(0, .ref x0), (1, .int x1), (2, .int x2), (3, .int x3)] [] h (eI r) r.2 := by
  unfold f_Model_drunkBy_b4 at E
  refine Rn.iload_n (pc' := 5) dX11_drunkBy_4 rfl 3 rfl rfl ?_
  refine Rn.bipush (pc' := 7) (v := (30 : Int32)) (hv := by decide) dX11_drunkBy_5 rfl ?_
  refine Rn.icmp_ge (pc' := 10) (tgt := 27) dX11_drunkBy_7 (by decide) rfl (fun c1 => ?_) (fun c1 => ?_)
  · replace E := (if_of E).1 c1
    refine Rn.iload_n (pc' := 28) dX11_drunkBy_27 rfl 2 rfl rfl ?_
    cases E
    exact Rn.zret rfl rfl dX11_drunkBy_28
  · replace E := (if_of E).2 c1
    refine Rn.iload_n (pc' := 11) dX11_drunkBy_10 rfl 2 rfl rfl ?_
    refine Rn.aload_n (pc' := 12) dX11_drunkBy_11 rfl 0 rfl rfl ?_
    refine Rn.iload_n (pc' := 13) dX11_drunkBy_12 rfl 1 rfl rfl ?_
    refine Rn.iconst (pc' := 14) (v := (4 : Int32)) (hv := by decide) dX11_drunkBy_13 rfl ?_
    refine Rn.iload_n (pc' := 15) dX11_drunkBy_14 rfl 3 rfl rfl ?_
    refine Rn.iadd (pc' := 16) dX11_drunkBy_15 rfl ?_
    obtain ⟨g2, E⟩ := gd_of E
    obtain ⟨v3, h4, e5, E⟩ := bI_of E
    refine Rn.callV1 (pc' := 19) (As := [.int x1, .int ((4 : Int32) + x3)]) (rest := [.int x2]) (f_Model_ofHouse_ok hst e5) (Nat.le_trans (by decide) hd) rfl kb_X11_151 ki_X11_ofHouse rfl g2 rfl rfl (Nat.le_of_ble_eq_true rfl) dX11_drunkBy_16 rfl rfl ?_
    refine Rn.iadd (pc' := 20) dX11_drunkBy_19 rfl ?_
    refine Rn.istore_n (pc' := 21) (L' := [(2, .int (x2 + v3)), (0, .ref x0), (1, .int x1), (3, .int x3)]) dX11_drunkBy_20 rfl (by decide) rfl rfl ?_
    refine Rn.iinc (pc' := 24) (v := (x3 + (1 : Int32))) (L' := [(3, .int (x3 + (1 : Int32))), (2, .int (x2 + v3)), (0, .ref x0), (1, .int x1)]) dX11_drunkBy_21 3 rfl rfl (by decide) rfl rfl ?_
    refine Rn.goto (pc' := 4) dX11_drunkBy_24 (by decide) ?_
    refine Rn.sub [2, 3, 1, 0] rfl ?_
    exact hk4 _ _ _ _ _ _ E
def f_Model_drunkBy_L4   (n : Nat) : Hp → Nat → Int32 → Int32 → Int32 → Option (Int32 × Hp) := Nat.rec (motive := fun _ => Hp → Nat → Int32 → Int32 → Int32 → Option (Int32 × Hp)) (fun _ _ _ _ _ => none) (fun _ rec => f_Model_drunkBy_b4   rec) n
theorem f_Model_drunkBy_L4_ok {l : Launch} {X : Nat × (Nat → Int32)} (hst : l.stackTraces = false) {d : Nat} (hd : 1 ≤ d)     : ∀ (n : Nat) (h : Hp) (x0 : Nat) (x1 : Int32) (x2 : Int32) (x3 : Int32)  (r : Int32 × Hp), f_Model_drunkBy_L4   n h x0 x1 x2 x3 = some r → Rn l X mX11_drunkBy d 4 [(0, .ref x0), (1, .int x1), (2, .int x2), (3, .int x3)] [] h (eI r) r.2 := by
  intro n
  induction n with
  | zero => intro h x0 x1 x2 x3 r E; cases E
  | succ n ih => intro h x0 x1 x2 x3 r E; exact f_Model_drunkBy_b4_ok hst hd   ih E
def f_Model_drunkBy_b0   (h : Hp) (x0 : Nat) (x1 : Int32)  : Option (Int32 × Hp) :=
f_Model_drunkBy_L4   FU h x0 x1 (0 : Int32) (0 : Int32)

set_option maxRecDepth 20000 in
set_option maxHeartbeats 4000000 in
theorem f_Model_drunkBy_b0_ok {l : Launch} {X : Nat × (Nat → Int32)} (hst : l.stackTraces = false) {d : Nat} (hd : 1 ≤ d)     {h : Hp} {x0 : Nat} {x1 : Int32}  {r : Int32 × Hp} (E : f_Model_drunkBy_b0   h x0 x1 = some r) : Rn l X mX11_drunkBy d 0 [(0, .ref x0), (1, .int x1)] [] h (eI r) r.2 := by
  unfold f_Model_drunkBy_b0 at E
  refine Rn.iconst (pc' := 1) (v := (0 : Int32)) (hv := by decide) dX11_drunkBy_0 rfl ?_
  refine Rn.istore_n (pc' := 2) (L' := [(2, .int (0 : Int32)), (0, .ref x0), (1, .int x1)]) dX11_drunkBy_1 rfl (by decide) rfl rfl ?_
  refine Rn.iconst (pc' := 3) (v := (0 : Int32)) (hv := by decide) dX11_drunkBy_2 rfl ?_
  refine Rn.istore_n (pc' := 4) (L' := [(3, .int (0 : Int32)), (2, .int (0 : Int32)), (0, .ref x0), (1, .int x1)]) dX11_drunkBy_3 rfl (by decide) rfl rfl ?_
  refine Rn.sub [2, 3, 1, 0] rfl ?_
  exact f_Model_drunkBy_L4_ok hst hd   FU _ _ _ _ _ _ E
def f_Model_drunkBy (h : Hp) (x0 : Nat) (x1 : Int32) : Option (Int32 × Hp) := f_Model_drunkBy_b0  h x0 x1
theorem f_Model_drunkBy_ok {l : Launch} {X : Nat × (Nat → Int32)} (hst : l.stackTraces = false) {h : Hp} {x0 : Nat} {x1 : Int32} {r : Int32 × Hp} (E : f_Model_drunkBy h x0 x1 = some r) : MC l X yX11_drunkBy mX11_drunkBy 1 [.ref x0, .int x1] h (eI r) r.2 :=
  MC.body (by decide +kernel) rfl (by decide) hst (Nat.le_of_ble_eq_true rfl) (f_Model_drunkBy_b0_ok hst (Nat.le_refl _) E)
abbrev mX11_cisterns : MI := (RX11, cX11_cisterns, 1, (some Jvm.ClassFile.FieldType.int), [], false)
theorem ws_X11_cisterns : ∀ w ∈ wsM yX11_cisterns mX11_cisterns, w ∈ gw := List.forall_mem_cons.mpr ⟨gw_at 1553 (by decide +kernel) (by decide +kernel), fun _ h => h⟩
def f_Model_cisterns_b0   (h : Hp) (x0 : Nat)  : Option (Int32 × Hp) :=
if hS h x0 = 11 then (
if hS h (hR h x0 1) = 20 then (
if ib (0 : Int32) (hL h (hR h x0 1)) = true then (
some ((hI h (hR h x0 1) (ix (0 : Int32))), h)
) else none) else none) else none
set_option maxRecDepth 20000 in
set_option maxHeartbeats 4000000 in
theorem f_Model_cisterns_b0_ok {l : Launch} {X : Nat × (Nat → Int32)} (hst : l.stackTraces = false) {d : Nat} (hd : 0 ≤ d)     {h : Hp} {x0 : Nat}  {r : Int32 × Hp} (E : f_Model_cisterns_b0   h x0 = some r) : Rn l X mX11_cisterns d 0 [(0, .ref x0)] [] h (eI r) r.2 := by
  unfold f_Model_cisterns_b0 at E
  refine Rn.aload_n (pc' := 1) dX11_cisterns_0 rfl 0 rfl rfl ?_
  obtain ⟨g1, E⟩ := gd_of E
  refine Rn.getR (pc' := 4) fl_X11_13_10 g1 rfl dX11_cisterns_1 rfl ?_
  refine Rn.iconst (pc' := 5) (v := (0 : Int32)) (hv := by decide) dX11_cisterns_4 rfl ?_
  obtain ⟨g2, E⟩ := gd_of E
  obtain ⟨g3, E⟩ := gd_of E
  refine Rn.iald (pc' := 6) g2 g3 dX11_cisterns_5 rfl ?_
  cases E
  exact Rn.zret rfl rfl dX11_cisterns_6
def f_Model_cisterns (h : Hp) (x0 : Nat) : Option (Int32 × Hp) := f_Model_cisterns_b0  h x0
theorem f_Model_cisterns_ok {l : Launch} {X : Nat × (Nat → Int32)} (hst : l.stackTraces = false) {h : Hp} {x0 : Nat} {r : Int32 × Hp} (E : f_Model_cisterns h x0 = some r) : MC l X yX11_cisterns mX11_cisterns 0 [.ref x0] h (eI r) r.2 :=
  MC.body (by decide +kernel) rfl (by decide) hst (Nat.le_of_ble_eq_true rfl) (f_Model_cisterns_b0_ok hst (Nat.le_refl _) E)
abbrev mX11_ofCistern : MI := (RX11, cX11_ofCistern, 3, (some Jvm.ClassFile.FieldType.int), [], false)
theorem ws_X11_ofCistern : ∀ w ∈ wsM yX11_ofCistern mX11_ofCistern, w ∈ gw := List.forall_mem_cons.mpr ⟨gw_at 1565 (by decide +kernel) (by decide +kernel), fun _ h => h⟩
def f_Model_ofCistern_b0   (h : Hp) (x0 : Nat) (x1 : Int32) (x2 : Int32)  : Option (Int32 × Hp) :=
if hS h x0 = 11 then (
if hS h (hR h x0 1) = 20 then (
if ib (((65 : Int32) + ((35 : Int32) * x1)) + x2) (hL h (hR h x0 1)) = true then (
some ((hI h (hR h x0 1) (ix (((65 : Int32) + ((35 : Int32) * x1)) + x2))), h)
) else none) else none) else none
set_option maxRecDepth 20000 in
set_option maxHeartbeats 4000000 in
theorem f_Model_ofCistern_b0_ok {l : Launch} {X : Nat × (Nat → Int32)} (hst : l.stackTraces = false) {d : Nat} (hd : 0 ≤ d)     {h : Hp} {x0 : Nat} {x1 : Int32} {x2 : Int32}  {r : Int32 × Hp} (E : f_Model_ofCistern_b0   h x0 x1 x2 = some r) : Rn l X mX11_ofCistern d 0 [(0, .ref x0), (1, .int x1), (2, .int x2)] [] h (eI r) r.2 := by
  unfold f_Model_ofCistern_b0 at E
  refine Rn.aload_n (pc' := 1) dX11_ofCistern_0 rfl 0 rfl rfl ?_
  obtain ⟨g1, E⟩ := gd_of E
  refine Rn.getR (pc' := 4) fl_X11_13_10 g1 rfl dX11_ofCistern_1 rfl ?_
  refine Rn.bipush (pc' := 6) (v := (65 : Int32)) (hv := by decide) dX11_ofCistern_4 rfl ?_
  refine Rn.bipush (pc' := 8) (v := (35 : Int32)) (hv := by decide) dX11_ofCistern_6 rfl ?_
  refine Rn.iload_n (pc' := 9) dX11_ofCistern_8 rfl 1 rfl rfl ?_
  refine Rn.imul (pc' := 10) dX11_ofCistern_9 rfl ?_
  refine Rn.iadd (pc' := 11) dX11_ofCistern_10 rfl ?_
  refine Rn.iload_n (pc' := 12) dX11_ofCistern_11 rfl 2 rfl rfl ?_
  refine Rn.iadd (pc' := 13) dX11_ofCistern_12 rfl ?_
  obtain ⟨g2, E⟩ := gd_of E
  obtain ⟨g3, E⟩ := gd_of E
  refine Rn.iald (pc' := 14) g2 g3 dX11_ofCistern_13 rfl ?_
  cases E
  exact Rn.zret rfl rfl dX11_ofCistern_14
def f_Model_ofCistern (h : Hp) (x0 : Nat) (x1 : Int32) (x2 : Int32) : Option (Int32 × Hp) := f_Model_ofCistern_b0  h x0 x1 x2
theorem f_Model_ofCistern_ok {l : Launch} {X : Nat × (Nat → Int32)} (hst : l.stackTraces = false) {h : Hp} {x0 : Nat} {x1 : Int32} {x2 : Int32} {r : Int32 × Hp} (E : f_Model_ofCistern h x0 x1 x2 = some r) : MC l X yX11_ofCistern mX11_ofCistern 0 [.ref x0, .int x1, .int x2] h (eI r) r.2 :=
  MC.body (by decide +kernel) rfl (by decide) hst (Nat.le_of_ble_eq_true rfl) (f_Model_ofCistern_b0_ok hst (Nat.le_refl _) E)
abbrev mX11_layerOf : MI := (RX11, cX11_layerOf, 3, (some Jvm.ClassFile.FieldType.int), [], false)
theorem ws_X11_layerOf : ∀ w ∈ wsM yX11_layerOf mX11_layerOf, w ∈ gw := List.forall_mem_cons.mpr ⟨gw_at 1599 (by decide +kernel) (by decide +kernel), fun _ h => h⟩
theorem kb_X11_69 : KB RX11 69 yX11_ofCistern mX11_ofCistern 2 := ⟨gw_at 1562 (by decide +kernel) (by decide +kernel), gw_at 117 (by decide +kernel) (by decide +kernel), trivial, ws_X11_ofCistern, by decide +kernel, by decide +kernel, by decide +kernel, by decide⟩
theorem ki_X11_ofCistern : Cond.instanceMethod yX11_ofCistern ∈ gw ∧ Cond.selects yX11_ofCistern.cls yX11_ofCistern yX11_ofCistern ∈ gw := ⟨gw_at 1564 (by decide +kernel) (by decide +kernel), gw_at 52 (by decide +kernel) (by decide +kernel)⟩
def f_Model_layerOf_b0   (h : Hp) (x0 : Nat) (x1 : Int32) (x2 : Int32)  : Option (Int32 × Hp) :=
if hS h x0 = 11 then (
bI (f_Model_ofCistern h x0 x1 ((5 : Int32) + x2)) fun v2 h3 =>
some (v2, h3)
) else none
set_option maxRecDepth 20000 in
set_option maxHeartbeats 4000000 in
theorem f_Model_layerOf_b0_ok {l : Launch} {X : Nat × (Nat → Int32)} (hst : l.stackTraces = false) {d : Nat} (hd : 1 ≤ d)     {h : Hp} {x0 : Nat} {x1 : Int32} {x2 : Int32}  {r : Int32 × Hp} (E : f_Model_layerOf_b0   h x0 x1 x2 = some r) : Rn l X mX11_layerOf d 0 [(0, .ref x0), (1, .int x1), (2, .int x2)] [] h (eI r) r.2 := by
  unfold f_Model_layerOf_b0 at E
  refine Rn.aload_n (pc' := 1) dX11_layerOf_0 rfl 0 rfl rfl ?_
  refine Rn.iload_n (pc' := 2) dX11_layerOf_1 rfl 1 rfl rfl ?_
  refine Rn.iconst (pc' := 3) (v := (5 : Int32)) (hv := by decide) dX11_layerOf_2 rfl ?_
  refine Rn.iload_n (pc' := 4) dX11_layerOf_3 rfl 2 rfl rfl ?_
  refine Rn.iadd (pc' := 5) dX11_layerOf_4 rfl ?_
  obtain ⟨g1, E⟩ := gd_of E
  obtain ⟨v2, h3, e4, E⟩ := bI_of E
  refine Rn.callV1 (pc' := 8) (As := [.int x1, .int ((5 : Int32) + x2)]) (rest := []) (f_Model_ofCistern_ok hst e4) (Nat.le_trans (by decide) hd) rfl kb_X11_69 ki_X11_ofCistern rfl g1 rfl rfl (Nat.le_of_ble_eq_true rfl) dX11_layerOf_5 rfl rfl ?_
  cases E
  exact Rn.zret rfl rfl dX11_layerOf_8
def f_Model_layerOf (h : Hp) (x0 : Nat) (x1 : Int32) (x2 : Int32) : Option (Int32 × Hp) := f_Model_layerOf_b0  h x0 x1 x2
theorem f_Model_layerOf_ok {l : Launch} {X : Nat × (Nat → Int32)} (hst : l.stackTraces = false) {h : Hp} {x0 : Nat} {x1 : Int32} {x2 : Int32} {r : Int32 × Hp} (E : f_Model_layerOf h x0 x1 x2 = some r) : MC l X yX11_layerOf mX11_layerOf 1 [.ref x0, .int x1, .int x2] h (eI r) r.2 :=
  MC.body (by decide +kernel) rfl (by decide) hst (Nat.le_of_ble_eq_true rfl) (f_Model_layerOf_b0_ok hst (Nat.le_refl _) E)
abbrev mX11_measures : MI := (RX11, cX11_measures, 4, (some Jvm.ClassFile.FieldType.int), [], false)
theorem ws_X11_measures : ∀ w ∈ wsM yX11_measures mX11_measures, w ∈ gw := List.forall_mem_cons.mpr ⟨gw_at 1595 (by decide +kernel) (by decide +kernel), fun _ h => h⟩
theorem kb_X11_72 : KB RX11 72 yX11_layerOf mX11_layerOf 2 := ⟨gw_at 1596 (by decide +kernel) (by decide +kernel), gw_at 117 (by decide +kernel) (by decide +kernel), trivial, ws_X11_layerOf, by decide +kernel, by decide +kernel, by decide +kernel, by decide⟩
theorem ki_X11_layerOf : Cond.instanceMethod yX11_layerOf ∈ gw ∧ Cond.selects yX11_layerOf.cls yX11_layerOf yX11_layerOf ∈ gw := ⟨gw_at 1598 (by decide +kernel) (by decide +kernel), gw_at 59 (by decide +kernel) (by decide +kernel)⟩
def f_Model_measures_b4  (k4 : Hp → Nat → Int32 → Int32 → Int32 → Option (Int32 × Hp)) (h : Hp) (x0 : Nat) (x1 : Int32) (x2 : Int32) (x3 : Int32)  : Option (Int32 × Hp) :=
if (30 : Int32) ≤ x3 then (
some (x2, h)

) else (
if hS h x0 = 11 then (
bI (f_Model_layerOf h x0 x1 x3) fun v3 h4 =>
k4 h4 x0 x1 (x2 + v3) (x3 + (1 : Int32))
) else none
)

set_option maxRecDepth 20000 in
set_option maxHeartbeats 4000000 in
theorem f_Model_measures_b4_ok {l : Launch} {X : Nat × (Nat → Int32)} (hst : l.stackTraces = false) {d : Nat} (hd : 2 ≤ d)   {k4 : Hp → Nat → Int32 → Int32 → Int32 → Option (Int32 × Hp)} (hk4 : ∀ (h : Hp) (x0 : Nat) (x1 : Int32) (x2 : Int32) (x3 : Int32)  (r : Int32 × Hp), k4 h x0 x1 x2 x3 = some r → Rn l X mX11_measures d 4 [(0, .ref x0), (1, .int x1), (2, .int x2), (3, .int x3)] [] h (eI r) r.2) {h : Hp} {x0 : Nat} {x1 : Int32} {x2 : Int32} {x3 : Int32}  {r : Int32 × Hp} (E : f_Model_measures_b4  k4 h x0 x1 x2 x3 = some r) : Rn l X mX11_measures d 4 [(0, .ref x0), (1, .int x1), (2, .int x2), (3, .int x3)] [] h (eI r) r.2 := by
  unfold f_Model_measures_b4 at E
  refine Rn.iload_n (pc' := 5) dX11_measures_4 rfl 3 rfl rfl ?_
  refine Rn.bipush (pc' := 7) (v := (30 : Int32)) (hv := by decide) dX11_measures_5 rfl ?_
  refine Rn.icmp_ge (pc' := 10) (tgt := 25) dX11_measures_7 (by decide) rfl (fun c1 => ?_) (fun c1 => ?_)
  · replace E := (if_of E).1 c1
    refine Rn.iload_n (pc' := 26) dX11_measures_25 rfl 2 rfl rfl ?_
    cases E
    exact Rn.zret rfl rfl dX11_measures_26
  · replace E := (if_of E).2 c1
    refine Rn.iload_n (pc' := 11) dX11_measures_10 rfl 2 rfl rfl ?_
    refine Rn.aload_n (pc' := 12) dX11_measures_11 rfl 0 rfl rfl ?_
    refine Rn.iload_n (pc' := 13) dX11_measures_12 rfl 1 rfl rfl ?_
    refine Rn.iload_n (pc' := 14) dX11_measures_13 rfl 3 rfl rfl ?_
    obtain ⟨g2, E⟩ := gd_of E
    obtain ⟨v3, h4, e5, E⟩ := bI_of E
    refine Rn.callV1 (pc' := 17) (As := [.int x1, .int x3]) (rest := [.int x2]) (f_Model_layerOf_ok hst e5) (Nat.le_trans (by decide) hd) rfl kb_X11_72 ki_X11_layerOf rfl g2 rfl rfl (Nat.le_of_ble_eq_true rfl) dX11_measures_14 rfl rfl ?_
    refine Rn.iadd (pc' := 18) dX11_measures_17 rfl ?_
    refine Rn.istore_n (pc' := 19) (L' := [(2, .int (x2 + v3)), (0, .ref x0), (1, .int x1), (3, .int x3)]) dX11_measures_18 rfl (by decide) rfl rfl ?_
    refine Rn.iinc (pc' := 22) (v := (x3 + (1 : Int32))) (L' := [(3, .int (x3 + (1 : Int32))), (2, .int (x2 + v3)), (0, .ref x0), (1, .int x1)]) dX11_measures_19 3 rfl rfl (by decide) rfl rfl ?_
    refine Rn.goto (pc' := 4) dX11_measures_22 (by decide) ?_
    refine Rn.sub [2, 3, 1, 0] rfl ?_
    exact hk4 _ _ _ _ _ _ E
def f_Model_measures_L4   (n : Nat) : Hp → Nat → Int32 → Int32 → Int32 → Option (Int32 × Hp) := Nat.rec (motive := fun _ => Hp → Nat → Int32 → Int32 → Int32 → Option (Int32 × Hp)) (fun _ _ _ _ _ => none) (fun _ rec => f_Model_measures_b4   rec) n
theorem f_Model_measures_L4_ok {l : Launch} {X : Nat × (Nat → Int32)} (hst : l.stackTraces = false) {d : Nat} (hd : 2 ≤ d)     : ∀ (n : Nat) (h : Hp) (x0 : Nat) (x1 : Int32) (x2 : Int32) (x3 : Int32)  (r : Int32 × Hp), f_Model_measures_L4   n h x0 x1 x2 x3 = some r → Rn l X mX11_measures d 4 [(0, .ref x0), (1, .int x1), (2, .int x2), (3, .int x3)] [] h (eI r) r.2 := by
  intro n
  induction n with
  | zero => intro h x0 x1 x2 x3 r E; cases E
  | succ n ih => intro h x0 x1 x2 x3 r E; exact f_Model_measures_b4_ok hst hd   ih E
def f_Model_measures_b0   (h : Hp) (x0 : Nat) (x1 : Int32)  : Option (Int32 × Hp) :=
f_Model_measures_L4   FU h x0 x1 (0 : Int32) (0 : Int32)

set_option maxRecDepth 20000 in
set_option maxHeartbeats 4000000 in
theorem f_Model_measures_b0_ok {l : Launch} {X : Nat × (Nat → Int32)} (hst : l.stackTraces = false) {d : Nat} (hd : 2 ≤ d)     {h : Hp} {x0 : Nat} {x1 : Int32}  {r : Int32 × Hp} (E : f_Model_measures_b0   h x0 x1 = some r) : Rn l X mX11_measures d 0 [(0, .ref x0), (1, .int x1)] [] h (eI r) r.2 := by
  unfold f_Model_measures_b0 at E
  refine Rn.iconst (pc' := 1) (v := (0 : Int32)) (hv := by decide) dX11_measures_0 rfl ?_
  refine Rn.istore_n (pc' := 2) (L' := [(2, .int (0 : Int32)), (0, .ref x0), (1, .int x1)]) dX11_measures_1 rfl (by decide) rfl rfl ?_
  refine Rn.iconst (pc' := 3) (v := (0 : Int32)) (hv := by decide) dX11_measures_2 rfl ?_
  refine Rn.istore_n (pc' := 4) (L' := [(3, .int (0 : Int32)), (2, .int (0 : Int32)), (0, .ref x0), (1, .int x1)]) dX11_measures_3 rfl (by decide) rfl rfl ?_
  refine Rn.sub [2, 3, 1, 0] rfl ?_
  exact f_Model_measures_L4_ok hst hd   FU _ _ _ _ _ _ E
def f_Model_measures (h : Hp) (x0 : Nat) (x1 : Int32) : Option (Int32 × Hp) := f_Model_measures_b0  h x0 x1
theorem f_Model_measures_ok {l : Launch} {X : Nat × (Nat → Int32)} (hst : l.stackTraces = false) {h : Hp} {x0 : Nat} {x1 : Int32} {r : Int32 × Hp} (E : f_Model_measures h x0 x1 = some r) : MC l X yX11_measures mX11_measures 2 [.ref x0, .int x1] h (eI r) r.2 :=
  MC.body (by decide +kernel) rfl (by decide) hst (Nat.le_of_ble_eq_true rfl) (f_Model_measures_b0_ok hst (Nat.le_refl _) E)
abbrev mX11_now : MI := (RX11, cX11_now, 1, (some Jvm.ClassFile.FieldType.int), [], false)
theorem ws_X11_now : ∀ w ∈ wsM yX11_now mX11_now, w ∈ gw := List.forall_mem_cons.mpr ⟨gw_at 1754 (by decide +kernel) (by decide +kernel), fun _ h => h⟩
theorem kb_X11_63 : KB RX11 63 yJ9_min_7cf53 mJ9_min_7cf53 2 := ⟨gw_at 1600 (by decide +kernel) (by decide +kernel), gw_at 128 (by decide +kernel) (by decide +kernel), trivial, ws_J9_min_7cf53, by decide +kernel, by decide +kernel, by decide +kernel, by decide⟩
def f_Model_now_b0   (h : Hp) (x0 : Nat)  : Option (Int32 × Hp) :=
if hS h x0 = 11 then (
if hS h (hR h x0 1) = 20 then (
if ib (4 : Int32) (hL h (hR h x0 1)) = true then (
bI (f_Math_min h (29 : Int32) ((hI h (hR h x0 1) (ix (4 : Int32))) / (12 : Int32))) fun v4 h5 =>
some (v4, h5)
) else none) else none) else none
set_option maxRecDepth 20000 in
set_option maxHeartbeats 4000000 in
theorem f_Model_now_b0_ok {l : Launch} {X : Nat × (Nat → Int32)} (hst : l.stackTraces = false) {d : Nat} (hd : 1 ≤ d)     {h : Hp} {x0 : Nat}  {r : Int32 × Hp} (E : f_Model_now_b0   h x0 = some r) : Rn l X mX11_now d 0 [(0, .ref x0)] [] h (eI r) r.2 := by
  unfold f_Model_now_b0 at E
  refine Rn.bipush (pc' := 2) (v := (29 : Int32)) (hv := by decide) dX11_now_0 rfl ?_
  refine Rn.aload_n (pc' := 3) dX11_now_2 rfl 0 rfl rfl ?_
  obtain ⟨g1, E⟩ := gd_of E
  refine Rn.getR (pc' := 6) fl_X11_13_10 g1 rfl dX11_now_3 rfl ?_
  refine Rn.iconst (pc' := 7) (v := (4 : Int32)) (hv := by decide) dX11_now_6 rfl ?_
  obtain ⟨g2, E⟩ := gd_of E
  obtain ⟨g3, E⟩ := gd_of E
  refine Rn.iald (pc' := 8) g2 g3 dX11_now_7 rfl ?_
  refine Rn.bipush (pc' := 10) (v := (12 : Int32)) (hv := by decide) dX11_now_8 rfl ?_
  refine Rn.idiv (pc' := 11) (hne := (by decide)) dX11_now_10 rfl ?_
  obtain ⟨v4, h5, e6, E⟩ := bI_of E
  refine Rn.callS1 (pc' := 14) (As := [.int (29 : Int32), .int ((hI h (hR h x0 1) (ix (4 : Int32))) / (12 : Int32))]) (rest := []) (f_Math_min_ok hst e6) (Nat.le_trans (by decide) hd) rfl kb_X11_63 ks_J9_min_7cf53 rfl rfl (Nat.le_of_ble_eq_true rfl) dX11_now_11 rfl rfl ?_
  cases E
  exact Rn.zret rfl rfl dX11_now_14
def f_Model_now (h : Hp) (x0 : Nat) : Option (Int32 × Hp) := f_Model_now_b0  h x0
theorem f_Model_now_ok {l : Launch} {X : Nat × (Nat → Int32)} (hst : l.stackTraces = false) {h : Hp} {x0 : Nat} {r : Int32 × Hp} (E : f_Model_now h x0 = some r) : MC l X yX11_now mX11_now 1 [.ref x0] h (eI r) r.2 :=
  MC.body (by decide +kernel) rfl (by decide) hst (Nat.le_of_ble_eq_true rfl) (f_Model_now_b0_ok hst (Nat.le_refl _) E)
abbrev mX11_count : MI := (RX11, cX11_count, 4, (some Jvm.ClassFile.FieldType.int), [], false)
theorem ws_X11_count : ∀ w ∈ wsM yX11_count mX11_count, w ∈ gw := List.forall_mem_cons.mpr ⟨gw_at 1941 (by decide +kernel) (by decide +kernel), fun _ h => h⟩
theorem kb_X11_60 : KB RX11 60 yX11_houses mX11_houses 0 := ⟨gw_at 1615 (by decide +kernel) (by decide +kernel), gw_at 117 (by decide +kernel) (by decide +kernel), trivial, ws_X11_houses, by decide +kernel, by decide +kernel, by decide +kernel, by decide⟩
theorem ki_X11_houses : Cond.instanceMethod yX11_houses ∈ gw ∧ Cond.selects yX11_houses.cls yX11_houses yX11_houses ∈ gw := ⟨gw_at 1617 (by decide +kernel) (by decide +kernel), gw_at 63 (by decide +kernel) (by decide +kernel)⟩
def f_Model_count_b223  (k223 : Hp → Nat → Int32 → Int32 → Option (Int32 × Hp)) (h : Hp) (x0 : Nat) (x2 : Int32) (x3 : Int32)  : Option (Int32 × Hp) :=
if hS h x0 = 11 then (
bI (f_Model_houses h x0) fun v2 h3 =>
if v2 ≤ x3 then (
some (x2, h3)

) else (
if hS h3 x0 = 11 then (
bI (f_Model_ofHouse h3 x0 x3 (3 : Int32)) fun v7 h8 =>
k223 h8 x0 (x2 + v7) (x3 + (1 : Int32))
) else none
)
) else none
set_option maxRecDepth 20000 in
set_option maxHeartbeats 4000000 in
theorem f_Model_count_b223_ok {l : Launch} {X : Nat × (Nat → Int32)} (hst : l.stackTraces = false) {d : Nat} (hd : 3 ≤ d)   {k223 : Hp → Nat → Int32 → Int32 → Option (Int32 × Hp)} (hk223 : ∀ (h : Hp) (x0 : Nat) (x2 : Int32) (x3 : Int32)  (r : Int32 × Hp), k223 h x0 x2 x3 = some r → Rn l X mX11_count d 223 [(0, .ref x0), (2, .int x2), (3, .int x3)] [] h (eI r) r.2) {h : Hp} {x0 : Nat} {x2 : Int32} {x3 : Int32}  {r : Int32 × Hp} (E : f_Model_count_b223  k223 h x0 x2 x3 = some r) : Rn l X mX11_count d 223 [(0, .ref x0), (2, .int x2), (3, .int x3)] [] h (eI r) r.2 := by
  unfold f_Model_count_b223 at E
  refine Rn.iload_n (pc' := 224) dX11_count_223 rfl 2 rfl rfl ?_
  refine Rn.aload_n (pc' := 225) dX11_count_224 rfl 0 rfl rfl ?_
  obtain ⟨g1, E⟩ := gd_of E
  obtain ⟨v2, h3, e4, E⟩ := bI_of E
  refine Rn.callV1 (pc' := 228) (As := []) (rest := [.int x3]) (f_Model_houses_ok hst e4) (Nat.le_trans (by decide) hd) rfl kb_X11_60 ki_X11_houses rfl g1 rfl rfl (Nat.le_of_ble_eq_true rfl) dX11_count_225 rfl rfl ?_
  refine Rn.icmp_ge (pc' := 231) (tgt := 246) dX11_count_228 (by decide) rfl (fun c5 => ?_) (fun c5 => ?_)
  · replace E := (if_of E).1 c5
    refine Rn.iload_n (pc' := 247) dX11_count_246 rfl 1 rfl rfl ?_
    cases E
    exact Rn.zret rfl rfl dX11_count_247
  · replace E := (if_of E).2 c5
    refine Rn.iload_n (pc' := 232) dX11_count_231 rfl 1 rfl rfl ?_
    refine Rn.aload_n (pc' := 233) dX11_count_232 rfl 0 rfl rfl ?_
    refine Rn.iload_n (pc' := 234) dX11_count_233 rfl 2 rfl rfl ?_
    refine Rn.iconst (pc' := 235) (v := (3 : Int32)) (hv := by decide) dX11_count_234 rfl ?_
    obtain ⟨g6, E⟩ := gd_of E
    obtain ⟨v7, h8, e9, E⟩ := bI_of E
    refine Rn.callV1 (pc' := 238) (As := [.int x3, .int (3 : Int32)]) (rest := [.int x2]) (f_Model_ofHouse_ok hst e9) (Nat.le_trans (by decide) hd) rfl kb_X11_151 ki_X11_ofHouse rfl g6 rfl rfl (Nat.le_of_ble_eq_true rfl) dX11_count_235 rfl rfl ?_
    refine Rn.iadd (pc' := 239) dX11_count_238 rfl ?_
    refine Rn.istore_n (pc' := 240) (L' := [(2, .int (x2 + v7)), (0, .ref x0), (3, .int x3)]) dX11_count_239 rfl (by decide) rfl rfl ?_
    refine Rn.iinc (pc' := 243) (v := (x3 + (1 : Int32))) (L' := [(3, .int (x3 + (1 : Int32))), (2, .int (x2 + v7)), (0, .ref x0)]) dX11_count_240 2 rfl rfl (by decide) rfl rfl ?_
    refine Rn.goto (pc' := 223) dX11_count_243 (by decide) ?_
    refine Rn.sub [2, 1, 0] rfl ?_
    exact hk223 _ _ _ _ _ E
def f_Model_count_L223   (n : Nat) : Hp → Nat → Int32 → Int32 → Option (Int32 × Hp) := Nat.rec (motive := fun _ => Hp → Nat → Int32 → Int32 → Option (Int32 × Hp)) (fun _ _ _ _ => none) (fun _ rec => f_Model_count_b223   rec) n
theorem f_Model_count_L223_ok {l : Launch} {X : Nat × (Nat → Int32)} (hst : l.stackTraces = false) {d : Nat} (hd : 3 ≤ d)     : ∀ (n : Nat) (h : Hp) (x0 : Nat) (x2 : Int32) (x3 : Int32)  (r : Int32 × Hp), f_Model_count_L223   n h x0 x2 x3 = some r → Rn l X mX11_count d 223 [(0, .ref x0), (2, .int x2), (3, .int x3)] [] h (eI r) r.2 := by
  intro n
  induction n with
  | zero => intro h x0 x2 x3 r E; cases E
  | succ n ih => intro h x0 x2 x3 r E; exact f_Model_count_b223_ok hst hd   ih E
theorem kb_X11_296 : KB RX11 296 yX11_drunkBy mX11_drunkBy 1 := ⟨gw_at 1735 (by decide +kernel) (by decide +kernel), gw_at 117 (by decide +kernel) (by decide +kernel), trivial, ws_X11_drunkBy, by decide +kernel, by decide +kernel, by decide +kernel, by decide⟩
theorem ki_X11_drunkBy : Cond.instanceMethod yX11_drunkBy ∈ gw ∧ Cond.selects yX11_drunkBy.cls yX11_drunkBy yX11_drunkBy ∈ gw := ⟨gw_at 1737 (by decide +kernel) (by decide +kernel), gw_at 82 (by decide +kernel) (by decide +kernel)⟩
def f_Model_count_b160  (k160 : Hp → Nat → Int32 → Int32 → Option (Int32 × Hp)) (h : Hp) (x0 : Nat) (x2 : Int32) (x3 : Int32)  : Option (Int32 × Hp) :=
if hS h x0 = 11 then (
bI (f_Model_houses h x0) fun v2 h3 =>
if v2 ≤ x3 then (
if hS h3 x0 = 11 then (
if hS h3 (hR h3 x0 1) = 20 then (
if ib (9 : Int32) (hL h3 (hR h3 x0 1)) = true then (
some ((x2 + (hI h3 (hR h3 x0 1) (ix (9 : Int32)))), h3)
) else none) else none) else none
) else (
if hS h3 x0 = 11 then (
bI (f_Model_drunkBy h3 x0 x3) fun v10 h11 =>
k160 h11 x0 (x2 + v10) (x3 + (1 : Int32))
) else none
)
) else none
set_option maxRecDepth 20000 in
set_option maxHeartbeats 4000000 in
theorem f_Model_count_b160_ok {l : Launch} {X : Nat × (Nat → Int32)} (hst : l.stackTraces = false) {d : Nat} (hd : 3 ≤ d)   {k160 : Hp → Nat → Int32 → Int32 → Option (Int32 × Hp)} (hk160 : ∀ (h : Hp) (x0 : Nat) (x2 : Int32) (x3 : Int32)  (r : Int32 × Hp), k160 h x0 x2 x3 = some r → Rn l X mX11_count d 160 [(0, .ref x0), (2, .int x2), (3, .int x3)] [] h (eI r) r.2) {h : Hp} {x0 : Nat} {x2 : Int32} {x3 : Int32}  {r : Int32 × Hp} (E : f_Model_count_b160  k160 h x0 x2 x3 = some r) : Rn l X mX11_count d 160 [(0, .ref x0), (2, .int x2), (3, .int x3)] [] h (eI r) r.2 := by
  unfold f_Model_count_b160 at E
  refine Rn.iload_n (pc' := 161) dX11_count_160 rfl 2 rfl rfl ?_
  refine Rn.aload_n (pc' := 162) dX11_count_161 rfl 0 rfl rfl ?_
  obtain ⟨g1, E⟩ := gd_of E
  obtain ⟨v2, h3, e4, E⟩ := bI_of E
  refine Rn.callV1 (pc' := 165) (As := []) (rest := [.int x3]) (f_Model_houses_ok hst e4) (Nat.le_trans (by decide) hd) rfl kb_X11_60 ki_X11_houses rfl g1 rfl rfl (Nat.le_of_ble_eq_true rfl) dX11_count_162 rfl rfl ?_
  refine Rn.icmp_ge (pc' := 168) (tgt := 182) dX11_count_165 (by decide) rfl (fun c5 => ?_) (fun c5 => ?_)
  · replace E := (if_of E).1 c5
    refine Rn.iload_n (pc' := 183) dX11_count_182 rfl 1 rfl rfl ?_
    refine Rn.aload_n (pc' := 184) dX11_count_183 rfl 0 rfl rfl ?_
    obtain ⟨g6, E⟩ := gd_of E
    refine Rn.getR (pc' := 187) fl_X11_13_10 g6 rfl dX11_count_184 rfl ?_
    refine Rn.bipush (pc' := 189) (v := (9 : Int32)) (hv := by decide) dX11_count_187 rfl ?_
    obtain ⟨g7, E⟩ := gd_of E
    obtain ⟨g8, E⟩ := gd_of E
    refine Rn.iald (pc' := 190) g7 g8 dX11_count_189 rfl ?_
    refine Rn.iadd (pc' := 191) dX11_count_190 rfl ?_
    cases E
    exact Rn.zret rfl rfl dX11_count_191
  · replace E := (if_of E).2 c5
    refine Rn.iload_n (pc' := 169) dX11_count_168 rfl 1 rfl rfl ?_
    refine Rn.aload_n (pc' := 170) dX11_count_169 rfl 0 rfl rfl ?_
    refine Rn.iload_n (pc' := 171) dX11_count_170 rfl 2 rfl rfl ?_
    obtain ⟨g9, E⟩ := gd_of E
    obtain ⟨v10, h11, e12, E⟩ := bI_of E
    refine Rn.callV1 (pc' := 174) (As := [.int x3]) (rest := [.int x2]) (f_Model_drunkBy_ok hst e12) (Nat.le_trans (by decide) hd) rfl kb_X11_296 ki_X11_drunkBy rfl g9 rfl rfl (Nat.le_of_ble_eq_true rfl) dX11_count_171 rfl rfl ?_
    refine Rn.iadd (pc' := 175) dX11_count_174 rfl ?_
    refine Rn.istore_n (pc' := 176) (L' := [(2, .int (x2 + v10)), (0, .ref x0), (3, .int x3)]) dX11_count_175 rfl (by decide) rfl rfl ?_
    refine Rn.iinc (pc' := 179) (v := (x3 + (1 : Int32))) (L' := [(3, .int (x3 + (1 : Int32))), (2, .int (x2 + v10)), (0, .ref x0)]) dX11_count_176 2 rfl rfl (by decide) rfl rfl ?_
    refine Rn.goto (pc' := 160) dX11_count_179 (by decide) ?_
    refine Rn.sub [2, 1, 0] rfl ?_
    exact hk160 _ _ _ _ _ E
def f_Model_count_L160   (n : Nat) : Hp → Nat → Int32 → Int32 → Option (Int32 × Hp) := Nat.rec (motive := fun _ => Hp → Nat → Int32 → Int32 → Option (Int32 × Hp)) (fun _ _ _ _ => none) (fun _ rec => f_Model_count_b160   rec) n
theorem f_Model_count_L160_ok {l : Launch} {X : Nat × (Nat → Int32)} (hst : l.stackTraces = false) {d : Nat} (hd : 3 ≤ d)     : ∀ (n : Nat) (h : Hp) (x0 : Nat) (x2 : Int32) (x3 : Int32)  (r : Int32 × Hp), f_Model_count_L160   n h x0 x2 x3 = some r → Rn l X mX11_count d 160 [(0, .ref x0), (2, .int x2), (3, .int x3)] [] h (eI r) r.2 := by
  intro n
  induction n with
  | zero => intro h x0 x2 x3 r E; cases E
  | succ n ih => intro h x0 x2 x3 r E; exact f_Model_count_b160_ok hst hd   ih E
theorem kb_X11_52 : KB RX11 52 yX11_cisterns mX11_cisterns 0 := ⟨gw_at 1550 (by decide +kernel) (by decide +kernel), gw_at 117 (by decide +kernel) (by decide +kernel), trivial, ws_X11_cisterns, by decide +kernel, by decide +kernel, by decide +kernel, by decide⟩
theorem ki_X11_cisterns : Cond.instanceMethod yX11_cisterns ∈ gw ∧ Cond.selects yX11_cisterns.cls yX11_cisterns yX11_cisterns ∈ gw := ⟨gw_at 1552 (by decide +kernel) (by decide +kernel), gw_at 49 (by decide +kernel) (by decide +kernel)⟩
theorem kb_X11_75 : KB RX11 75 yX11_measures mX11_measures 1 := ⟨gw_at 1592 (by decide +kernel) (by decide +kernel), gw_at 117 (by decide +kernel) (by decide +kernel), trivial, ws_X11_measures, by decide +kernel, by decide +kernel, by decide +kernel, by decide⟩
theorem ki_X11_measures : Cond.instanceMethod yX11_measures ∈ gw ∧ Cond.selects yX11_measures.cls yX11_measures yX11_measures ∈ gw := ⟨gw_at 1594 (by decide +kernel) (by decide +kernel), gw_at 58 (by decide +kernel) (by decide +kernel)⟩
def f_Model_count_b134  (k134 : Hp → Nat → Int32 → Int32 → Option (Int32 × Hp)) (h : Hp) (x0 : Nat) (x2 : Int32) (x3 : Int32)  : Option (Int32 × Hp) :=
if hS h x0 = 11 then (
bI (f_Model_cisterns h x0) fun v2 h3 =>
if v2 ≤ x3 then (
some (x2, h3)

) else (
if hS h3 x0 = 11 then (
bI (f_Model_measures h3 x0 x3) fun v7 h8 =>
k134 h8 x0 (x2 + v7) (x3 + (1 : Int32))
) else none
)
) else none
set_option maxRecDepth 20000 in
set_option maxHeartbeats 4000000 in
theorem f_Model_count_b134_ok {l : Launch} {X : Nat × (Nat → Int32)} (hst : l.stackTraces = false) {d : Nat} (hd : 3 ≤ d)   {k134 : Hp → Nat → Int32 → Int32 → Option (Int32 × Hp)} (hk134 : ∀ (h : Hp) (x0 : Nat) (x2 : Int32) (x3 : Int32)  (r : Int32 × Hp), k134 h x0 x2 x3 = some r → Rn l X mX11_count d 134 [(0, .ref x0), (2, .int x2), (3, .int x3)] [] h (eI r) r.2) {h : Hp} {x0 : Nat} {x2 : Int32} {x3 : Int32}  {r : Int32 × Hp} (E : f_Model_count_b134  k134 h x0 x2 x3 = some r) : Rn l X mX11_count d 134 [(0, .ref x0), (2, .int x2), (3, .int x3)] [] h (eI r) r.2 := by
  unfold f_Model_count_b134 at E
  refine Rn.iload_n (pc' := 135) dX11_count_134 rfl 2 rfl rfl ?_
  refine Rn.aload_n (pc' := 136) dX11_count_135 rfl 0 rfl rfl ?_
  obtain ⟨g1, E⟩ := gd_of E
  obtain ⟨v2, h3, e4, E⟩ := bI_of E
  refine Rn.callV1 (pc' := 139) (As := []) (rest := [.int x3]) (f_Model_cisterns_ok hst e4) (Nat.le_trans (by decide) hd) rfl kb_X11_52 ki_X11_cisterns rfl g1 rfl rfl (Nat.le_of_ble_eq_true rfl) dX11_count_136 rfl rfl ?_
  refine Rn.icmp_ge (pc' := 142) (tgt := 156) dX11_count_139 (by decide) rfl (fun c5 => ?_) (fun c5 => ?_)
  · replace E := (if_of E).1 c5
    refine Rn.iload_n (pc' := 157) dX11_count_156 rfl 1 rfl rfl ?_
    cases E
    exact Rn.zret rfl rfl dX11_count_157
  · replace E := (if_of E).2 c5
    refine Rn.iload_n (pc' := 143) dX11_count_142 rfl 1 rfl rfl ?_
    refine Rn.aload_n (pc' := 144) dX11_count_143 rfl 0 rfl rfl ?_
    refine Rn.iload_n (pc' := 145) dX11_count_144 rfl 2 rfl rfl ?_
    obtain ⟨g6, E⟩ := gd_of E
    obtain ⟨v7, h8, e9, E⟩ := bI_of E
    refine Rn.callV1 (pc' := 148) (As := [.int x3]) (rest := [.int x2]) (f_Model_measures_ok hst e9) (Nat.le_trans (by decide) hd) rfl kb_X11_75 ki_X11_measures rfl g6 rfl rfl (Nat.le_of_ble_eq_true rfl) dX11_count_145 rfl rfl ?_
    refine Rn.iadd (pc' := 149) dX11_count_148 rfl ?_
    refine Rn.istore_n (pc' := 150) (L' := [(2, .int (x2 + v7)), (0, .ref x0), (3, .int x3)]) dX11_count_149 rfl (by decide) rfl rfl ?_
    refine Rn.iinc (pc' := 153) (v := (x3 + (1 : Int32))) (L' := [(3, .int (x3 + (1 : Int32))), (2, .int (x2 + v7)), (0, .ref x0)]) dX11_count_150 2 rfl rfl (by decide) rfl rfl ?_
    refine Rn.goto (pc' := 134) dX11_count_153 (by decide) ?_
    refine Rn.sub [2, 1, 0] rfl ?_
    exact hk134 _ _ _ _ _ E
def f_Model_count_L134   (n : Nat) : Hp → Nat → Int32 → Int32 → Option (Int32 × Hp) := Nat.rec (motive := fun _ => Hp → Nat → Int32 → Int32 → Option (Int32 × Hp)) (fun _ _ _ _ => none) (fun _ rec => f_Model_count_b134   rec) n
theorem f_Model_count_L134_ok {l : Launch} {X : Nat × (Nat → Int32)} (hst : l.stackTraces = false) {d : Nat} (hd : 3 ≤ d)     : ∀ (n : Nat) (h : Hp) (x0 : Nat) (x2 : Int32) (x3 : Int32)  (r : Int32 × Hp), f_Model_count_L134   n h x0 x2 x3 = some r → Rn l X mX11_count d 134 [(0, .ref x0), (2, .int x2), (3, .int x3)] [] h (eI r) r.2 := by
  intro n
  induction n with
  | zero => intro h x0 x2 x3 r E; cases E
  | succ n ih => intro h x0 x2 x3 r E; exact f_Model_count_b134_ok hst hd   ih E
theorem fl_X11_3_10 : FL RX11 3 10 0 := ⟨_, rfl, by decide, "VintageWaterModel", gw_at 1426 (by decide +kernel) (by decide +kernel), Or.inl rfl⟩
theorem kb_X11_268 : KB RX11 268 yX11_now mX11_now 0 := ⟨gw_at 1751 (by decide +kernel) (by decide +kernel), gw_at 117 (by decide +kernel) (by decide +kernel), trivial, ws_X11_now, by decide +kernel, by decide +kernel, by decide +kernel, by decide⟩
theorem ki_X11_now : Cond.instanceMethod yX11_now ∈ gw ∧ Cond.selects yX11_now.cls yX11_now yX11_now ∈ gw := ⟨gw_at 1753 (by decide +kernel) (by decide +kernel), gw_at 84 (by decide +kernel) (by decide +kernel)⟩
theorem fl_X11_49_10 : FL RX11 49 10 7 := ⟨_, rfl, by decide, "VintageWaterModel", gw_at 1433 (by decide +kernel) (by decide +kernel), Or.inl rfl⟩
def f_Model_count_b0   (h : Hp) (x0 : Nat) (x1 : Int32)  : Option (Int32 × Hp) :=
if hS h x0 = 11 then (
wr (sI h x0 0 (0 : Int32)) fun h2 =>
if x1 = (0 : Int32) then (
bI (f_Model_cisterns h2 x0) fun v7 h8 =>
some (v7, h8)

) else (
if x1 = (1 : Int32) then (
bI (f_Model_houses h2 x0) fun v11 h12 =>
some (v11, h12)

) else (
if x1 = (2 : Int32) then (
if hS h2 (hR h2 x0 1) = 20 then (
if ib (2 : Int32) (hL h2 (hR h2 x0 1)) = true then (
some ((hI h2 (hR h2 x0 1) (ix (2 : Int32))), h2)
) else none) else none
) else (
if x1 = (3 : Int32) then (
if hS h2 (hR h2 x0 1) = 20 then (
if ib (3 : Int32) (hL h2 (hR h2 x0 1)) = true then (
if (hI h2 (hR h2 x0 1) (ix (3 : Int32))) = (1 : Int32) then (
if ib (617 : Int32) (hL h2 (hR h2 x0 1)) = true then (
some ((hI h2 (hR h2 x0 1) (ix (617 : Int32))), h2)
) else none
) else (
some ((-1 : Int32), h2)

)
) else none) else none
) else (
if x1 = (4 : Int32) then (
if hS h2 (hR h2 x0 1) = 20 then (
if ib (4 : Int32) (hL h2 (hR h2 x0 1)) = true then (
some ((hI h2 (hR h2 x0 1) (ix (4 : Int32))), h2)
) else none) else none
) else (
if x1 = (5 : Int32) then (
bI (f_Model_now h2 x0) fun v26 h27 =>
some (v26, h27)

) else (
if x1 = (6 : Int32) then (
f_Model_count_L134   FU h2 x0 (0 : Int32) (0 : Int32)

) else (
if x1 = (7 : Int32) then (
f_Model_count_L160   FU h2 x0 (0 : Int32) (0 : Int32)

) else (
if x1 = (8 : Int32) then (
if hS h2 (hR h2 x0 1) = 20 then (
if ib (6 : Int32) (hL h2 (hR h2 x0 1)) = true then (
some ((hI h2 (hR h2 x0 1) (ix (6 : Int32))), h2)
) else none) else none
) else (
if x1 = (9 : Int32) then (
if hS h2 (hR h2 x0 1) = 20 then (
if ib (7 : Int32) (hL h2 (hR h2 x0 1)) = true then (
some ((hI h2 (hR h2 x0 1) (ix (7 : Int32))), h2)
) else none) else none
) else (
if x1 = (10 : Int32) then (
if hS h2 (hR h2 x0 1) = 20 then (
if ib (8 : Int32) (hL h2 (hR h2 x0 1)) = true then (
some ((hI h2 (hR h2 x0 1) (ix (8 : Int32))), h2)
) else none) else none
) else (
if x1 = (11 : Int32) then (
some ((hI h2 x0 7), h2)

) else (
if x1 = (12 : Int32) then (
f_Model_count_L223   FU h2 x0 (0 : Int32) (0 : Int32)

) else (
if x1 = (13 : Int32) then (
if hS h2 (hR h2 x0 1) = 20 then (
if ib (10 : Int32) (hL h2 (hR h2 x0 1)) = true then (
some ((hI h2 (hR h2 x0 1) (ix (10 : Int32))), h2)
) else none) else none
) else (
some ((-1 : Int32), h2)

))))))))))))))
) else none
set_option maxRecDepth 20000 in
set_option maxHeartbeats 4000000 in
theorem f_Model_count_b0_ok {l : Launch} {X : Nat × (Nat → Int32)} (hst : l.stackTraces = false) {d : Nat} (hd : 3 ≤ d)     {h : Hp} {x0 : Nat} {x1 : Int32}  {r : Int32 × Hp} (E : f_Model_count_b0   h x0 x1 = some r) : Rn l X mX11_count d 0 [(0, .ref x0), (1, .int x1)] [] h (eI r) r.2 := by
  unfold f_Model_count_b0 at E
  refine Rn.aload_n (pc' := 1) dX11_count_0 rfl 0 rfl rfl ?_
  refine Rn.iconst (pc' := 2) (v := (0 : Int32)) (hv := by decide) dX11_count_1 rfl ?_
  obtain ⟨g1, E⟩ := gd_of E
  refine Rn.putI (pc' := 5) fl_X11_3_10 (fun q hq => by cases hq; decide) g1 rfl rfl rfl dX11_count_2 rfl ?_
  replace E := wr_of E
  generalize eh3 : sI h x0 0 (0 : Int32) = h2 at E ⊢
  refine Rn.iconst (pc' := 6) (v := (0 : Int32)) (hv := by decide) dX11_count_5 rfl ?_
  refine Rn.istore_n (pc' := 7) (L' := [(2, .int (0 : Int32)), (0, .ref x0), (1, .int x1)]) dX11_count_6 rfl (by decide) rfl rfl ?_
  refine Rn.iload_n (pc' := 8) dX11_count_7 rfl 2 rfl rfl ?_
  by_cases c6 : x1 = (0 : Int32)
  · replace E := (if_of E).1 c6
    skip
    refine Rn.tabIn (x := x1) (tgt := 80) dX11_count_8 (by rw [c6]; decide) (by rw [c6]; decide) (by rw [c6]; rfl) (by decide) ?_
    refine Rn.aload_n (pc' := 81) dX11_count_80 rfl 1 rfl rfl ?_
    obtain ⟨v7, h8, e9, E⟩ := bI_of E
    refine Rn.callV1 (pc' := 84) (As := []) (rest := []) (f_Model_cisterns_ok hst e9) (Nat.le_trans (by decide) hd) rfl kb_X11_52 ki_X11_cisterns rfl (kp_sI eh3 g1) rfl rfl (Nat.le_of_ble_eq_true rfl) dX11_count_81 rfl rfl ?_
    cases E
    exact Rn.zret rfl rfl dX11_count_84
  replace E := (if_of E).2 c6
  by_cases c10 : x1 = (1 : Int32)
  · replace E := (if_of E).1 c10
    skip
    refine Rn.tabIn (x := x1) (tgt := 85) dX11_count_8 (by rw [c10]; decide) (by rw [c10]; decide) (by rw [c10]; rfl) (by decide) ?_
    refine Rn.aload_n (pc' := 86) dX11_count_85 rfl 1 rfl rfl ?_
    obtain ⟨v11, h12, e13, E⟩ := bI_of E
    refine Rn.callV1 (pc' := 89) (As := []) (rest := []) (f_Model_houses_ok hst e13) (Nat.le_trans (by decide) hd) rfl kb_X11_60 ki_X11_houses rfl (kp_sI eh3 g1) rfl rfl (Nat.le_of_ble_eq_true rfl) dX11_count_86 rfl rfl ?_
    cases E
    exact Rn.zret rfl rfl dX11_count_89
  replace E := (if_of E).2 c10
  by_cases c14 : x1 = (2 : Int32)
  · replace E := (if_of E).1 c14
    skip
    refine Rn.tabIn (x := x1) (tgt := 90) dX11_count_8 (by rw [c14]; decide) (by rw [c14]; decide) (by rw [c14]; rfl) (by decide) ?_
    refine Rn.aload_n (pc' := 91) dX11_count_90 rfl 1 rfl rfl ?_
    refine Rn.getR (pc' := 94) fl_X11_13_10 (kp_sI eh3 g1) rfl dX11_count_91 rfl ?_
    refine Rn.iconst (pc' := 95) (v := (2 : Int32)) (hv := by decide) dX11_count_94 rfl ?_
    obtain ⟨g15, E⟩ := gd_of E
    obtain ⟨g16, E⟩ := gd_of E
    refine Rn.iald (pc' := 96) g15 g16 dX11_count_95 rfl ?_
    cases E
    exact Rn.zret rfl rfl dX11_count_96
  replace E := (if_of E).2 c14
  by_cases c17 : x1 = (3 : Int32)
  · replace E := (if_of E).1 c17
    skip
    refine Rn.tabIn (x := x1) (tgt := 97) dX11_count_8 (by rw [c17]; decide) (by rw [c17]; decide) (by rw [c17]; rfl) (by decide) ?_
    refine Rn.aload_n (pc' := 98) dX11_count_97 rfl 1 rfl rfl ?_
    refine Rn.getR (pc' := 101) fl_X11_13_10 (kp_sI eh3 g1) rfl dX11_count_98 rfl ?_
    refine Rn.iconst (pc' := 102) (v := (3 : Int32)) (hv := by decide) dX11_count_101 rfl ?_
    obtain ⟨g18, E⟩ := gd_of E
    obtain ⟨g19, E⟩ := gd_of E
    refine Rn.iald (pc' := 103) g18 g19 dX11_count_102 rfl ?_
    refine Rn.iconst (pc' := 104) (v := (1 : Int32)) (hv := by decide) dX11_count_103 rfl ?_
    refine Rn.icmp_ne (pc' := 107) (tgt := 118) dX11_count_104 (by decide) rfl (fun c20 => ?_) (fun c20 => ?_)
    · replace E := (if_of E).2 c20
      refine Rn.iconst (pc' := 119) (v := (-1 : Int32)) (hv := by decide) dX11_count_118 rfl ?_
      cases E
      exact Rn.zret rfl rfl dX11_count_119
    · replace E := (if_of E).1 c20
      refine Rn.aload_n (pc' := 108) dX11_count_107 rfl 1 rfl rfl ?_
      refine Rn.getR (pc' := 111) fl_X11_13_10 (kp_sI eh3 g1) rfl dX11_count_108 rfl ?_
      refine Rn.sipush (pc' := 114) (v := (617 : Int32)) (hv := by decide) dX11_count_111 rfl ?_
      obtain ⟨g21, E⟩ := gd_of E
      refine Rn.iald (pc' := 115) g18 g21 dX11_count_114 rfl ?_
      refine Rn.goto (pc' := 119) dX11_count_115 (by decide) ?_
      cases E
      exact Rn.zret rfl rfl dX11_count_119
  replace E := (if_of E).2 c17
  by_cases c22 : x1 = (4 : Int32)
  · replace E := (if_of E).1 c22
    skip
    refine Rn.tabIn (x := x1) (tgt := 120) dX11_count_8 (by rw [c22]; decide) (by rw [c22]; decide) (by rw [c22]; rfl) (by decide) ?_
    refine Rn.aload_n (pc' := 121) dX11_count_120 rfl 1 rfl rfl ?_
    refine Rn.getR (pc' := 124) fl_X11_13_10 (kp_sI eh3 g1) rfl dX11_count_121 rfl ?_
    refine Rn.iconst (pc' := 125) (v := (4 : Int32)) (hv := by decide) dX11_count_124 rfl ?_
    obtain ⟨g23, E⟩ := gd_of E
    obtain ⟨g24, E⟩ := gd_of E
    refine Rn.iald (pc' := 126) g23 g24 dX11_count_125 rfl ?_
    cases E
    exact Rn.zret rfl rfl dX11_count_126
  replace E := (if_of E).2 c22
  by_cases c25 : x1 = (5 : Int32)
  · replace E := (if_of E).1 c25
    skip
    refine Rn.tabIn (x := x1) (tgt := 127) dX11_count_8 (by rw [c25]; decide) (by rw [c25]; decide) (by rw [c25]; rfl) (by decide) ?_
    refine Rn.aload_n (pc' := 128) dX11_count_127 rfl 1 rfl rfl ?_
    obtain ⟨v26, h27, e28, E⟩ := bI_of E
    refine Rn.callV1 (pc' := 131) (As := []) (rest := []) (f_Model_now_ok hst e28) (Nat.le_trans (by decide) hd) rfl kb_X11_268 ki_X11_now rfl (kp_sI eh3 g1) rfl rfl (Nat.le_of_ble_eq_true rfl) dX11_count_128 rfl rfl ?_
    cases E
    exact Rn.zret rfl rfl dX11_count_131
  replace E := (if_of E).2 c25
  by_cases c29 : x1 = (6 : Int32)
  · replace E := (if_of E).1 c29
    skip
    refine Rn.tabIn (x := x1) (tgt := 132) dX11_count_8 (by rw [c29]; decide) (by rw [c29]; decide) (by rw [c29]; rfl) (by decide) ?_
    refine Rn.iconst (pc' := 133) (v := (0 : Int32)) (hv := by decide) dX11_count_132 rfl ?_
    refine Rn.istore_n (pc' := 134) (L' := [(3, .int (0 : Int32)), (2, .int (0 : Int32)), (0, .ref x0), (1, .int x1)]) dX11_count_133 rfl (by decide) rfl rfl ?_
    refine Rn.sub [2, 1, 0] rfl ?_
    exact f_Model_count_L134_ok hst hd   FU _ _ _ _ _ E
  replace E := (if_of E).2 c29
  by_cases c30 : x1 = (7 : Int32)
  · replace E := (if_of E).1 c30
    skip
    refine Rn.tabIn (x := x1) (tgt := 158) dX11_count_8 (by rw [c30]; decide) (by rw [c30]; decide) (by rw [c30]; rfl) (by decide) ?_
    refine Rn.iconst (pc' := 159) (v := (0 : Int32)) (hv := by decide) dX11_count_158 rfl ?_
    refine Rn.istore_n (pc' := 160) (L' := [(3, .int (0 : Int32)), (2, .int (0 : Int32)), (0, .ref x0), (1, .int x1)]) dX11_count_159 rfl (by decide) rfl rfl ?_
    refine Rn.sub [2, 1, 0] rfl ?_
    exact f_Model_count_L160_ok hst hd   FU _ _ _ _ _ E
  replace E := (if_of E).2 c30
  by_cases c31 : x1 = (8 : Int32)
  · replace E := (if_of E).1 c31
    skip
    refine Rn.tabIn (x := x1) (tgt := 192) dX11_count_8 (by rw [c31]; decide) (by rw [c31]; decide) (by rw [c31]; rfl) (by decide) ?_
    refine Rn.aload_n (pc' := 193) dX11_count_192 rfl 1 rfl rfl ?_
    refine Rn.getR (pc' := 196) fl_X11_13_10 (kp_sI eh3 g1) rfl dX11_count_193 rfl ?_
    refine Rn.bipush (pc' := 198) (v := (6 : Int32)) (hv := by decide) dX11_count_196 rfl ?_
    obtain ⟨g32, E⟩ := gd_of E
    obtain ⟨g33, E⟩ := gd_of E
    refine Rn.iald (pc' := 199) g32 g33 dX11_count_198 rfl ?_
    cases E
    exact Rn.zret rfl rfl dX11_count_199
  replace E := (if_of E).2 c31
  by_cases c34 : x1 = (9 : Int32)
  · replace E := (if_of E).1 c34
    skip
    refine Rn.tabIn (x := x1) (tgt := 200) dX11_count_8 (by rw [c34]; decide) (by rw [c34]; decide) (by rw [c34]; rfl) (by decide) ?_
    refine Rn.aload_n (pc' := 201) dX11_count_200 rfl 1 rfl rfl ?_
    refine Rn.getR (pc' := 204) fl_X11_13_10 (kp_sI eh3 g1) rfl dX11_count_201 rfl ?_
    refine Rn.bipush (pc' := 206) (v := (7 : Int32)) (hv := by decide) dX11_count_204 rfl ?_
    obtain ⟨g35, E⟩ := gd_of E
    obtain ⟨g36, E⟩ := gd_of E
    refine Rn.iald (pc' := 207) g35 g36 dX11_count_206 rfl ?_
    cases E
    exact Rn.zret rfl rfl dX11_count_207
  replace E := (if_of E).2 c34
  by_cases c37 : x1 = (10 : Int32)
  · replace E := (if_of E).1 c37
    skip
    refine Rn.tabIn (x := x1) (tgt := 208) dX11_count_8 (by rw [c37]; decide) (by rw [c37]; decide) (by rw [c37]; rfl) (by decide) ?_
    refine Rn.aload_n (pc' := 209) dX11_count_208 rfl 1 rfl rfl ?_
    refine Rn.getR (pc' := 212) fl_X11_13_10 (kp_sI eh3 g1) rfl dX11_count_209 rfl ?_
    refine Rn.bipush (pc' := 214) (v := (8 : Int32)) (hv := by decide) dX11_count_212 rfl ?_
    obtain ⟨g38, E⟩ := gd_of E
    obtain ⟨g39, E⟩ := gd_of E
    refine Rn.iald (pc' := 215) g38 g39 dX11_count_214 rfl ?_
    cases E
    exact Rn.zret rfl rfl dX11_count_215
  replace E := (if_of E).2 c37
  by_cases c40 : x1 = (11 : Int32)
  · replace E := (if_of E).1 c40
    skip
    refine Rn.tabIn (x := x1) (tgt := 216) dX11_count_8 (by rw [c40]; decide) (by rw [c40]; decide) (by rw [c40]; rfl) (by decide) ?_
    refine Rn.aload_n (pc' := 217) dX11_count_216 rfl 1 rfl rfl ?_
    refine Rn.getI (pc' := 220) fl_X11_49_10 (kp_sI eh3 g1) rfl dX11_count_217 rfl ?_
    cases E
    exact Rn.zret rfl rfl dX11_count_220
  replace E := (if_of E).2 c40
  by_cases c41 : x1 = (12 : Int32)
  · replace E := (if_of E).1 c41
    skip
    refine Rn.tabIn (x := x1) (tgt := 221) dX11_count_8 (by rw [c41]; decide) (by rw [c41]; decide) (by rw [c41]; rfl) (by decide) ?_
    refine Rn.iconst (pc' := 222) (v := (0 : Int32)) (hv := by decide) dX11_count_221 rfl ?_
    refine Rn.istore_n (pc' := 223) (L' := [(3, .int (0 : Int32)), (2, .int (0 : Int32)), (0, .ref x0), (1, .int x1)]) dX11_count_222 rfl (by decide) rfl rfl ?_
    refine Rn.sub [2, 1, 0] rfl ?_
    exact f_Model_count_L223_ok hst hd   FU _ _ _ _ _ E
  replace E := (if_of E).2 c41
  by_cases c42 : x1 = (13 : Int32)
  · replace E := (if_of E).1 c42
    skip
    refine Rn.tabIn (x := x1) (tgt := 248) dX11_count_8 (by rw [c42]; decide) (by rw [c42]; decide) (by rw [c42]; rfl) (by decide) ?_
    refine Rn.aload_n (pc' := 249) dX11_count_248 rfl 1 rfl rfl ?_
    refine Rn.getR (pc' := 252) fl_X11_13_10 (kp_sI eh3 g1) rfl dX11_count_249 rfl ?_
    refine Rn.bipush (pc' := 254) (v := (10 : Int32)) (hv := by decide) dX11_count_252 rfl ?_
    obtain ⟨g43, E⟩ := gd_of E
    obtain ⟨g44, E⟩ := gd_of E
    refine Rn.iald (pc' := 255) g43 g44 dX11_count_254 rfl ?_
    cases E
    exact Rn.zret rfl rfl dX11_count_255
  replace E := (if_of E).2 c42
  refine Rn.tabOut (x := x1) (tgt := 256) dX11_count_8 (tab_out fun z hz hq => ?_) (by decide) ?_
  · have hz2 : z = 0 ∨ z = 1 ∨ z = 2 ∨ z = 3 ∨ z = 4 ∨ z = 5 ∨ z = 6 ∨ z = 7 ∨ z = 8 ∨ z = 9 ∨ z = 10 ∨ z = 11 ∨ z = 12 ∨ z = 13 := by omega
    rcases hz2 with rfl | rfl | rfl | rfl | rfl | rfl | rfl | rfl | rfl | rfl | rfl | rfl | rfl | rfl
    · exact c6 hz
    · exact c10 hz
    · exact c14 hz
    · exact c17 hz
    · exact c22 hz
    · exact c25 hz
    · exact c29 hz
    · exact c30 hz
    · exact c31 hz
    · exact c34 hz
    · exact c37 hz
    · exact c40 hz
    · exact c41 hz
    · exact c42 hz
  · refine Rn.iconst (pc' := 257) (v := (-1 : Int32)) (hv := by decide) dX11_count_256 rfl ?_
    cases E
    exact Rn.zret rfl rfl dX11_count_257
def f_Model_count (h : Hp) (x0 : Nat) (x1 : Int32) : Option (Int32 × Hp) := f_Model_count_b0  h x0 x1
theorem f_Model_count_ok {l : Launch} {X : Nat × (Nat → Int32)} (hst : l.stackTraces = false) {h : Hp} {x0 : Nat} {x1 : Int32} {r : Int32 × Hp} (E : f_Model_count h x0 x1 = some r) : MC l X yX11_count mX11_count 3 [.ref x0, .int x1] h (eI r) r.2 :=
  MC.body (by decide +kernel) rfl (by decide) hst (Nat.le_of_ble_eq_true rfl) (f_Model_count_b0_ok hst (Nat.le_refl _) E)
abbrev mX0_copyFrom : MI := (RX0, cX0_copyFrom, 2, none, [], false)
theorem ws_X0_copyFrom : ∀ w ∈ wsM yX0_copyFrom mX0_copyFrom, w ∈ gw := List.forall_mem_cons.mpr ⟨gw_at 506 (by decide +kernel) (by decide +kernel), fun _ h => h⟩
theorem fl_X0_15_0 : FL RX0 15 0 0 := ⟨_, rfl, by decide, "VintageWater$Cistern", gw_at 270 (by decide +kernel) (by decide +kernel), Or.inl rfl⟩
theorem fl_X0_19_0 : FL RX0 19 0 1 := ⟨_, rfl, by decide, "VintageWater$Cistern", gw_at 272 (by decide +kernel) (by decide +kernel), Or.inl rfl⟩
theorem fl_X0_22_0 : FL RX0 22 0 2 := ⟨_, rfl, by decide, "VintageWater$Cistern", gw_at 275 (by decide +kernel) (by decide +kernel), Or.inl rfl⟩
theorem fl_X0_26_0 : FL RX0 26 0 3 := ⟨_, rfl, by decide, "VintageWater$Cistern", gw_at 278 (by decide +kernel) (by decide +kernel), Or.inl rfl⟩
theorem fl_X0_29_0 : FL RX0 29 0 4 := ⟨_, rfl, by decide, "VintageWater$Cistern", gw_at 281 (by decide +kernel) (by decide +kernel), Or.inl rfl⟩
theorem fl_X0_32_0 : FL RX0 32 0 5 := ⟨_, rfl, by decide, "VintageWater$Cistern", gw_at 284 (by decide +kernel) (by decide +kernel), Or.inl rfl⟩
theorem kac_X0_41 : Cond.methodLink RX0 41 arraycopyName ∈ gw := gw_at 507 (by decide +kernel) (by decide +kernel)
def f_Cistern_copyFrom_b0   (h : Hp) (x0 : Nat) (x1 : Nat)  : Option (Hp) :=
if hS h x1 = 1 then (
if hS h x0 = 1 then (
wr (sI h x0 0 (hI h x1 0)) fun h3 =>
wr (sI h3 x0 1 (hI h3 x1 1)) fun h5 =>
if (hI h5 x1 2) = 0 ∨ (hI h5 x1 2) = 1 then (
wr (sI h5 x0 2 (hI h5 x1 2)) fun h8 =>
wr (sI h8 x0 3 (hI h8 x1 3)) fun h10 =>
wr (sI h10 x0 4 (hI h10 x1 4)) fun h12 =>
wr (sI h12 x0 5 (hI h12 x1 5)) fun h14 =>
if hS h14 (hR h14 x1 6) = 20 then (
if hS h14 (hR h14 x0 6) = 20 then (
if ¬ (0 : Int32) < 0 then (
if ¬ (0 : Int32) < 0 then (
if ¬ (30 : Int32) < 0 then (
if ix (0 : Int32) + ix (30 : Int32) ≤ hL h14 (hR h14 x1 6) then (
if ix (0 : Int32) + ix (30 : Int32) ≤ hL h14 (hR h14 x0 6) then (
wr (cI h14 (hR h14 x0 6) (va_cpy (hI h14 (hR h14 x1 6)) (hI h14 (hR h14 x0 6)) (ix (0 : Int32)) (ix (0 : Int32)) (ix (30 : Int32)))) fun h23 =>
some h23
) else none) else none) else none) else none) else none) else none) else none) else none) else none) else none
set_option maxRecDepth 20000 in
set_option maxHeartbeats 4000000 in
theorem f_Cistern_copyFrom_b0_ok {l : Launch} {X : Nat × (Nat → Int32)} (hst : l.stackTraces = false) {d : Nat} (hd : 1 ≤ d)     {h : Hp} {x0 : Nat} {x1 : Nat}  {r : Hp} (E : f_Cistern_copyFrom_b0   h x0 x1 = some r) : Rn l X mX0_copyFrom d 0 [(0, .ref x0), (1, .ref x1)] [] h (eV r) r := by
  unfold f_Cistern_copyFrom_b0 at E
  refine Rn.aload_n (pc' := 1) dX0_copyFrom_0 rfl 0 rfl rfl ?_
  refine Rn.aload_n (pc' := 2) dX0_copyFrom_1 rfl 1 rfl rfl ?_
  obtain ⟨g1, E⟩ := gd_of E
  refine Rn.getI (pc' := 5) fl_X0_15_0 g1 rfl dX0_copyFrom_2 rfl ?_
  obtain ⟨g2, E⟩ := gd_of E
  refine Rn.putI (pc' := 8) fl_X0_15_0 (fun q hq => by cases hq; decide) g2 rfl rfl rfl dX0_copyFrom_5 rfl ?_
  replace E := wr_of E
  generalize eh4 : sI h x0 0 (hI h x1 0) = h3 at E ⊢
  refine Rn.aload_n (pc' := 9) dX0_copyFrom_8 rfl 0 rfl rfl ?_
  refine Rn.aload_n (pc' := 10) dX0_copyFrom_9 rfl 1 rfl rfl ?_
  refine Rn.getI (pc' := 13) fl_X0_19_0 (kp_sI eh4 g1) rfl dX0_copyFrom_10 rfl ?_
  refine Rn.putI (pc' := 16) fl_X0_19_0 (fun q hq => by cases hq; decide) (kp_sI eh4 g2) rfl rfl rfl dX0_copyFrom_13 rfl ?_
  replace E := wr_of E
  generalize eh6 : sI h3 x0 1 (hI h3 x1 1) = h5 at E ⊢
  refine Rn.aload_n (pc' := 17) dX0_copyFrom_16 rfl 0 rfl rfl ?_
  refine Rn.aload_n (pc' := 18) dX0_copyFrom_17 rfl 1 rfl rfl ?_
  refine Rn.getI (pc' := 21) fl_X0_22_0 (kp_sI eh6 (kp_sI eh4 g1)) rfl dX0_copyFrom_18 rfl ?_
  obtain ⟨g7, E⟩ := gd_of E
  refine Rn.putI (pc' := 24) fl_X0_22_0 (fun q hq => by cases hq; decide) (kp_sI eh6 (kp_sI eh4 g2)) rfl (nar_b g7) (fit_b g7) dX0_copyFrom_21 rfl ?_
  replace E := wr_of E
  generalize eh9 : sI h5 x0 2 (hI h5 x1 2) = h8 at E ⊢
  refine Rn.aload_n (pc' := 25) dX0_copyFrom_24 rfl 0 rfl rfl ?_
  refine Rn.aload_n (pc' := 26) dX0_copyFrom_25 rfl 1 rfl rfl ?_
  refine Rn.getI (pc' := 29) fl_X0_26_0 (kp_sI eh9 (kp_sI eh6 (kp_sI eh4 g1))) rfl dX0_copyFrom_26 rfl ?_
  refine Rn.putI (pc' := 32) fl_X0_26_0 (fun q hq => by cases hq; decide) (kp_sI eh9 (kp_sI eh6 (kp_sI eh4 g2))) rfl rfl rfl dX0_copyFrom_29 rfl ?_
  replace E := wr_of E
  generalize eh11 : sI h8 x0 3 (hI h8 x1 3) = h10 at E ⊢
  refine Rn.aload_n (pc' := 33) dX0_copyFrom_32 rfl 0 rfl rfl ?_
  refine Rn.aload_n (pc' := 34) dX0_copyFrom_33 rfl 1 rfl rfl ?_
  refine Rn.getI (pc' := 37) fl_X0_29_0 (kp_sI eh11 (kp_sI eh9 (kp_sI eh6 (kp_sI eh4 g1)))) rfl dX0_copyFrom_34 rfl ?_
  refine Rn.putI (pc' := 40) fl_X0_29_0 (fun q hq => by cases hq; decide) (kp_sI eh11 (kp_sI eh9 (kp_sI eh6 (kp_sI eh4 g2)))) rfl rfl rfl dX0_copyFrom_37 rfl ?_
  replace E := wr_of E
  generalize eh13 : sI h10 x0 4 (hI h10 x1 4) = h12 at E ⊢
  refine Rn.aload_n (pc' := 41) dX0_copyFrom_40 rfl 0 rfl rfl ?_
  refine Rn.aload_n (pc' := 42) dX0_copyFrom_41 rfl 1 rfl rfl ?_
  refine Rn.getI (pc' := 45) fl_X0_32_0 (kp_sI eh13 (kp_sI eh11 (kp_sI eh9 (kp_sI eh6 (kp_sI eh4 g1))))) rfl dX0_copyFrom_42 rfl ?_
  refine Rn.putI (pc' := 48) fl_X0_32_0 (fun q hq => by cases hq; decide) (kp_sI eh13 (kp_sI eh11 (kp_sI eh9 (kp_sI eh6 (kp_sI eh4 g2))))) rfl rfl rfl dX0_copyFrom_45 rfl ?_
  replace E := wr_of E
  generalize eh15 : sI h12 x0 5 (hI h12 x1 5) = h14 at E ⊢
  refine Rn.aload_n (pc' := 49) dX0_copyFrom_48 rfl 1 rfl rfl ?_
  refine Rn.getR (pc' := 52) fl_X0_9_0 (kp_sI eh15 (kp_sI eh13 (kp_sI eh11 (kp_sI eh9 (kp_sI eh6 (kp_sI eh4 g1)))))) rfl dX0_copyFrom_49 rfl ?_
  refine Rn.iconst (pc' := 53) (v := (0 : Int32)) (hv := by decide) dX0_copyFrom_52 rfl ?_
  refine Rn.aload_n (pc' := 54) dX0_copyFrom_53 rfl 0 rfl rfl ?_
  refine Rn.getR (pc' := 57) fl_X0_9_0 (kp_sI eh15 (kp_sI eh13 (kp_sI eh11 (kp_sI eh9 (kp_sI eh6 (kp_sI eh4 g2)))))) rfl dX0_copyFrom_54 rfl ?_
  refine Rn.iconst (pc' := 58) (v := (0 : Int32)) (hv := by decide) dX0_copyFrom_57 rfl ?_
  refine Rn.bipush (pc' := 60) (v := (30 : Int32)) (hv := by decide) dX0_copyFrom_58 rfl ?_
  obtain ⟨g16, E⟩ := gd_of E
  obtain ⟨g17, E⟩ := gd_of E
  obtain ⟨g18, E⟩ := gd_of E
  obtain ⟨g19, E⟩ := gd_of E
  obtain ⟨g20, E⟩ := gd_of E
  obtain ⟨g21, E⟩ := gd_of E
  obtain ⟨g22, E⟩ := gd_of E
  refine Rn.acopy (pc' := 63) kac_X0_41 g16 g17 g18 g19 g20 g21 g22 (Nat.le_of_ble_eq_true rfl) dX0_copyFrom_60 rfl ?_
  replace E := wr_of E
  generalize eh24 : cI h14 (hR h14 x0 6) (va_cpy (hI h14 (hR h14 x1 6)) (hI h14 (hR h14 x0 6)) (ix (0 : Int32)) (ix (0 : Int32)) (ix (30 : Int32))) = h23 at E ⊢
  cases E
  exact Rn.vret rfl dX0_copyFrom_63
def f_Cistern_copyFrom (h : Hp) (x0 : Nat) (x1 : Nat) : Option (Hp) := f_Cistern_copyFrom_b0  h x0 x1
theorem f_Cistern_copyFrom_ok {l : Launch} {X : Nat × (Nat → Int32)} (hst : l.stackTraces = false) {h : Hp} {x0 : Nat} {x1 : Nat} {r : Hp} (E : f_Cistern_copyFrom h x0 x1 = some r) : MC l X yX0_copyFrom mX0_copyFrom 1 [.ref x0, .ref x1] h (eV r) r :=
  MC.body (by decide +kernel) rfl (by decide) hst (Nat.le_of_ble_eq_true rfl) (f_Cistern_copyFrom_b0_ok hst (Nat.le_refl _) E)
abbrev mX2_copyFrom : MI := (RX2, cX2_copyFrom, 2, none, [], false)
theorem ws_X2_copyFrom : ∀ w ∈ wsM yX2_copyFrom mX2_copyFrom, w ∈ gw := List.forall_mem_cons.mpr ⟨gw_at 513 (by decide +kernel) (by decide +kernel), fun _ h => h⟩
theorem fl_X2_15_2 : FL RX2 15 2 0 := ⟨_, rfl, by decide, "VintageWater$House", gw_at 310 (by decide +kernel) (by decide +kernel), Or.inl rfl⟩
theorem fl_X2_19_2 : FL RX2 19 2 1 := ⟨_, rfl, by decide, "VintageWater$House", gw_at 313 (by decide +kernel) (by decide +kernel), Or.inl rfl⟩
theorem fl_X2_22_2 : FL RX2 22 2 2 := ⟨_, rfl, by decide, "VintageWater$House", gw_at 316 (by decide +kernel) (by decide +kernel), Or.inl rfl⟩
theorem fl_X2_25_2 : FL RX2 25 2 3 := ⟨_, rfl, by decide, "VintageWater$House", gw_at 319 (by decide +kernel) (by decide +kernel), Or.inl rfl⟩
theorem fl_X2_28_2 : FL RX2 28 2 4 := ⟨_, rfl, by decide, "VintageWater$House", gw_at 322 (by decide +kernel) (by decide +kernel), Or.inl rfl⟩
theorem kac_X2_37 : Cond.methodLink RX2 37 arraycopyName ∈ gw := gw_at 514 (by decide +kernel) (by decide +kernel)
def f_House_copyFrom_b0   (h : Hp) (x0 : Nat) (x1 : Nat)  : Option (Hp) :=
if hS h x1 = 3 then (
if hS h x0 = 3 then (
wr (sI h x0 0 (hI h x1 0)) fun h3 =>
wr (sI h3 x0 1 (hI h3 x1 1)) fun h5 =>
wr (sI h5 x0 2 (hI h5 x1 2)) fun h7 =>
wr (sI h7 x0 3 (hI h7 x1 3)) fun h9 =>
wr (sI h9 x0 4 (hI h9 x1 4)) fun h11 =>
if hS h11 (hR h11 x1 5) = 20 then (
if hS h11 (hR h11 x0 5) = 20 then (
if ¬ (0 : Int32) < 0 then (
if ¬ (0 : Int32) < 0 then (
if ¬ (30 : Int32) < 0 then (
if ix (0 : Int32) + ix (30 : Int32) ≤ hL h11 (hR h11 x1 5) then (
if ix (0 : Int32) + ix (30 : Int32) ≤ hL h11 (hR h11 x0 5) then (
wr (cI h11 (hR h11 x0 5) (va_cpy (hI h11 (hR h11 x1 5)) (hI h11 (hR h11 x0 5)) (ix (0 : Int32)) (ix (0 : Int32)) (ix (30 : Int32)))) fun h20 =>
some h20
) else none) else none) else none) else none) else none) else none) else none) else none) else none
set_option maxRecDepth 20000 in
set_option maxHeartbeats 4000000 in
theorem f_House_copyFrom_b0_ok {l : Launch} {X : Nat × (Nat → Int32)} (hst : l.stackTraces = false) {d : Nat} (hd : 1 ≤ d)     {h : Hp} {x0 : Nat} {x1 : Nat}  {r : Hp} (E : f_House_copyFrom_b0   h x0 x1 = some r) : Rn l X mX2_copyFrom d 0 [(0, .ref x0), (1, .ref x1)] [] h (eV r) r := by
  unfold f_House_copyFrom_b0 at E
  refine Rn.aload_n (pc' := 1) dX2_copyFrom_0 rfl 0 rfl rfl ?_
  refine Rn.aload_n (pc' := 2) dX2_copyFrom_1 rfl 1 rfl rfl ?_
  obtain ⟨g1, E⟩ := gd_of E
  refine Rn.getI (pc' := 5) fl_X2_15_2 g1 rfl dX2_copyFrom_2 rfl ?_
  obtain ⟨g2, E⟩ := gd_of E
  refine Rn.putI (pc' := 8) fl_X2_15_2 (fun q hq => by cases hq; decide) g2 rfl rfl rfl dX2_copyFrom_5 rfl ?_
  replace E := wr_of E
  generalize eh4 : sI h x0 0 (hI h x1 0) = h3 at E ⊢
  refine Rn.aload_n (pc' := 9) dX2_copyFrom_8 rfl 0 rfl rfl ?_
  refine Rn.aload_n (pc' := 10) dX2_copyFrom_9 rfl 1 rfl rfl ?_
  refine Rn.getI (pc' := 13) fl_X2_19_2 (kp_sI eh4 g1) rfl dX2_copyFrom_10 rfl ?_
  refine Rn.putI (pc' := 16) fl_X2_19_2 (fun q hq => by cases hq; decide) (kp_sI eh4 g2) rfl rfl rfl dX2_copyFrom_13 rfl ?_
  replace E := wr_of E
  generalize eh6 : sI h3 x0 1 (hI h3 x1 1) = h5 at E ⊢
  refine Rn.aload_n (pc' := 17) dX2_copyFrom_16 rfl 0 rfl rfl ?_
  refine Rn.aload_n (pc' := 18) dX2_copyFrom_17 rfl 1 rfl rfl ?_
  refine Rn.getI (pc' := 21) fl_X2_22_2 (kp_sI eh6 (kp_sI eh4 g1)) rfl dX2_copyFrom_18 rfl ?_
  refine Rn.putI (pc' := 24) fl_X2_22_2 (fun q hq => by cases hq; decide) (kp_sI eh6 (kp_sI eh4 g2)) rfl rfl rfl dX2_copyFrom_21 rfl ?_
  replace E := wr_of E
  generalize eh8 : sI h5 x0 2 (hI h5 x1 2) = h7 at E ⊢
  refine Rn.aload_n (pc' := 25) dX2_copyFrom_24 rfl 0 rfl rfl ?_
  refine Rn.aload_n (pc' := 26) dX2_copyFrom_25 rfl 1 rfl rfl ?_
  refine Rn.getI (pc' := 29) fl_X2_25_2 (kp_sI eh8 (kp_sI eh6 (kp_sI eh4 g1))) rfl dX2_copyFrom_26 rfl ?_
  refine Rn.putI (pc' := 32) fl_X2_25_2 (fun q hq => by cases hq; decide) (kp_sI eh8 (kp_sI eh6 (kp_sI eh4 g2))) rfl rfl rfl dX2_copyFrom_29 rfl ?_
  replace E := wr_of E
  generalize eh10 : sI h7 x0 3 (hI h7 x1 3) = h9 at E ⊢
  refine Rn.aload_n (pc' := 33) dX2_copyFrom_32 rfl 0 rfl rfl ?_
  refine Rn.aload_n (pc' := 34) dX2_copyFrom_33 rfl 1 rfl rfl ?_
  refine Rn.getI (pc' := 37) fl_X2_28_2 (kp_sI eh10 (kp_sI eh8 (kp_sI eh6 (kp_sI eh4 g1)))) rfl dX2_copyFrom_34 rfl ?_
  refine Rn.putI (pc' := 40) fl_X2_28_2 (fun q hq => by cases hq; decide) (kp_sI eh10 (kp_sI eh8 (kp_sI eh6 (kp_sI eh4 g2)))) rfl rfl rfl dX2_copyFrom_37 rfl ?_
  replace E := wr_of E
  generalize eh12 : sI h9 x0 4 (hI h9 x1 4) = h11 at E ⊢
  refine Rn.aload_n (pc' := 41) dX2_copyFrom_40 rfl 1 rfl rfl ?_
  refine Rn.getR (pc' := 44) fl_X2_9_2 (kp_sI eh12 (kp_sI eh10 (kp_sI eh8 (kp_sI eh6 (kp_sI eh4 g1))))) rfl dX2_copyFrom_41 rfl ?_
  refine Rn.iconst (pc' := 45) (v := (0 : Int32)) (hv := by decide) dX2_copyFrom_44 rfl ?_
  refine Rn.aload_n (pc' := 46) dX2_copyFrom_45 rfl 0 rfl rfl ?_
  refine Rn.getR (pc' := 49) fl_X2_9_2 (kp_sI eh12 (kp_sI eh10 (kp_sI eh8 (kp_sI eh6 (kp_sI eh4 g2))))) rfl dX2_copyFrom_46 rfl ?_
  refine Rn.iconst (pc' := 50) (v := (0 : Int32)) (hv := by decide) dX2_copyFrom_49 rfl ?_
  refine Rn.bipush (pc' := 52) (v := (30 : Int32)) (hv := by decide) dX2_copyFrom_50 rfl ?_
  obtain ⟨g13, E⟩ := gd_of E
  obtain ⟨g14, E⟩ := gd_of E
  obtain ⟨g15, E⟩ := gd_of E
  obtain ⟨g16, E⟩ := gd_of E
  obtain ⟨g17, E⟩ := gd_of E
  obtain ⟨g18, E⟩ := gd_of E
  obtain ⟨g19, E⟩ := gd_of E
  refine Rn.acopy (pc' := 55) kac_X2_37 g13 g14 g15 g16 g17 g18 g19 (Nat.le_of_ble_eq_true rfl) dX2_copyFrom_52 rfl ?_
  replace E := wr_of E
  generalize eh21 : cI h11 (hR h11 x0 5) (va_cpy (hI h11 (hR h11 x1 5)) (hI h11 (hR h11 x0 5)) (ix (0 : Int32)) (ix (0 : Int32)) (ix (30 : Int32))) = h20 at E ⊢
  cases E
  exact Rn.vret rfl dX2_copyFrom_55
def f_House_copyFrom (h : Hp) (x0 : Nat) (x1 : Nat) : Option (Hp) := f_House_copyFrom_b0  h x0 x1
theorem f_House_copyFrom_ok {l : Launch} {X : Nat × (Nat → Int32)} (hst : l.stackTraces = false) {h : Hp} {x0 : Nat} {x1 : Nat} {r : Hp} (E : f_House_copyFrom h x0 x1 = some r) : MC l X yX2_copyFrom mX2_copyFrom 1 [.ref x0, .ref x1] h (eV r) r :=
  MC.body (by decide +kernel) rfl (by decide) hst (Nat.le_of_ble_eq_true rfl) (f_House_copyFrom_b0_ok hst (Nat.le_refl _) E)
abbrev mX1_copyFrom : MI := (RX1, cX1_copyFrom, 2, none, [], false)
theorem ws_X1_copyFrom : ∀ w ∈ wsM yX1_copyFrom mX1_copyFrom, w ∈ gw := List.forall_mem_cons.mpr ⟨gw_at 518 (by decide +kernel) (by decide +kernel), fun _ h => h⟩
theorem fl_X1_7_1 : FL RX1 7 1 0 := ⟨_, rfl, by decide, "VintageWater$Debt", gw_at 345 (by decide +kernel) (by decide +kernel), Or.inl rfl⟩
theorem fl_X1_13_1 : FL RX1 13 1 1 := ⟨_, rfl, by decide, "VintageWater$Debt", gw_at 347 (by decide +kernel) (by decide +kernel), Or.inl rfl⟩
theorem fl_X1_16_1 : FL RX1 16 1 2 := ⟨_, rfl, by decide, "VintageWater$Debt", gw_at 349 (by decide +kernel) (by decide +kernel), Or.inl rfl⟩
def f_Debt_copyFrom_b0   (h : Hp) (x0 : Nat) (x1 : Nat)  : Option (Hp) :=
if hS h x1 = 2 then (
if hS h x0 = 2 then (
wr (sI h x0 0 (hI h x1 0)) fun h3 =>
wr (sI h3 x0 1 (hI h3 x1 1)) fun h5 =>
wr (sI h5 x0 2 (hI h5 x1 2)) fun h7 =>
some h7
) else none) else none
set_option maxRecDepth 20000 in
set_option maxHeartbeats 4000000 in
theorem f_Debt_copyFrom_b0_ok {l : Launch} {X : Nat × (Nat → Int32)} (hst : l.stackTraces = false) {d : Nat} (hd : 0 ≤ d)     {h : Hp} {x0 : Nat} {x1 : Nat}  {r : Hp} (E : f_Debt_copyFrom_b0   h x0 x1 = some r) : Rn l X mX1_copyFrom d 0 [(0, .ref x0), (1, .ref x1)] [] h (eV r) r := by
  unfold f_Debt_copyFrom_b0 at E
  refine Rn.aload_n (pc' := 1) dX1_copyFrom_0 rfl 0 rfl rfl ?_
  refine Rn.aload_n (pc' := 2) dX1_copyFrom_1 rfl 1 rfl rfl ?_
  obtain ⟨g1, E⟩ := gd_of E
  refine Rn.getI (pc' := 5) fl_X1_7_1 g1 rfl dX1_copyFrom_2 rfl ?_
  obtain ⟨g2, E⟩ := gd_of E
  refine Rn.putI (pc' := 8) fl_X1_7_1 (fun q hq => by cases hq; decide) g2 rfl rfl rfl dX1_copyFrom_5 rfl ?_
  replace E := wr_of E
  generalize eh4 : sI h x0 0 (hI h x1 0) = h3 at E ⊢
  refine Rn.aload_n (pc' := 9) dX1_copyFrom_8 rfl 0 rfl rfl ?_
  refine Rn.aload_n (pc' := 10) dX1_copyFrom_9 rfl 1 rfl rfl ?_
  refine Rn.getI (pc' := 13) fl_X1_13_1 (kp_sI eh4 g1) rfl dX1_copyFrom_10 rfl ?_
  refine Rn.putI (pc' := 16) fl_X1_13_1 (fun q hq => by cases hq; decide) (kp_sI eh4 g2) rfl rfl rfl dX1_copyFrom_13 rfl ?_
  replace E := wr_of E
  generalize eh6 : sI h3 x0 1 (hI h3 x1 1) = h5 at E ⊢
  refine Rn.aload_n (pc' := 17) dX1_copyFrom_16 rfl 0 rfl rfl ?_
  refine Rn.aload_n (pc' := 18) dX1_copyFrom_17 rfl 1 rfl rfl ?_
  refine Rn.getI (pc' := 21) fl_X1_16_1 (kp_sI eh6 (kp_sI eh4 g1)) rfl dX1_copyFrom_18 rfl ?_
  refine Rn.putI (pc' := 24) fl_X1_16_1 (fun q hq => by cases hq; decide) (kp_sI eh6 (kp_sI eh4 g2)) rfl rfl rfl dX1_copyFrom_21 rfl ?_
  replace E := wr_of E
  generalize eh8 : sI h5 x0 2 (hI h5 x1 2) = h7 at E ⊢
  cases E
  exact Rn.vret rfl dX1_copyFrom_24
def f_Debt_copyFrom (h : Hp) (x0 : Nat) (x1 : Nat) : Option (Hp) := f_Debt_copyFrom_b0  h x0 x1
theorem f_Debt_copyFrom_ok {l : Launch} {X : Nat × (Nat → Int32)} (hst : l.stackTraces = false) {h : Hp} {x0 : Nat} {x1 : Nat} {r : Hp} (E : f_Debt_copyFrom h x0 x1 = some r) : MC l X yX1_copyFrom mX1_copyFrom 0 [.ref x0, .ref x1] h (eV r) r :=
  MC.body (by decide +kernel) rfl (by decide) hst (Nat.le_of_ble_eq_true rfl) (f_Debt_copyFrom_b0_ok hst (Nat.le_refl _) E)
abbrev mX3_copyFrom : MI := (RX3, cX3_copyFrom, 3, none, [], false)
theorem ws_X3_copyFrom : ∀ w ∈ wsM yX3_copyFrom mX3_copyFrom, w ∈ gw := List.forall_mem_cons.mpr ⟨gw_at 502 (by decide +kernel) (by decide +kernel), fun _ h => h⟩
theorem fl_X3_49_3 : FL RX3 49 3 2 := ⟨_, rfl, by decide, "VintageWater$Land", gw_at 363 (by decide +kernel) (by decide +kernel), Or.inl rfl⟩
theorem kac_X3_62 : Cond.methodLink RX3 62 arraycopyName ∈ gw := gw_at 519 (by decide +kernel) (by decide +kernel)
theorem fl_X3_68_3 : FL RX3 68 3 8 := ⟨_, rfl, by decide, "VintageWater$Land", gw_at 374 (by decide +kernel) (by decide +kernel), Or.inl rfl⟩
theorem fl_X3_72_3 : FL RX3 72 3 9 := ⟨_, rfl, by decide, "VintageWater$Land", gw_at 376 (by decide +kernel) (by decide +kernel), Or.inl rfl⟩
theorem fl_X3_78_3 : FL RX3 78 3 12 := ⟨_, rfl, by decide, "VintageWater$Land", gw_at 382 (by decide +kernel) (by decide +kernel), Or.inl rfl⟩
theorem fl_X3_81_3 : FL RX3 81 3 13 := ⟨_, rfl, by decide, "VintageWater$Land", gw_at 384 (by decide +kernel) (by decide +kernel), Or.inl rfl⟩
theorem fl_X3_84_3 : FL RX3 84 3 14 := ⟨_, rfl, by decide, "VintageWater$Land", gw_at 386 (by decide +kernel) (by decide +kernel), Or.inl rfl⟩
theorem kb_X3_59 : KB RX3 59 yX1_copyFrom mX1_copyFrom 1 := ⟨gw_at 515 (by decide +kernel) (by decide +kernel), gw_at 116 (by decide +kernel) (by decide +kernel), trivial, ws_X1_copyFrom, by decide +kernel, by decide +kernel, by decide +kernel, by decide⟩
theorem ki_X1_copyFrom : Cond.instanceMethod yX1_copyFrom ∈ gw ∧ Cond.selects yX1_copyFrom.cls yX1_copyFrom yX1_copyFrom ∈ gw := ⟨gw_at 516 (by decide +kernel) (by decide +kernel), gw_at 517 (by decide +kernel) (by decide +kernel)⟩
def f_Land_copyFrom_b88  (k88 : Hp → Nat → Nat → Int32 → Option (Hp)) (h : Hp) (x0 : Nat) (x1 : Nat) (x2 : Int32)  : Option (Hp) :=
if hS h x0 = 4 then (
if (hI h x0 2) ≤ x2 then (
if hS h x1 = 4 then (
if hS h (hR h x1 6) = 20 then (
if hS h (hR h x0 6) = 20 then (
if ¬ (0 : Int32) < 0 then (
if ¬ (0 : Int32) < 0 then (
if ¬ (30 : Int32) < 0 then (
if ix (0 : Int32) + ix (30 : Int32) ≤ hL h (hR h x1 6) then (
if ix (0 : Int32) + ix (30 : Int32) ≤ hL h (hR h x0 6) then (
wr (cI h (hR h x0 6) (va_cpy (hI h (hR h x1 6)) (hI h (hR h x0 6)) (ix (0 : Int32)) (ix (0 : Int32)) (ix (30 : Int32)))) fun h11 =>
wr (sR h11 x0 8 (hR h11 x1 8)) fun h13 =>
wr (sI h13 x0 9 (hI h13 x1 9)) fun h15 =>
wr (sI h15 x0 10 (hI h15 x1 10)) fun h17 =>
wr (sI h17 x0 11 (hI h17 x1 11)) fun h19 =>
wr (sI h19 x0 12 (hI h19 x1 12)) fun h21 =>
wr (sI h21 x0 13 (hI h21 x1 13)) fun h23 =>
wr (sI h23 x0 14 (hI h23 x1 14)) fun h25 =>
wr (sI h25 x0 15 (hI h25 x1 15)) fun h27 =>
some h27
) else none) else none) else none) else none) else none) else none) else none) else none
) else (
if hS h (hR h x0 5) = 25 then (
if ib x2 (hL h (hR h x0 5)) = true then (
if hS h x1 = 4 then (
if hS h (hR h x1 5) = 25 then (
if ib x2 (hL h (hR h x1 5)) = true then (
if hS h (hR h (hR h x0 5) (ix x2)) = 2 then (
bV (f_Debt_copyFrom h (hR h (hR h x0 5) (ix x2)) (hR h (hR h x1 5) (ix x2))) fun h36 =>
k88 h36 x0 x1 (x2 + (1 : Int32))
) else none) else none) else none) else none) else none) else none
)
) else none
set_option maxRecDepth 20000 in
set_option maxHeartbeats 4000000 in
theorem f_Land_copyFrom_b88_ok {l : Launch} {X : Nat × (Nat → Int32)} (hst : l.stackTraces = false) {d : Nat} (hd : 2 ≤ d)   {k88 : Hp → Nat → Nat → Int32 → Option (Hp)} (hk88 : ∀ (h : Hp) (x0 : Nat) (x1 : Nat) (x2 : Int32)  (r : Hp), k88 h x0 x1 x2 = some r → Rn l X mX3_copyFrom d 88 [(0, .ref x0), (1, .ref x1), (2, .int x2)] [] h (eV r) r) {h : Hp} {x0 : Nat} {x1 : Nat} {x2 : Int32}  {r : Hp} (E : f_Land_copyFrom_b88  k88 h x0 x1 x2 = some r) : Rn l X mX3_copyFrom d 88 [(0, .ref x0), (1, .ref x1), (2, .int x2)] [] h (eV r) r := by
  unfold f_Land_copyFrom_b88 at E
  refine Rn.iload_n (pc' := 89) dX3_copyFrom_88 rfl 2 rfl rfl ?_
  refine Rn.aload_n (pc' := 90) dX3_copyFrom_89 rfl 0 rfl rfl ?_
  obtain ⟨g1, E⟩ := gd_of E
  refine Rn.getI (pc' := 93) fl_X3_49_3 g1 rfl dX3_copyFrom_90 rfl ?_
  refine Rn.icmp_ge (pc' := 96) (tgt := 117) dX3_copyFrom_93 (by decide) rfl (fun c2 => ?_) (fun c2 => ?_)
  · replace E := (if_of E).1 c2
    refine Rn.aload_n (pc' := 118) dX3_copyFrom_117 rfl 1 rfl rfl ?_
    obtain ⟨g3, E⟩ := gd_of E
    refine Rn.getR (pc' := 121) fl_X3_29_3 g3 rfl dX3_copyFrom_118 rfl ?_
    refine Rn.iconst (pc' := 122) (v := (0 : Int32)) (hv := by decide) dX3_copyFrom_121 rfl ?_
    refine Rn.aload_n (pc' := 123) dX3_copyFrom_122 rfl 0 rfl rfl ?_
    refine Rn.getR (pc' := 126) fl_X3_29_3 g1 rfl dX3_copyFrom_123 rfl ?_
    refine Rn.iconst (pc' := 127) (v := (0 : Int32)) (hv := by decide) dX3_copyFrom_126 rfl ?_
    refine Rn.bipush (pc' := 129) (v := (30 : Int32)) (hv := by decide) dX3_copyFrom_127 rfl ?_
    obtain ⟨g4, E⟩ := gd_of E
    obtain ⟨g5, E⟩ := gd_of E
    obtain ⟨g6, E⟩ := gd_of E
    obtain ⟨g7, E⟩ := gd_of E
    obtain ⟨g8, E⟩ := gd_of E
    obtain ⟨g9, E⟩ := gd_of E
    obtain ⟨g10, E⟩ := gd_of E
    refine Rn.acopy (pc' := 132) kac_X3_62 g4 g5 g6 g7 g8 g9 g10 (Nat.le_of_ble_eq_true rfl) dX3_copyFrom_129 rfl ?_
    replace E := wr_of E
    generalize eh12 : cI h (hR h x0 6) (va_cpy (hI h (hR h x1 6)) (hI h (hR h x0 6)) (ix (0 : Int32)) (ix (0 : Int32)) (ix (30 : Int32))) = h11 at E ⊢
    refine Rn.aload_n (pc' := 133) dX3_copyFrom_132 rfl 0 rfl rfl ?_
    refine Rn.aload_n (pc' := 134) dX3_copyFrom_133 rfl 1 rfl rfl ?_
    refine Rn.getR (pc' := 137) fl_X3_68_3 (kp_cI eh12 g3) rfl dX3_copyFrom_134 rfl ?_
    refine Rn.putR (pc' := 140) fl_X3_68_3 (fun q hq => by cases hq; decide) (kp_cI eh12 g1) rfl rfl dX3_copyFrom_137 rfl ?_
    replace E := wr_of E
    generalize eh14 : sR h11 x0 8 (hR h11 x1 8) = h13 at E ⊢
    refine Rn.aload_n (pc' := 141) dX3_copyFrom_140 rfl 0 rfl rfl ?_
    refine Rn.aload_n (pc' := 142) dX3_copyFrom_141 rfl 1 rfl rfl ?_
    refine Rn.getI (pc' := 145) fl_X3_72_3 (kp_sR eh14 (kp_cI eh12 g3)) rfl dX3_copyFrom_142 rfl ?_
    refine Rn.putI (pc' := 148) fl_X3_72_3 (fun q hq => by cases hq; decide) (kp_sR eh14 (kp_cI eh12 g1)) rfl rfl rfl dX3_copyFrom_145 rfl ?_
    replace E := wr_of E
    generalize eh16 : sI h13 x0 9 (hI h13 x1 9) = h15 at E ⊢
    refine Rn.aload_n (pc' := 149) dX3_copyFrom_148 rfl 0 rfl rfl ?_
    refine Rn.aload_n (pc' := 150) dX3_copyFrom_149 rfl 1 rfl rfl ?_
    refine Rn.getI (pc' := 153) fl_X3_75_3 (kp_sI eh16 (kp_sR eh14 (kp_cI eh12 g3))) rfl dX3_copyFrom_150 rfl ?_
    refine Rn.putI (pc' := 156) fl_X3_75_3 (fun q hq => by cases hq; decide) (kp_sI eh16 (kp_sR eh14 (kp_cI eh12 g1))) rfl rfl rfl dX3_copyFrom_153 rfl ?_
    replace E := wr_of E
    generalize eh18 : sI h15 x0 10 (hI h15 x1 10) = h17 at E ⊢
    refine Rn.aload_n (pc' := 157) dX3_copyFrom_156 rfl 0 rfl rfl ?_
    refine Rn.aload_n (pc' := 158) dX3_copyFrom_157 rfl 1 rfl rfl ?_
    refine Rn.getI (pc' := 161) fl_X3_36_3 (kp_sI eh18 (kp_sI eh16 (kp_sR eh14 (kp_cI eh12 g3)))) rfl dX3_copyFrom_158 rfl ?_
    refine Rn.putI (pc' := 164) fl_X3_36_3 (fun q hq => by cases hq; decide) (kp_sI eh18 (kp_sI eh16 (kp_sR eh14 (kp_cI eh12 g1)))) rfl rfl rfl dX3_copyFrom_161 rfl ?_
    replace E := wr_of E
    generalize eh20 : sI h17 x0 11 (hI h17 x1 11) = h19 at E ⊢
    refine Rn.aload_n (pc' := 165) dX3_copyFrom_164 rfl 0 rfl rfl ?_
    refine Rn.aload_n (pc' := 166) dX3_copyFrom_165 rfl 1 rfl rfl ?_
    refine Rn.getI (pc' := 169) fl_X3_78_3 (kp_sI eh20 (kp_sI eh18 (kp_sI eh16 (kp_sR eh14 (kp_cI eh12 g3))))) rfl dX3_copyFrom_166 rfl ?_
    refine Rn.putI (pc' := 172) fl_X3_78_3 (fun q hq => by cases hq; decide) (kp_sI eh20 (kp_sI eh18 (kp_sI eh16 (kp_sR eh14 (kp_cI eh12 g1))))) rfl rfl rfl dX3_copyFrom_169 rfl ?_
    replace E := wr_of E
    generalize eh22 : sI h19 x0 12 (hI h19 x1 12) = h21 at E ⊢
    refine Rn.aload_n (pc' := 173) dX3_copyFrom_172 rfl 0 rfl rfl ?_
    refine Rn.aload_n (pc' := 174) dX3_copyFrom_173 rfl 1 rfl rfl ?_
    refine Rn.getI (pc' := 177) fl_X3_81_3 (kp_sI eh22 (kp_sI eh20 (kp_sI eh18 (kp_sI eh16 (kp_sR eh14 (kp_cI eh12 g3)))))) rfl dX3_copyFrom_174 rfl ?_
    refine Rn.putI (pc' := 180) fl_X3_81_3 (fun q hq => by cases hq; decide) (kp_sI eh22 (kp_sI eh20 (kp_sI eh18 (kp_sI eh16 (kp_sR eh14 (kp_cI eh12 g1)))))) rfl rfl rfl dX3_copyFrom_177 rfl ?_
    replace E := wr_of E
    generalize eh24 : sI h21 x0 13 (hI h21 x1 13) = h23 at E ⊢
    refine Rn.aload_n (pc' := 181) dX3_copyFrom_180 rfl 0 rfl rfl ?_
    refine Rn.aload_n (pc' := 182) dX3_copyFrom_181 rfl 1 rfl rfl ?_
    refine Rn.getI (pc' := 185) fl_X3_84_3 (kp_sI eh24 (kp_sI eh22 (kp_sI eh20 (kp_sI eh18 (kp_sI eh16 (kp_sR eh14 (kp_cI eh12 g3))))))) rfl dX3_copyFrom_182 rfl ?_
    refine Rn.putI (pc' := 188) fl_X3_84_3 (fun q hq => by cases hq; decide) (kp_sI eh24 (kp_sI eh22 (kp_sI eh20 (kp_sI eh18 (kp_sI eh16 (kp_sR eh14 (kp_cI eh12 g1))))))) rfl rfl rfl dX3_copyFrom_185 rfl ?_
    replace E := wr_of E
    generalize eh26 : sI h23 x0 14 (hI h23 x1 14) = h25 at E ⊢
    refine Rn.aload_n (pc' := 189) dX3_copyFrom_188 rfl 0 rfl rfl ?_
    refine Rn.aload_n (pc' := 190) dX3_copyFrom_189 rfl 1 rfl rfl ?_
    refine Rn.getI (pc' := 193) fl_X3_87_3 (kp_sI eh26 (kp_sI eh24 (kp_sI eh22 (kp_sI eh20 (kp_sI eh18 (kp_sI eh16 (kp_sR eh14 (kp_cI eh12 g3)))))))) rfl dX3_copyFrom_190 rfl ?_
    refine Rn.putI (pc' := 196) fl_X3_87_3 (fun q hq => by cases hq; decide) (kp_sI eh26 (kp_sI eh24 (kp_sI eh22 (kp_sI eh20 (kp_sI eh18 (kp_sI eh16 (kp_sR eh14 (kp_cI eh12 g1)))))))) rfl rfl rfl dX3_copyFrom_193 rfl ?_
    replace E := wr_of E
    generalize eh28 : sI h25 x0 15 (hI h25 x1 15) = h27 at E ⊢
    cases E
    exact Rn.vret rfl dX3_copyFrom_196
  · replace E := (if_of E).2 c2
    refine Rn.aload_n (pc' := 97) dX3_copyFrom_96 rfl 0 rfl rfl ?_
    refine Rn.getR (pc' := 100) fl_X3_25_3 g1 rfl dX3_copyFrom_97 rfl ?_
    refine Rn.iload_n (pc' := 101) dX3_copyFrom_100 rfl 2 rfl rfl ?_
    obtain ⟨g29, E⟩ := gd_of E
    obtain ⟨g30, E⟩ := gd_of E
    refine Rn.aald (pc' := 102) g29 (by decide) (by decide) g30 dX3_copyFrom_101 rfl ?_
    refine Rn.aload_n (pc' := 103) dX3_copyFrom_102 rfl 1 rfl rfl ?_
    obtain ⟨g31, E⟩ := gd_of E
    refine Rn.getR (pc' := 106) fl_X3_25_3 g31 rfl dX3_copyFrom_103 rfl ?_
    refine Rn.iload_n (pc' := 107) dX3_copyFrom_106 rfl 2 rfl rfl ?_
    obtain ⟨g32, E⟩ := gd_of E
    obtain ⟨g33, E⟩ := gd_of E
    refine Rn.aald (pc' := 108) g32 (by decide) (by decide) g33 dX3_copyFrom_107 rfl ?_
    obtain ⟨g34, E⟩ := gd_of E
    obtain ⟨h36, e37, E⟩ := bV_of E
    refine Rn.callV1 (pc' := 111) (As := [.ref (hR h (hR h x1 5) (ix x2))]) (rest := []) (f_Debt_copyFrom_ok hst e37) (Nat.le_trans (by decide) hd) rfl kb_X3_59 ki_X1_copyFrom rfl g34 rfl rfl (Nat.le_of_ble_eq_true rfl) dX3_copyFrom_108 rfl rfl ?_
    refine Rn.iinc (pc' := 114) (v := (x2 + (1 : Int32))) (L' := [(2, .int (x2 + (1 : Int32))), (0, .ref x0), (1, .ref x1)]) dX3_copyFrom_111 2 rfl rfl (by decide) rfl rfl ?_
    refine Rn.goto (pc' := 88) dX3_copyFrom_114 (by decide) ?_
    refine Rn.sub [1, 2, 0] rfl ?_
    exact hk88 _ _ _ _ _ E
def f_Land_copyFrom_L88   (n : Nat) : Hp → Nat → Nat → Int32 → Option (Hp) := Nat.rec (motive := fun _ => Hp → Nat → Nat → Int32 → Option (Hp)) (fun _ _ _ _ => none) (fun _ rec => f_Land_copyFrom_b88   rec) n
theorem f_Land_copyFrom_L88_ok {l : Launch} {X : Nat × (Nat → Int32)} (hst : l.stackTraces = false) {d : Nat} (hd : 2 ≤ d)     : ∀ (n : Nat) (h : Hp) (x0 : Nat) (x1 : Nat) (x2 : Int32)  (r : Hp), f_Land_copyFrom_L88   n h x0 x1 x2 = some r → Rn l X mX3_copyFrom d 88 [(0, .ref x0), (1, .ref x1), (2, .int x2)] [] h (eV r) r := by
  intro n
  induction n with
  | zero => intro h x0 x1 x2 r E; cases E
  | succ n ih => intro h x0 x1 x2 r E; exact f_Land_copyFrom_b88_ok hst hd   ih E
theorem kb_X3_56 : KB RX3 56 yX2_copyFrom mX2_copyFrom 1 := ⟨gw_at 510 (by decide +kernel) (by decide +kernel), gw_at 115 (by decide +kernel) (by decide +kernel), trivial, ws_X2_copyFrom, by decide +kernel, by decide +kernel, by decide +kernel, by decide⟩
theorem ki_X2_copyFrom : Cond.instanceMethod yX2_copyFrom ∈ gw ∧ Cond.selects yX2_copyFrom.cls yX2_copyFrom yX2_copyFrom ∈ gw := ⟨gw_at 511 (by decide +kernel) (by decide +kernel), gw_at 512 (by decide +kernel) (by decide +kernel)⟩
def f_Land_copyFrom_b57  (k57 : Hp → Nat → Nat → Int32 → Option (Hp)) (h : Hp) (x0 : Nat) (x1 : Nat) (x2 : Int32)  : Option (Hp) :=
if hS h x0 = 4 then (
if (hI h x0 1) ≤ x2 then (
f_Land_copyFrom_L88   FU h x0 x1 (0 : Int32)

) else (
if hS h (hR h x0 4) = 24 then (
if ib x2 (hL h (hR h x0 4)) = true then (
if hS h x1 = 4 then (
if hS h (hR h x1 4) = 24 then (
if ib x2 (hL h (hR h x1 4)) = true then (
if hS h (hR h (hR h x0 4) (ix x2)) = 3 then (
bV (f_House_copyFrom h (hR h (hR h x0 4) (ix x2)) (hR h (hR h x1 4) (ix x2))) fun h10 =>
k57 h10 x0 x1 (x2 + (1 : Int32))
) else none) else none) else none) else none) else none) else none
)
) else none
set_option maxRecDepth 20000 in
set_option maxHeartbeats 4000000 in
theorem f_Land_copyFrom_b57_ok {l : Launch} {X : Nat × (Nat → Int32)} (hst : l.stackTraces = false) {d : Nat} (hd : 2 ≤ d)   {k57 : Hp → Nat → Nat → Int32 → Option (Hp)} (hk57 : ∀ (h : Hp) (x0 : Nat) (x1 : Nat) (x2 : Int32)  (r : Hp), k57 h x0 x1 x2 = some r → Rn l X mX3_copyFrom d 57 [(0, .ref x0), (1, .ref x1), (2, .int x2)] [] h (eV r) r) {h : Hp} {x0 : Nat} {x1 : Nat} {x2 : Int32}  {r : Hp} (E : f_Land_copyFrom_b57  k57 h x0 x1 x2 = some r) : Rn l X mX3_copyFrom d 57 [(0, .ref x0), (1, .ref x1), (2, .int x2)] [] h (eV r) r := by
  unfold f_Land_copyFrom_b57 at E
  refine Rn.iload_n (pc' := 58) dX3_copyFrom_57 rfl 2 rfl rfl ?_
  refine Rn.aload_n (pc' := 59) dX3_copyFrom_58 rfl 0 rfl rfl ?_
  obtain ⟨g1, E⟩ := gd_of E
  refine Rn.getI (pc' := 62) fl_X3_46_3 g1 rfl dX3_copyFrom_59 rfl ?_
  refine Rn.icmp_ge (pc' := 65) (tgt := 86) dX3_copyFrom_62 (by decide) rfl (fun c2 => ?_) (fun c2 => ?_)
  · replace E := (if_of E).1 c2
    refine Rn.iconst (pc' := 87) (v := (0 : Int32)) (hv := by decide) dX3_copyFrom_86 rfl ?_
    refine Rn.istore_n (pc' := 88) (L' := [(2, .int (0 : Int32)), (0, .ref x0), (1, .ref x1)]) dX3_copyFrom_87 rfl (by decide) rfl rfl ?_
    refine Rn.sub [1, 2, 0] rfl ?_
    exact f_Land_copyFrom_L88_ok hst hd   FU _ _ _ _ _ E
  · replace E := (if_of E).2 c2
    refine Rn.aload_n (pc' := 66) dX3_copyFrom_65 rfl 0 rfl rfl ?_
    refine Rn.getR (pc' := 69) fl_X3_19_3 g1 rfl dX3_copyFrom_66 rfl ?_
    refine Rn.iload_n (pc' := 70) dX3_copyFrom_69 rfl 2 rfl rfl ?_
    obtain ⟨g3, E⟩ := gd_of E
    obtain ⟨g4, E⟩ := gd_of E
    refine Rn.aald (pc' := 71) g3 (by decide) (by decide) g4 dX3_copyFrom_70 rfl ?_
    refine Rn.aload_n (pc' := 72) dX3_copyFrom_71 rfl 1 rfl rfl ?_
    obtain ⟨g5, E⟩ := gd_of E
    refine Rn.getR (pc' := 75) fl_X3_19_3 g5 rfl dX3_copyFrom_72 rfl ?_
    refine Rn.iload_n (pc' := 76) dX3_copyFrom_75 rfl 2 rfl rfl ?_
    obtain ⟨g6, E⟩ := gd_of E
    obtain ⟨g7, E⟩ := gd_of E
    refine Rn.aald (pc' := 77) g6 (by decide) (by decide) g7 dX3_copyFrom_76 rfl ?_
    obtain ⟨g8, E⟩ := gd_of E
    obtain ⟨h10, e11, E⟩ := bV_of E
    refine Rn.callV1 (pc' := 80) (As := [.ref (hR h (hR h x1 4) (ix x2))]) (rest := []) (f_House_copyFrom_ok hst e11) (Nat.le_trans (by decide) hd) rfl kb_X3_56 ki_X2_copyFrom rfl g8 rfl rfl (Nat.le_of_ble_eq_true rfl) dX3_copyFrom_77 rfl rfl ?_
    refine Rn.iinc (pc' := 83) (v := (x2 + (1 : Int32))) (L' := [(2, .int (x2 + (1 : Int32))), (0, .ref x0), (1, .ref x1)]) dX3_copyFrom_80 2 rfl rfl (by decide) rfl rfl ?_
    refine Rn.goto (pc' := 57) dX3_copyFrom_83 (by decide) ?_
    refine Rn.sub [1, 2, 0] rfl ?_
    exact hk57 _ _ _ _ _ E
def f_Land_copyFrom_L57   (n : Nat) : Hp → Nat → Nat → Int32 → Option (Hp) := Nat.rec (motive := fun _ => Hp → Nat → Nat → Int32 → Option (Hp)) (fun _ _ _ _ => none) (fun _ rec => f_Land_copyFrom_b57   rec) n
theorem f_Land_copyFrom_L57_ok {l : Launch} {X : Nat × (Nat → Int32)} (hst : l.stackTraces = false) {d : Nat} (hd : 2 ≤ d)     : ∀ (n : Nat) (h : Hp) (x0 : Nat) (x1 : Nat) (x2 : Int32)  (r : Hp), f_Land_copyFrom_L57   n h x0 x1 x2 = some r → Rn l X mX3_copyFrom d 57 [(0, .ref x0), (1, .ref x1), (2, .int x2)] [] h (eV r) r := by
  intro n
  induction n with
  | zero => intro h x0 x1 x2 r E; cases E
  | succ n ih => intro h x0 x1 x2 r E; exact f_Land_copyFrom_b57_ok hst hd   ih E
theorem kb_X3_52 : KB RX3 52 yX0_copyFrom mX0_copyFrom 1 := ⟨gw_at 503 (by decide +kernel) (by decide +kernel), gw_at 114 (by decide +kernel) (by decide +kernel), trivial, ws_X0_copyFrom, by decide +kernel, by decide +kernel, by decide +kernel, by decide⟩
theorem ki_X0_copyFrom : Cond.instanceMethod yX0_copyFrom ∈ gw ∧ Cond.selects yX0_copyFrom.cls yX0_copyFrom yX0_copyFrom ∈ gw := ⟨gw_at 504 (by decide +kernel) (by decide +kernel), gw_at 505 (by decide +kernel) (by decide +kernel)⟩
def f_Land_copyFrom_b26  (k26 : Hp → Nat → Nat → Int32 → Option (Hp)) (h : Hp) (x0 : Nat) (x1 : Nat) (x2 : Int32)  : Option (Hp) :=
if hS h x0 = 4 then (
if (hI h x0 0) ≤ x2 then (
f_Land_copyFrom_L57   FU h x0 x1 (0 : Int32)

) else (
if hS h (hR h x0 3) = 23 then (
if ib x2 (hL h (hR h x0 3)) = true then (
if hS h x1 = 4 then (
if hS h (hR h x1 3) = 23 then (
if ib x2 (hL h (hR h x1 3)) = true then (
if hS h (hR h (hR h x0 3) (ix x2)) = 1 then (
bV (f_Cistern_copyFrom h (hR h (hR h x0 3) (ix x2)) (hR h (hR h x1 3) (ix x2))) fun h10 =>
k26 h10 x0 x1 (x2 + (1 : Int32))
) else none) else none) else none) else none) else none) else none
)
) else none
set_option maxRecDepth 20000 in
set_option maxHeartbeats 4000000 in
theorem f_Land_copyFrom_b26_ok {l : Launch} {X : Nat × (Nat → Int32)} (hst : l.stackTraces = false) {d : Nat} (hd : 2 ≤ d)   {k26 : Hp → Nat → Nat → Int32 → Option (Hp)} (hk26 : ∀ (h : Hp) (x0 : Nat) (x1 : Nat) (x2 : Int32)  (r : Hp), k26 h x0 x1 x2 = some r → Rn l X mX3_copyFrom d 26 [(0, .ref x0), (1, .ref x1), (2, .int x2)] [] h (eV r) r) {h : Hp} {x0 : Nat} {x1 : Nat} {x2 : Int32}  {r : Hp} (E : f_Land_copyFrom_b26  k26 h x0 x1 x2 = some r) : Rn l X mX3_copyFrom d 26 [(0, .ref x0), (1, .ref x1), (2, .int x2)] [] h (eV r) r := by
  unfold f_Land_copyFrom_b26 at E
  refine Rn.iload_n (pc' := 27) dX3_copyFrom_26 rfl 2 rfl rfl ?_
  refine Rn.aload_n (pc' := 28) dX3_copyFrom_27 rfl 0 rfl rfl ?_
  obtain ⟨g1, E⟩ := gd_of E
  refine Rn.getI (pc' := 31) fl_X3_43_3 g1 rfl dX3_copyFrom_28 rfl ?_
  refine Rn.icmp_ge (pc' := 34) (tgt := 55) dX3_copyFrom_31 (by decide) rfl (fun c2 => ?_) (fun c2 => ?_)
  · replace E := (if_of E).1 c2
    refine Rn.iconst (pc' := 56) (v := (0 : Int32)) (hv := by decide) dX3_copyFrom_55 rfl ?_
    refine Rn.istore_n (pc' := 57) (L' := [(2, .int (0 : Int32)), (0, .ref x0), (1, .ref x1)]) dX3_copyFrom_56 rfl (by decide) rfl rfl ?_
    refine Rn.sub [1, 2, 0] rfl ?_
    exact f_Land_copyFrom_L57_ok hst hd   FU _ _ _ _ _ E
  · replace E := (if_of E).2 c2
    refine Rn.aload_n (pc' := 35) dX3_copyFrom_34 rfl 0 rfl rfl ?_
    refine Rn.getR (pc' := 38) fl_X3_11_3 g1 rfl dX3_copyFrom_35 rfl ?_
    refine Rn.iload_n (pc' := 39) dX3_copyFrom_38 rfl 2 rfl rfl ?_
    obtain ⟨g3, E⟩ := gd_of E
    obtain ⟨g4, E⟩ := gd_of E
    refine Rn.aald (pc' := 40) g3 (by decide) (by decide) g4 dX3_copyFrom_39 rfl ?_
    refine Rn.aload_n (pc' := 41) dX3_copyFrom_40 rfl 1 rfl rfl ?_
    obtain ⟨g5, E⟩ := gd_of E
    refine Rn.getR (pc' := 44) fl_X3_11_3 g5 rfl dX3_copyFrom_41 rfl ?_
    refine Rn.iload_n (pc' := 45) dX3_copyFrom_44 rfl 2 rfl rfl ?_
    obtain ⟨g6, E⟩ := gd_of E
    obtain ⟨g7, E⟩ := gd_of E
    refine Rn.aald (pc' := 46) g6 (by decide) (by decide) g7 dX3_copyFrom_45 rfl ?_
    obtain ⟨g8, E⟩ := gd_of E
    obtain ⟨h10, e11, E⟩ := bV_of E
    refine Rn.callV1 (pc' := 49) (As := [.ref (hR h (hR h x1 3) (ix x2))]) (rest := []) (f_Cistern_copyFrom_ok hst e11) (Nat.le_trans (by decide) hd) rfl kb_X3_52 ki_X0_copyFrom rfl g8 rfl rfl (Nat.le_of_ble_eq_true rfl) dX3_copyFrom_46 rfl rfl ?_
    refine Rn.iinc (pc' := 52) (v := (x2 + (1 : Int32))) (L' := [(2, .int (x2 + (1 : Int32))), (0, .ref x0), (1, .ref x1)]) dX3_copyFrom_49 2 rfl rfl (by decide) rfl rfl ?_
    refine Rn.goto (pc' := 26) dX3_copyFrom_52 (by decide) ?_
    refine Rn.sub [1, 2, 0] rfl ?_
    exact hk26 _ _ _ _ _ E
def f_Land_copyFrom_L26   (n : Nat) : Hp → Nat → Nat → Int32 → Option (Hp) := Nat.rec (motive := fun _ => Hp → Nat → Nat → Int32 → Option (Hp)) (fun _ _ _ _ => none) (fun _ rec => f_Land_copyFrom_b26   rec) n
theorem f_Land_copyFrom_L26_ok {l : Launch} {X : Nat × (Nat → Int32)} (hst : l.stackTraces = false) {d : Nat} (hd : 2 ≤ d)     : ∀ (n : Nat) (h : Hp) (x0 : Nat) (x1 : Nat) (x2 : Int32)  (r : Hp), f_Land_copyFrom_L26   n h x0 x1 x2 = some r → Rn l X mX3_copyFrom d 26 [(0, .ref x0), (1, .ref x1), (2, .int x2)] [] h (eV r) r := by
  intro n
  induction n with
  | zero => intro h x0 x1 x2 r E; cases E
  | succ n ih => intro h x0 x1 x2 r E; exact f_Land_copyFrom_b26_ok hst hd   ih E
def f_Land_copyFrom_b0   (h : Hp) (x0 : Nat) (x1 : Nat)  : Option (Hp) :=
if hS h x1 = 4 then (
if hS h x0 = 4 then (
wr (sI h x0 0 (hI h x1 0)) fun h3 =>
wr (sI h3 x0 1 (hI h3 x1 1)) fun h5 =>
wr (sI h5 x0 2 (hI h5 x1 2)) fun h7 =>
f_Land_copyFrom_L26   FU h7 x0 x1 (0 : Int32)
) else none) else none
set_option maxRecDepth 20000 in
set_option maxHeartbeats 4000000 in
theorem f_Land_copyFrom_b0_ok {l : Launch} {X : Nat × (Nat → Int32)} (hst : l.stackTraces = false) {d : Nat} (hd : 2 ≤ d)     {h : Hp} {x0 : Nat} {x1 : Nat}  {r : Hp} (E : f_Land_copyFrom_b0   h x0 x1 = some r) : Rn l X mX3_copyFrom d 0 [(0, .ref x0), (1, .ref x1)] [] h (eV r) r := by
  unfold f_Land_copyFrom_b0 at E
  refine Rn.aload_n (pc' := 1) dX3_copyFrom_0 rfl 0 rfl rfl ?_
  refine Rn.aload_n (pc' := 2) dX3_copyFrom_1 rfl 1 rfl rfl ?_
  obtain ⟨g1, E⟩ := gd_of E
  refine Rn.getI (pc' := 5) fl_X3_43_3 g1 rfl dX3_copyFrom_2 rfl ?_
  obtain ⟨g2, E⟩ := gd_of E
  refine Rn.putI (pc' := 8) fl_X3_43_3 (fun q hq => by cases hq; decide) g2 rfl rfl rfl dX3_copyFrom_5 rfl ?_
  replace E := wr_of E
  generalize eh4 : sI h x0 0 (hI h x1 0) = h3 at E ⊢
  refine Rn.aload_n (pc' := 9) dX3_copyFrom_8 rfl 0 rfl rfl ?_
  refine Rn.aload_n (pc' := 10) dX3_copyFrom_9 rfl 1 rfl rfl ?_
  refine Rn.getI (pc' := 13) fl_X3_46_3 (kp_sI eh4 g1) rfl dX3_copyFrom_10 rfl ?_
  refine Rn.putI (pc' := 16) fl_X3_46_3 (fun q hq => by cases hq; decide) (kp_sI eh4 g2) rfl rfl rfl dX3_copyFrom_13 rfl ?_
  replace E := wr_of E
  generalize eh6 : sI h3 x0 1 (hI h3 x1 1) = h5 at E ⊢
  refine Rn.aload_n (pc' := 17) dX3_copyFrom_16 rfl 0 rfl rfl ?_
  refine Rn.aload_n (pc' := 18) dX3_copyFrom_17 rfl 1 rfl rfl ?_
  refine Rn.getI (pc' := 21) fl_X3_49_3 (kp_sI eh6 (kp_sI eh4 g1)) rfl dX3_copyFrom_18 rfl ?_
  refine Rn.putI (pc' := 24) fl_X3_49_3 (fun q hq => by cases hq; decide) (kp_sI eh6 (kp_sI eh4 g2)) rfl rfl rfl dX3_copyFrom_21 rfl ?_
  replace E := wr_of E
  generalize eh8 : sI h5 x0 2 (hI h5 x1 2) = h7 at E ⊢
  refine Rn.iconst (pc' := 25) (v := (0 : Int32)) (hv := by decide) dX3_copyFrom_24 rfl ?_
  refine Rn.istore_n (pc' := 26) (L' := [(2, .int (0 : Int32)), (0, .ref x0), (1, .ref x1)]) dX3_copyFrom_25 rfl (by decide) rfl rfl ?_
  refine Rn.sub [1, 2, 0] rfl ?_
  exact f_Land_copyFrom_L26_ok hst hd   FU _ _ _ _ _ E
def f_Land_copyFrom (h : Hp) (x0 : Nat) (x1 : Nat) : Option (Hp) := f_Land_copyFrom_b0  h x0 x1
theorem f_Land_copyFrom_ok {l : Launch} {X : Nat × (Nat → Int32)} (hst : l.stackTraces = false) {h : Hp} {x0 : Nat} {x1 : Nat} {r : Hp} (E : f_Land_copyFrom h x0 x1 = some r) : MC l X yX3_copyFrom mX3_copyFrom 2 [.ref x0, .ref x1] h (eV r) r :=
  MC.body (by decide +kernel) rfl (by decide) hst (Nat.le_of_ble_eq_true rfl) (f_Land_copyFrom_b0_ok hst (Nat.le_refl _) E)
abbrev mX10_back : MI := (RX10, cX10_back, 1, (some Jvm.ClassFile.FieldType.boolean), [], false)
theorem ws_X10_back : ∀ w ∈ wsM yX10_back mX10_back, w ∈ gw := List.forall_mem_cons.mpr ⟨gw_at 688 (by decide +kernel) (by decide +kernel), fun _ h => h⟩
theorem fl_X10_362_9 : FL RX10 362 9 10 := ⟨_, rfl, by decide, "VintageWater", gw_at 445 (by decide +kernel) (by decide +kernel), Or.inl rfl⟩
theorem kb_X10_219 : KB RX10 219 yX3_copyFrom mX3_copyFrom 1 := ⟨gw_at 499 (by decide +kernel) (by decide +kernel), gw_at 113 (by decide +kernel) (by decide +kernel), trivial, ws_X3_copyFrom, by decide +kernel, by decide +kernel, by decide +kernel, by decide⟩
theorem ki_X3_copyFrom : Cond.instanceMethod yX3_copyFrom ∈ gw ∧ Cond.selects yX3_copyFrom.cls yX3_copyFrom yX3_copyFrom ∈ gw := ⟨gw_at 500 (by decide +kernel) (by decide +kernel), gw_at 501 (by decide +kernel) (by decide +kernel)⟩
def f_Water_back_b0   (h : Hp) (x0 : Nat)  : Option (Int32 × Hp) :=
if hS h x0 = 10 then (
if (hI h x0 10) = 0 then (
some ((0 : Int32), h)

) else (
if hS h (hR h x0 4) = 4 then (
bV (f_Land_copyFrom h (hR h x0 4) (hR h x0 7)) fun h5 =>
if hS h5 x0 = 10 then (
if hS h5 (hR h5 x0 3) = 8 then (
wr (sI h5 (hR h5 x0 3) 2 (0 : Int32)) fun h9 =>
some ((1 : Int32), h9)
) else none) else none) else none
)
) else none
set_option maxRecDepth 20000 in
set_option maxHeartbeats 4000000 in
theorem f_Water_back_b0_ok {l : Launch} {X : Nat × (Nat → Int32)} (hst : l.stackTraces = false) {d : Nat} (hd : 3 ≤ d)     {h : Hp} {x0 : Nat}  {r : Int32 × Hp} (E : f_Water_back_b0   h x0 = some r) : Rn l X mX10_back d 0 [(0, .ref x0)] [] h (eI r) r.2 := by
  unfold f_Water_back_b0 at E
  refine Rn.aload_n (pc' := 1) dX10_back_0 rfl 0 rfl rfl ?_
  obtain ⟨g1, E⟩ := gd_of E
  refine Rn.getI (pc' := 4) fl_X10_362_9 g1 rfl dX10_back_1 rfl ?_
  refine Rn.if_ne (pc' := 7) (tgt := 9) dX10_back_4 (by decide) rfl (fun c2 => ?_) (fun c2 => ?_)
  · replace E := (if_of E).2 c2
    refine Rn.aload_n (pc' := 10) dX10_back_9 rfl 0 rfl rfl ?_
    refine Rn.getR (pc' := 13) fl_X10_42_9 g1 rfl dX10_back_10 rfl ?_
    refine Rn.aload_n (pc' := 14) dX10_back_13 rfl 0 rfl rfl ?_
    refine Rn.getR (pc' := 17) fl_X10_52_9 g1 rfl dX10_back_14 rfl ?_
    obtain ⟨g3, E⟩ := gd_of E
    obtain ⟨h5, e6, E⟩ := bV_of E
    refine Rn.callV1 (pc' := 20) (As := [.ref (hR h x0 7)]) (rest := []) (f_Land_copyFrom_ok hst e6) (Nat.le_trans (by decide) hd) rfl kb_X10_219 ki_X3_copyFrom rfl g3 rfl rfl (Nat.le_of_ble_eq_true rfl) dX10_back_17 rfl rfl ?_
    refine Rn.aload_n (pc' := 21) dX10_back_20 rfl 0 rfl rfl ?_
    obtain ⟨g7, E⟩ := gd_of E
    refine Rn.getR (pc' := 24) fl_X10_35_9 g7 rfl dX10_back_21 rfl ?_
    refine Rn.iconst (pc' := 25) (v := (0 : Int32)) (hv := by decide) dX10_back_24 rfl ?_
    obtain ⟨g8, E⟩ := gd_of E
    refine Rn.putI (pc' := 28) fl_X10_214_7 (fun q hq => by cases hq; decide) g8 rfl rfl rfl dX10_back_25 rfl ?_
    replace E := wr_of E
    generalize eh10 : sI h5 (hR h5 x0 3) 2 (0 : Int32) = h9 at E ⊢
    refine Rn.iconst (pc' := 29) (v := (1 : Int32)) (hv := by decide) dX10_back_28 rfl ?_
    cases E
    exact Rn.zret rfl rfl dX10_back_29
  · replace E := (if_of E).1 c2
    refine Rn.iconst (pc' := 8) (v := (0 : Int32)) (hv := by decide) dX10_back_7 rfl ?_
    cases E
    exact Rn.zret rfl rfl dX10_back_8
def f_Water_back (h : Hp) (x0 : Nat) : Option (Int32 × Hp) := f_Water_back_b0  h x0
theorem f_Water_back_ok {l : Launch} {X : Nat × (Nat → Int32)} (hst : l.stackTraces = false) {h : Hp} {x0 : Nat} {r : Int32 × Hp} (E : f_Water_back h x0 = some r) : MC l X yX10_back mX10_back 3 [.ref x0] h (eI r) r.2 :=
  MC.body (by decide +kernel) rfl (by decide) hst (Nat.le_of_ble_eq_true rfl) (f_Water_back_b0_ok hst (Nat.le_refl _) E)
abbrev mX11_back : MI := (RX11, cX11_back, 2, (some Jvm.ClassFile.FieldType.boolean), [], false)
theorem ws_X11_back : ∀ w ∈ wsM yX11_back mX11_back, w ∈ gw := List.forall_mem_cons.mpr ⟨gw_at 1494 (by decide +kernel) (by decide +kernel), fun _ h => h⟩
def f_Model_back_b16  (k16 : Hp → Nat → Int32 → Option (Int32 × Hp)) (h : Hp) (x0 : Nat) (x1 : Int32)  : Option (Int32 × Hp) :=
if (1454 : Int32) ≤ x1 then (
if hS h x0 = 11 then (
wr (sI h x0 7 (0 : Int32)) fun h3 =>
some ((1 : Int32), h3)
) else none
) else (
if hS h x0 = 11 then (
if hS h (hR h x0 2) = 20 then (
if ib x1 (hL h (hR h x0 2)) = true then (
if hS h (hR h x0 1) = 20 then (
if ib x1 (hL h (hR h x0 1)) = true then (
wr (sI h (hR h x0 1) (ix x1) (hI h (hR h x0 2) (ix x1))) fun h10 =>
k16 h10 x0 (x1 + (1 : Int32))
) else none) else none) else none) else none) else none
)

set_option maxRecDepth 20000 in
set_option maxHeartbeats 4000000 in
theorem f_Model_back_b16_ok {l : Launch} {X : Nat × (Nat → Int32)} (hst : l.stackTraces = false) {d : Nat} (hd : 0 ≤ d)   {k16 : Hp → Nat → Int32 → Option (Int32 × Hp)} (hk16 : ∀ (h : Hp) (x0 : Nat) (x1 : Int32)  (r : Int32 × Hp), k16 h x0 x1 = some r → Rn l X mX11_back d 16 [(0, .ref x0), (1, .int x1)] [] h (eI r) r.2) {h : Hp} {x0 : Nat} {x1 : Int32}  {r : Int32 × Hp} (E : f_Model_back_b16  k16 h x0 x1 = some r) : Rn l X mX11_back d 16 [(0, .ref x0), (1, .int x1)] [] h (eI r) r.2 := by
  unfold f_Model_back_b16 at E
  refine Rn.iload_n (pc' := 17) dX11_back_16 rfl 1 rfl rfl ?_
  refine Rn.sipush (pc' := 20) (v := (1454 : Int32)) (hv := by decide) dX11_back_17 rfl ?_
  refine Rn.icmp_ge (pc' := 23) (tgt := 41) dX11_back_20 (by decide) rfl (fun c1 => ?_) (fun c1 => ?_)
  · replace E := (if_of E).1 c1
    refine Rn.aload_n (pc' := 42) dX11_back_41 rfl 0 rfl rfl ?_
    refine Rn.iconst (pc' := 43) (v := (0 : Int32)) (hv := by decide) dX11_back_42 rfl ?_
    obtain ⟨g2, E⟩ := gd_of E
    refine Rn.putI (pc' := 46) fl_X11_49_10 (fun q hq => by cases hq; decide) g2 rfl rfl rfl dX11_back_43 rfl ?_
    replace E := wr_of E
    generalize eh4 : sI h x0 7 (0 : Int32) = h3 at E ⊢
    refine Rn.iconst (pc' := 47) (v := (1 : Int32)) (hv := by decide) dX11_back_46 rfl ?_
    cases E
    exact Rn.zret rfl rfl dX11_back_47
  · replace E := (if_of E).2 c1
    refine Rn.aload_n (pc' := 24) dX11_back_23 rfl 0 rfl rfl ?_
    obtain ⟨g5, E⟩ := gd_of E
    refine Rn.getR (pc' := 27) fl_X11_13_10 g5 rfl dX11_back_24 rfl ?_
    refine Rn.iload_n (pc' := 28) dX11_back_27 rfl 1 rfl rfl ?_
    refine Rn.aload_n (pc' := 29) dX11_back_28 rfl 0 rfl rfl ?_
    refine Rn.getR (pc' := 32) fl_X11_17_10 g5 rfl dX11_back_29 rfl ?_
    refine Rn.iload_n (pc' := 33) dX11_back_32 rfl 1 rfl rfl ?_
    obtain ⟨g6, E⟩ := gd_of E
    obtain ⟨g7, E⟩ := gd_of E
    refine Rn.iald (pc' := 34) g6 g7 dX11_back_33 rfl ?_
    obtain ⟨g8, E⟩ := gd_of E
    obtain ⟨g9, E⟩ := gd_of E
    refine Rn.iast (pc' := 35) g8 g9 dX11_back_34 rfl ?_
    replace E := wr_of E
    generalize eh11 : sI h (hR h x0 1) (ix x1) (hI h (hR h x0 2) (ix x1)) = h10 at E ⊢
    refine Rn.iinc (pc' := 38) (v := (x1 + (1 : Int32))) (L' := [(1, .int (x1 + (1 : Int32))), (0, .ref x0)]) dX11_back_35 1 rfl rfl (by decide) rfl rfl ?_
    refine Rn.goto (pc' := 16) dX11_back_38 (by decide) ?_
    refine Rn.sub [1, 0] rfl ?_
    exact hk16 _ _ _ _ E
def f_Model_back_L16   (n : Nat) : Hp → Nat → Int32 → Option (Int32 × Hp) := Nat.rec (motive := fun _ => Hp → Nat → Int32 → Option (Int32 × Hp)) (fun _ _ _ => none) (fun _ rec => f_Model_back_b16   rec) n
theorem f_Model_back_L16_ok {l : Launch} {X : Nat × (Nat → Int32)} (hst : l.stackTraces = false) {d : Nat} (hd : 0 ≤ d)     : ∀ (n : Nat) (h : Hp) (x0 : Nat) (x1 : Int32)  (r : Int32 × Hp), f_Model_back_L16   n h x0 x1 = some r → Rn l X mX11_back d 16 [(0, .ref x0), (1, .int x1)] [] h (eI r) r.2 := by
  intro n
  induction n with
  | zero => intro h x0 x1 r E; cases E
  | succ n ih => intro h x0 x1 r E; exact f_Model_back_b16_ok hst hd   ih E
theorem fl_X11_45_10 : FL RX11 45 10 6 := ⟨_, rfl, by decide, "VintageWaterModel", gw_at 1432 (by decide +kernel) (by decide +kernel), Or.inl rfl⟩
def f_Model_back_b0   (h : Hp) (x0 : Nat)  : Option (Int32 × Hp) :=
if hS h x0 = 11 then (
wr (sI h x0 0 (0 : Int32)) fun h2 =>
if (hI h2 x0 6) = 0 then (
some ((0 : Int32), h2)

) else (
f_Model_back_L16   FU h2 x0 (0 : Int32)

)
) else none
set_option maxRecDepth 20000 in
set_option maxHeartbeats 4000000 in
theorem f_Model_back_b0_ok {l : Launch} {X : Nat × (Nat → Int32)} (hst : l.stackTraces = false) {d : Nat} (hd : 0 ≤ d)     {h : Hp} {x0 : Nat}  {r : Int32 × Hp} (E : f_Model_back_b0   h x0 = some r) : Rn l X mX11_back d 0 [(0, .ref x0)] [] h (eI r) r.2 := by
  unfold f_Model_back_b0 at E
  refine Rn.aload_n (pc' := 1) dX11_back_0 rfl 0 rfl rfl ?_
  refine Rn.iconst (pc' := 2) (v := (0 : Int32)) (hv := by decide) dX11_back_1 rfl ?_
  obtain ⟨g1, E⟩ := gd_of E
  refine Rn.putI (pc' := 5) fl_X11_3_10 (fun q hq => by cases hq; decide) g1 rfl rfl rfl dX11_back_2 rfl ?_
  replace E := wr_of E
  generalize eh3 : sI h x0 0 (0 : Int32) = h2 at E ⊢
  refine Rn.aload_n (pc' := 6) dX11_back_5 rfl 0 rfl rfl ?_
  refine Rn.getI (pc' := 9) fl_X11_45_10 (kp_sI eh3 g1) rfl dX11_back_6 rfl ?_
  refine Rn.if_ne (pc' := 12) (tgt := 14) dX11_back_9 (by decide) rfl (fun c4 => ?_) (fun c4 => ?_)
  · replace E := (if_of E).2 c4
    refine Rn.iconst (pc' := 15) (v := (0 : Int32)) (hv := by decide) dX11_back_14 rfl ?_
    refine Rn.istore_n (pc' := 16) (L' := [(1, .int (0 : Int32)), (0, .ref x0)]) dX11_back_15 rfl (by decide) rfl rfl ?_
    refine Rn.sub [1, 0] rfl ?_
    exact f_Model_back_L16_ok hst hd   FU _ _ _ _ E
  · replace E := (if_of E).1 c4
    refine Rn.iconst (pc' := 13) (v := (0 : Int32)) (hv := by decide) dX11_back_12 rfl ?_
    cases E
    exact Rn.zret rfl rfl dX11_back_13
def f_Model_back (h : Hp) (x0 : Nat) : Option (Int32 × Hp) := f_Model_back_b0  h x0
theorem f_Model_back_ok {l : Launch} {X : Nat × (Nat → Int32)} (hst : l.stackTraces = false) {h : Hp} {x0 : Nat} {r : Int32 × Hp} (E : f_Model_back h x0 = some r) : MC l X yX11_back mX11_back 0 [.ref x0] h (eI r) r.2 :=
  MC.body (by decide +kernel) rfl (by decide) hst (Nat.le_of_ble_eq_true rfl) (f_Model_back_b0_ok hst (Nat.le_refl _) E)
abbrev mX10_image : MI := (RX10, cX10_image, 1, none, [], false)
theorem ws_X10_image : ∀ w ∈ wsM yX10_image mX10_image, w ∈ gw := List.forall_mem_cons.mpr ⟨gw_at 684 (by decide +kernel) (by decide +kernel), fun _ h => h⟩
def f_Water_image_b0   (h : Hp) (x0 : Nat)  : Option (Hp) :=
if hS h x0 = 10 then (
if hS h (hR h x0 7) = 4 then (
bV (f_Land_copyFrom h (hR h x0 7) (hR h x0 4)) fun h4 =>
if hS h4 x0 = 10 then (
wr (sI h4 x0 10 (1 : Int32)) fun h7 =>
some h7
) else none) else none) else none
set_option maxRecDepth 20000 in
set_option maxHeartbeats 4000000 in
theorem f_Water_image_b0_ok {l : Launch} {X : Nat × (Nat → Int32)} (hst : l.stackTraces = false) {d : Nat} (hd : 3 ≤ d)     {h : Hp} {x0 : Nat}  {r : Hp} (E : f_Water_image_b0   h x0 = some r) : Rn l X mX10_image d 0 [(0, .ref x0)] [] h (eV r) r := by
  unfold f_Water_image_b0 at E
  refine Rn.aload_n (pc' := 1) dX10_image_0 rfl 0 rfl rfl ?_
  obtain ⟨g1, E⟩ := gd_of E
  refine Rn.getR (pc' := 4) fl_X10_52_9 g1 rfl dX10_image_1 rfl ?_
  refine Rn.aload_n (pc' := 5) dX10_image_4 rfl 0 rfl rfl ?_
  refine Rn.getR (pc' := 8) fl_X10_42_9 g1 rfl dX10_image_5 rfl ?_
  obtain ⟨g2, E⟩ := gd_of E
  obtain ⟨h4, e5, E⟩ := bV_of E
  refine Rn.callV1 (pc' := 11) (As := [.ref (hR h x0 4)]) (rest := []) (f_Land_copyFrom_ok hst e5) (Nat.le_trans (by decide) hd) rfl kb_X10_219 ki_X3_copyFrom rfl g2 rfl rfl (Nat.le_of_ble_eq_true rfl) dX10_image_8 rfl rfl ?_
  refine Rn.aload_n (pc' := 12) dX10_image_11 rfl 0 rfl rfl ?_
  refine Rn.iconst (pc' := 13) (v := (1 : Int32)) (hv := by decide) dX10_image_12 rfl ?_
  obtain ⟨g6, E⟩ := gd_of E
  refine Rn.putI (pc' := 16) fl_X10_362_9 (fun q hq => by cases hq; decide) g6 rfl rfl rfl dX10_image_13 rfl ?_
  replace E := wr_of E
  generalize eh8 : sI h4 x0 10 (1 : Int32) = h7 at E ⊢
  cases E
  exact Rn.vret rfl dX10_image_16
def f_Water_image (h : Hp) (x0 : Nat) : Option (Hp) := f_Water_image_b0  h x0
theorem f_Water_image_ok {l : Launch} {X : Nat × (Nat → Int32)} (hst : l.stackTraces = false) {h : Hp} {x0 : Nat} {r : Hp} (E : f_Water_image h x0 = some r) : MC l X yX10_image mX10_image 3 [.ref x0] h (eV r) r :=
  MC.body (by decide +kernel) rfl (by decide) hst (Nat.le_of_ble_eq_true rfl) (f_Water_image_b0_ok hst (Nat.le_refl _) E)
abbrev mX11_image : MI := (RX11, cX11_image, 2, none, [], false)
theorem ws_X11_image : ∀ w ∈ wsM yX11_image mX11_image, w ∈ gw := List.forall_mem_cons.mpr ⟨gw_at 1490 (by decide +kernel) (by decide +kernel), fun _ h => h⟩
def f_Model_image_b7  (k7 : Hp → Nat → Int32 → Option (Hp)) (h : Hp) (x0 : Nat) (x1 : Int32)  : Option (Hp) :=
if (1454 : Int32) ≤ x1 then (
if hS h x0 = 11 then (
wr (sI h x0 6 (1 : Int32)) fun h3 =>
some h3
) else none
) else (
if hS h x0 = 11 then (
if hS h (hR h x0 1) = 20 then (
if ib x1 (hL h (hR h x0 1)) = true then (
if hS h (hR h x0 2) = 20 then (
if ib x1 (hL h (hR h x0 2)) = true then (
wr (sI h (hR h x0 2) (ix x1) (hI h (hR h x0 1) (ix x1))) fun h10 =>
k7 h10 x0 (x1 + (1 : Int32))
) else none) else none) else none) else none) else none
)

set_option maxRecDepth 20000 in
set_option maxHeartbeats 4000000 in
theorem f_Model_image_b7_ok {l : Launch} {X : Nat × (Nat → Int32)} (hst : l.stackTraces = false) {d : Nat} (hd : 0 ≤ d)   {k7 : Hp → Nat → Int32 → Option (Hp)} (hk7 : ∀ (h : Hp) (x0 : Nat) (x1 : Int32)  (r : Hp), k7 h x0 x1 = some r → Rn l X mX11_image d 7 [(0, .ref x0), (1, .int x1)] [] h (eV r) r) {h : Hp} {x0 : Nat} {x1 : Int32}  {r : Hp} (E : f_Model_image_b7  k7 h x0 x1 = some r) : Rn l X mX11_image d 7 [(0, .ref x0), (1, .int x1)] [] h (eV r) r := by
  unfold f_Model_image_b7 at E
  refine Rn.iload_n (pc' := 8) dX11_image_7 rfl 1 rfl rfl ?_
  refine Rn.sipush (pc' := 11) (v := (1454 : Int32)) (hv := by decide) dX11_image_8 rfl ?_
  refine Rn.icmp_ge (pc' := 14) (tgt := 32) dX11_image_11 (by decide) rfl (fun c1 => ?_) (fun c1 => ?_)
  · replace E := (if_of E).1 c1
    refine Rn.aload_n (pc' := 33) dX11_image_32 rfl 0 rfl rfl ?_
    refine Rn.iconst (pc' := 34) (v := (1 : Int32)) (hv := by decide) dX11_image_33 rfl ?_
    obtain ⟨g2, E⟩ := gd_of E
    refine Rn.putI (pc' := 37) fl_X11_45_10 (fun q hq => by cases hq; decide) g2 rfl rfl rfl dX11_image_34 rfl ?_
    replace E := wr_of E
    generalize eh4 : sI h x0 6 (1 : Int32) = h3 at E ⊢
    cases E
    exact Rn.vret rfl dX11_image_37
  · replace E := (if_of E).2 c1
    refine Rn.aload_n (pc' := 15) dX11_image_14 rfl 0 rfl rfl ?_
    obtain ⟨g5, E⟩ := gd_of E
    refine Rn.getR (pc' := 18) fl_X11_17_10 g5 rfl dX11_image_15 rfl ?_
    refine Rn.iload_n (pc' := 19) dX11_image_18 rfl 1 rfl rfl ?_
    refine Rn.aload_n (pc' := 20) dX11_image_19 rfl 0 rfl rfl ?_
    refine Rn.getR (pc' := 23) fl_X11_13_10 g5 rfl dX11_image_20 rfl ?_
    refine Rn.iload_n (pc' := 24) dX11_image_23 rfl 1 rfl rfl ?_
    obtain ⟨g6, E⟩ := gd_of E
    obtain ⟨g7, E⟩ := gd_of E
    refine Rn.iald (pc' := 25) g6 g7 dX11_image_24 rfl ?_
    obtain ⟨g8, E⟩ := gd_of E
    obtain ⟨g9, E⟩ := gd_of E
    refine Rn.iast (pc' := 26) g8 g9 dX11_image_25 rfl ?_
    replace E := wr_of E
    generalize eh11 : sI h (hR h x0 2) (ix x1) (hI h (hR h x0 1) (ix x1)) = h10 at E ⊢
    refine Rn.iinc (pc' := 29) (v := (x1 + (1 : Int32))) (L' := [(1, .int (x1 + (1 : Int32))), (0, .ref x0)]) dX11_image_26 1 rfl rfl (by decide) rfl rfl ?_
    refine Rn.goto (pc' := 7) dX11_image_29 (by decide) ?_
    refine Rn.sub [1, 0] rfl ?_
    exact hk7 _ _ _ _ E
def f_Model_image_L7   (n : Nat) : Hp → Nat → Int32 → Option (Hp) := Nat.rec (motive := fun _ => Hp → Nat → Int32 → Option (Hp)) (fun _ _ _ => none) (fun _ rec => f_Model_image_b7   rec) n
theorem f_Model_image_L7_ok {l : Launch} {X : Nat × (Nat → Int32)} (hst : l.stackTraces = false) {d : Nat} (hd : 0 ≤ d)     : ∀ (n : Nat) (h : Hp) (x0 : Nat) (x1 : Int32)  (r : Hp), f_Model_image_L7   n h x0 x1 = some r → Rn l X mX11_image d 7 [(0, .ref x0), (1, .int x1)] [] h (eV r) r := by
  intro n
  induction n with
  | zero => intro h x0 x1 r E; cases E
  | succ n ih => intro h x0 x1 r E; exact f_Model_image_b7_ok hst hd   ih E
def f_Model_image_b0   (h : Hp) (x0 : Nat)  : Option (Hp) :=
if hS h x0 = 11 then (
wr (sI h x0 0 (0 : Int32)) fun h2 =>
f_Model_image_L7   FU h2 x0 (0 : Int32)
) else none
set_option maxRecDepth 20000 in
set_option maxHeartbeats 4000000 in
theorem f_Model_image_b0_ok {l : Launch} {X : Nat × (Nat → Int32)} (hst : l.stackTraces = false) {d : Nat} (hd : 0 ≤ d)     {h : Hp} {x0 : Nat}  {r : Hp} (E : f_Model_image_b0   h x0 = some r) : Rn l X mX11_image d 0 [(0, .ref x0)] [] h (eV r) r := by
  unfold f_Model_image_b0 at E
  refine Rn.aload_n (pc' := 1) dX11_image_0 rfl 0 rfl rfl ?_
  refine Rn.iconst (pc' := 2) (v := (0 : Int32)) (hv := by decide) dX11_image_1 rfl ?_
  obtain ⟨g1, E⟩ := gd_of E
  refine Rn.putI (pc' := 5) fl_X11_3_10 (fun q hq => by cases hq; decide) g1 rfl rfl rfl dX11_image_2 rfl ?_
  replace E := wr_of E
  generalize eh3 : sI h x0 0 (0 : Int32) = h2 at E ⊢
  refine Rn.iconst (pc' := 6) (v := (0 : Int32)) (hv := by decide) dX11_image_5 rfl ?_
  refine Rn.istore_n (pc' := 7) (L' := [(1, .int (0 : Int32)), (0, .ref x0)]) dX11_image_6 rfl (by decide) rfl rfl ?_
  refine Rn.sub [1, 0] rfl ?_
  exact f_Model_image_L7_ok hst hd   FU _ _ _ _ E
def f_Model_image (h : Hp) (x0 : Nat) : Option (Hp) := f_Model_image_b0  h x0
theorem f_Model_image_ok {l : Launch} {X : Nat × (Nat → Int32)} (hst : l.stackTraces = false) {h : Hp} {x0 : Nat} {r : Hp} (E : f_Model_image h x0 = some r) : MC l X yX11_image mX11_image 0 [.ref x0] h (eV r) r :=
  MC.body (by decide +kernel) rfl (by decide) hst (Nat.le_of_ble_eq_true rfl) (f_Model_image_b0_ok hst (Nat.le_refl _) E)
