abbrev mX0_init : MI := (RX0, cX0_init, 1, none, [], true)
theorem ws_X0_init : ∀ w ∈ wsM yX0_init mX0_init, w ∈ gw := List.forall_mem_cons.mpr ⟨gw_at 268 (by decide +kernel) (by decide +kernel), fun _ h => h⟩
theorem ko_X0_3 : Cond.methodLink RX0 3 objectInit ∈ gw := gw_at 269 (by decide +kernel) (by decide +kernel)
theorem fl_X0_9_0 : FL RX0 9 0 6 := ⟨_, rfl, by decide, "VintageWater$Cistern", gw_at 287 (by decide +kernel) (by decide +kernel), Or.inl rfl⟩
def f_Cistern_init_b0   (h : Hp) (x0 : Nat)  : Option (Hp) :=
if hS h x0 = 1 then (
wr (hA h 20 (ix (30 : Int32)) (ix (30 : Int32))) fun h2 =>
if hS h2 x0 = 1 then (
wr (sR h2 x0 6 (hN h + 1)) fun h5 =>
some h5
) else none) else none
set_option maxRecDepth 20000 in
set_option maxHeartbeats 4000000 in
theorem f_Cistern_init_b0_ok {l : Launch} {X : Nat × (Nat → Int32)} (hst : l.stackTraces = false) {d : Nat} (hd : 1 ≤ d)     {h : Hp} {x0 : Nat}  {r : Hp} (E : f_Cistern_init_b0   h x0 = some r) : Rn l X mX0_init d 0 [(0, .ref x0)] [] h (eV r) r := by
  unfold f_Cistern_init_b0 at E
  refine Rn.aload_n (pc' := 1) dX0_init_0 rfl 0 rfl rfl ?_
  obtain ⟨g1, E⟩ := gd_of E
  refine Rn.objI1 (pc' := 4) ko_X0_3 (kp_n0 g1) (Nat.le_of_ble_eq_true rfl) dX0_init_1 rfl ?_
  refine Rn.aload_n (pc' := 5) dX0_init_4 rfl 0 rfl rfl ?_
  refine Rn.bipush (pc' := 7) (v := (30 : Int32)) (hv := by decide) dX0_init_5 rfl ?_
  refine Rn.newa (pc' := 9) (sh := 20) (by decide) (by decide) (by decide) dX0_init_7 rfl ?_
  replace E := wr_of E
  generalize eh3 : hA h 20 (ix (30 : Int32)) (ix (30 : Int32)) = h2 at E ⊢
  obtain ⟨g4, E⟩ := gd_of E
  refine Rn.putR (pc' := 12) fl_X0_9_0 (fun q hq => by cases hq; decide) g4 rfl rfl dX0_init_9 rfl ?_
  replace E := wr_of E
  generalize eh6 : sR h2 x0 6 (hN h + 1) = h5 at E ⊢
  cases E
  exact Rn.vret rfl dX0_init_12
def f_Cistern_init (h : Hp) (x0 : Nat) : Option (Hp) := f_Cistern_init_b0 h x0
theorem f_Cistern_init_ok {l : Launch} {X : Nat × (Nat → Int32)} (hst : l.stackTraces = false) {h : Hp} {x0 : Nat} {r : Hp} (E : f_Cistern_init h x0 = some r) : MC l X yX0_init mX0_init 1 [.ref x0] h (eV r) r :=
  MC.body (by decide +kernel) rfl (by decide) hst (Nat.le_of_ble_eq_true rfl) (f_Cistern_init_b0_ok hst (Nat.le_refl _) E)
abbrev mJ7_fill_53178 : MI := (RJ7, cJ7_fill_53178, 4, none, [], false)
theorem ws_J7_fill_53178 : ∀ w ∈ wsM yJ7_fill_53178 mJ7_fill_53178, w ∈ gw := List.forall_mem_cons.mpr ⟨gw_at 1014 (by decide +kernel) (by decide +kernel), fun _ h => h⟩
def f_Arrays_fill_b5  (k5 : Hp → Nat → Int32 → Int32 → Int32 → Option (Hp)) (h : Hp) (x0 : Nat) (x1 : Int32) (x2 : Int32) (x3 : Int32)  : Option (Hp) :=
if x3 ≤ x2 then (
some h

) else (
if hS h x0 = 20 then (
if ib x2 (hL h x0) = true then (
wr (sI h x0 (ix x2) x1) fun h4 =>
k5 h4 x0 x1 (x2 + (1 : Int32)) x3
) else none) else none
)

set_option maxRecDepth 20000 in
set_option maxHeartbeats 4000000 in
theorem f_Arrays_fill_b5_ok {l : Launch} {X : Nat × (Nat → Int32)} (hst : l.stackTraces = false) {d : Nat} (hd : 0 ≤ d)   {k5 : Hp → Nat → Int32 → Int32 → Int32 → Option (Hp)} (hk5 : ∀ (h : Hp) (x0 : Nat) (x1 : Int32) (x2 : Int32) (x3 : Int32)  (r : Hp), k5 h x0 x1 x2 x3 = some r → Rn l X mJ7_fill_53178 d 5 [(0, .ref x0), (1, .int x1), (2, .int x2), (3, .int x3)] [] h (eV r) r) {h : Hp} {x0 : Nat} {x1 : Int32} {x2 : Int32} {x3 : Int32}  {r : Hp} (E : f_Arrays_fill_b5  k5 h x0 x1 x2 x3 = some r) : Rn l X mJ7_fill_53178 d 5 [(0, .ref x0), (1, .int x1), (2, .int x2), (3, .int x3)] [] h (eV r) r := by
  unfold f_Arrays_fill_b5 at E
  refine Rn.iload_n (pc' := 6) dJ7_fill_53178_5 rfl 2 rfl rfl ?_
  refine Rn.iload_n (pc' := 7) dJ7_fill_53178_6 rfl 3 rfl rfl ?_
  refine Rn.icmp_ge (pc' := 10) (tgt := 20) dJ7_fill_53178_7 (by decide) rfl (fun c1 => ?_) (fun c1 => ?_)
  · replace E := (if_of E).1 c1
    cases E
    exact Rn.vret rfl dJ7_fill_53178_20
  · replace E := (if_of E).2 c1
    refine Rn.aload_n (pc' := 11) dJ7_fill_53178_10 rfl 0 rfl rfl ?_
    refine Rn.iload_n (pc' := 12) dJ7_fill_53178_11 rfl 2 rfl rfl ?_
    refine Rn.iload_n (pc' := 13) dJ7_fill_53178_12 rfl 1 rfl rfl ?_
    obtain ⟨g2, E⟩ := gd_of E
    obtain ⟨g3, E⟩ := gd_of E
    refine Rn.iast (pc' := 14) g2 g3 dJ7_fill_53178_13 rfl ?_
    replace E := wr_of E
    generalize eh5 : sI h x0 (ix x2) x1 = h4 at E ⊢
    refine Rn.iinc (pc' := 17) (v := (x2 + (1 : Int32))) (L' := [(2, .int (x2 + (1 : Int32))), (0, .ref x0), (1, .int x1), (3, .int x3)]) dJ7_fill_53178_14 2 rfl rfl (by decide) rfl rfl ?_
    refine Rn.goto (pc' := 5) dJ7_fill_53178_17 (by decide) ?_
    refine Rn.sub [1, 2, 0, 3] rfl ?_
    exact hk5 _ _ _ _ _ _ E
def f_Arrays_fill_L5   (n : Nat) : Hp → Nat → Int32 → Int32 → Int32 → Option (Hp) := Nat.rec (motive := fun _ => Hp → Nat → Int32 → Int32 → Int32 → Option (Hp)) (fun _ _ _ _ _ => none) (fun _ rec => f_Arrays_fill_b5   rec) n
theorem f_Arrays_fill_L5_ok {l : Launch} {X : Nat × (Nat → Int32)} (hst : l.stackTraces = false) {d : Nat} (hd : 0 ≤ d)     : ∀ (n : Nat) (h : Hp) (x0 : Nat) (x1 : Int32) (x2 : Int32) (x3 : Int32)  (r : Hp), f_Arrays_fill_L5   n h x0 x1 x2 x3 = some r → Rn l X mJ7_fill_53178 d 5 [(0, .ref x0), (1, .int x1), (2, .int x2), (3, .int x3)] [] h (eV r) r := by
  intro n
  induction n with
  | zero => intro h x0 x1 x2 x3 r E; cases E
  | succ n ih => intro h x0 x1 x2 x3 r E; exact f_Arrays_fill_b5_ok hst hd   ih E
def f_Arrays_fill_b0   (h : Hp) (x0 : Nat) (x1 : Int32)  : Option (Hp) :=
if hS h x0 = 20 then (
f_Arrays_fill_L5   FU h x0 x1 (0 : Int32) (Int32.ofNat (hL h x0))
) else none
set_option maxRecDepth 20000 in
set_option maxHeartbeats 4000000 in
theorem f_Arrays_fill_b0_ok {l : Launch} {X : Nat × (Nat → Int32)} (hst : l.stackTraces = false) {d : Nat} (hd : 0 ≤ d)     {h : Hp} {x0 : Nat} {x1 : Int32}  {r : Hp} (E : f_Arrays_fill_b0   h x0 x1 = some r) : Rn l X mJ7_fill_53178 d 0 [(0, .ref x0), (1, .int x1)] [] h (eV r) r := by
  unfold f_Arrays_fill_b0 at E
  refine Rn.iconst (pc' := 1) (v := (0 : Int32)) (hv := by decide) dJ7_fill_53178_0 rfl ?_
  refine Rn.istore_n (pc' := 2) (L' := [(2, .int (0 : Int32)), (0, .ref x0), (1, .int x1)]) dJ7_fill_53178_1 rfl (by decide) rfl rfl ?_
  refine Rn.aload_n (pc' := 3) dJ7_fill_53178_2 rfl 1 rfl rfl ?_
  obtain ⟨g1, E⟩ := gd_of E
  refine Rn.alen (pc' := 4) g1 (by decide) (by decide) dJ7_fill_53178_3 rfl ?_
  refine Rn.istore_n (pc' := 5) (L' := [(3, .int (Int32.ofNat (hL h x0))), (2, .int (0 : Int32)), (0, .ref x0), (1, .int x1)]) dJ7_fill_53178_4 rfl (by decide) rfl rfl ?_
  refine Rn.sub [2, 3, 1, 0] rfl ?_
  exact f_Arrays_fill_L5_ok hst hd   FU _ _ _ _ _ _ E
def f_Arrays_fill (h : Hp) (x0 : Nat) (x1 : Int32) : Option (Hp) := f_Arrays_fill_b0 h x0 x1
theorem f_Arrays_fill_ok {l : Launch} {X : Nat × (Nat → Int32)} (hst : l.stackTraces = false) {h : Hp} {x0 : Nat} {x1 : Int32} {r : Hp} (E : f_Arrays_fill h x0 x1 = some r) : MC l X yJ7_fill_53178 mJ7_fill_53178 0 [.ref x0, .int x1] h (eV r) r :=
  MC.body (by decide +kernel) rfl (by decide) hst (Nat.le_of_ble_eq_true rfl) (f_Arrays_fill_b0_ok hst (Nat.le_refl _) E)
abbrev mX0_begin : MI := (RX0, cX0_begin, 3, none, [], false)
theorem ws_X0_begin : ∀ w ∈ wsM yX0_begin mX0_begin, w ∈ gw := List.forall_mem_cons.mpr ⟨gw_at 1011 (by decide +kernel) (by decide +kernel), fun _ h => h⟩
theorem fl_X0_15_0 : FL RX0 15 0 0 := ⟨_, rfl, by decide, "VintageWater$Cistern", gw_at 270 (by decide +kernel) (by decide +kernel), Or.inl rfl⟩
theorem fl_X0_19_0 : FL RX0 19 0 1 := ⟨_, rfl, by decide, "VintageWater$Cistern", gw_at 272 (by decide +kernel) (by decide +kernel), Or.inl rfl⟩
theorem fl_X0_22_0 : FL RX0 22 0 2 := ⟨_, rfl, by decide, "VintageWater$Cistern", gw_at 275 (by decide +kernel) (by decide +kernel), Or.inl rfl⟩
theorem fl_X0_26_0 : FL RX0 26 0 3 := ⟨_, rfl, by decide, "VintageWater$Cistern", gw_at 278 (by decide +kernel) (by decide +kernel), Or.inl rfl⟩
theorem fl_X0_29_0 : FL RX0 29 0 4 := ⟨_, rfl, by decide, "VintageWater$Cistern", gw_at 281 (by decide +kernel) (by decide +kernel), Or.inl rfl⟩
theorem fl_X0_32_0 : FL RX0 32 0 5 := ⟨_, rfl, by decide, "VintageWater$Cistern", gw_at 284 (by decide +kernel) (by decide +kernel), Or.inl rfl⟩
theorem kb_X0_35 : KB RX0 35 yJ7_fill_53178 mJ7_fill_53178 2 := ⟨gw_at 1012 (by decide +kernel) (by decide +kernel), gw_at 127 (by decide +kernel) (by decide +kernel), trivial, ws_J7_fill_53178, by decide +kernel, by decide +kernel, by decide +kernel, by decide⟩
theorem ks_J7_fill_53178 : Cond.static yJ7_fill_53178 ∈ gw := gw_at 1013 (by decide +kernel) (by decide +kernel)
def f_Cistern_begin_b0   (h : Hp) (x0 : Nat) (x1 : Int32) (x2 : Int32)  : Option (Hp) :=
if hS h x0 = 1 then (
wr (sI h x0 0 x1) fun h2 =>
wr (sI h2 x0 1 x2) fun h4 =>
wr (sI h4 x0 2 (0 : Int32)) fun h6 =>
wr (sI h6 x0 3 (0 : Int32)) fun h8 =>
wr (sI h8 x0 4 (-1 : Int32)) fun h10 =>
wr (sI h10 x0 5 (0 : Int32)) fun h12 =>
bV (f_Arrays_fill h12 (hR h12 x0 6) (0 : Int32)) fun h15 =>
some h15
) else none
set_option maxRecDepth 20000 in
set_option maxHeartbeats 4000000 in
theorem f_Cistern_begin_b0_ok {l : Launch} {X : Nat × (Nat → Int32)} (hst : l.stackTraces = false) {d : Nat} (hd : 1 ≤ d)     {h : Hp} {x0 : Nat} {x1 : Int32} {x2 : Int32}  {r : Hp} (E : f_Cistern_begin_b0   h x0 x1 x2 = some r) : Rn l X mX0_begin d 0 [(0, .ref x0), (1, .int x1), (2, .int x2)] [] h (eV r) r := by
  unfold f_Cistern_begin_b0 at E
  refine Rn.aload_n (pc' := 1) dX0_begin_0 rfl 0 rfl rfl ?_
  refine Rn.iload_n (pc' := 2) dX0_begin_1 rfl 1 rfl rfl ?_
  obtain ⟨g1, E⟩ := gd_of E
  refine Rn.putI (pc' := 5) fl_X0_15_0 (fun q hq => by cases hq; decide) g1 rfl rfl rfl dX0_begin_2 rfl ?_
  replace E := wr_of E
  generalize eh3 : sI h x0 0 x1 = h2 at E ⊢
  refine Rn.aload_n (pc' := 6) dX0_begin_5 rfl 0 rfl rfl ?_
  refine Rn.iload_n (pc' := 7) dX0_begin_6 rfl 2 rfl rfl ?_
  refine Rn.putI (pc' := 10) fl_X0_19_0 (fun q hq => by cases hq; decide) (kp_sI eh3 g1) rfl rfl rfl dX0_begin_7 rfl ?_
  replace E := wr_of E
  generalize eh5 : sI h2 x0 1 x2 = h4 at E ⊢
  refine Rn.aload_n (pc' := 11) dX0_begin_10 rfl 0 rfl rfl ?_
  refine Rn.iconst (pc' := 12) (v := (0 : Int32)) (hv := by decide) dX0_begin_11 rfl ?_
  refine Rn.putI (pc' := 15) fl_X0_22_0 (fun q hq => by cases hq; decide) (kp_sI eh5 (kp_sI eh3 g1)) rfl rfl rfl dX0_begin_12 rfl ?_
  replace E := wr_of E
  generalize eh7 : sI h4 x0 2 (0 : Int32) = h6 at E ⊢
  refine Rn.aload_n (pc' := 16) dX0_begin_15 rfl 0 rfl rfl ?_
  refine Rn.iconst (pc' := 17) (v := (0 : Int32)) (hv := by decide) dX0_begin_16 rfl ?_
  refine Rn.putI (pc' := 20) fl_X0_26_0 (fun q hq => by cases hq; decide) (kp_sI eh7 (kp_sI eh5 (kp_sI eh3 g1))) rfl rfl rfl dX0_begin_17 rfl ?_
  replace E := wr_of E
  generalize eh9 : sI h6 x0 3 (0 : Int32) = h8 at E ⊢
  refine Rn.aload_n (pc' := 21) dX0_begin_20 rfl 0 rfl rfl ?_
  refine Rn.iconst (pc' := 22) (v := (-1 : Int32)) (hv := by decide) dX0_begin_21 rfl ?_
  refine Rn.putI (pc' := 25) fl_X0_29_0 (fun q hq => by cases hq; decide) (kp_sI eh9 (kp_sI eh7 (kp_sI eh5 (kp_sI eh3 g1)))) rfl rfl rfl dX0_begin_22 rfl ?_
  replace E := wr_of E
  generalize eh11 : sI h8 x0 4 (-1 : Int32) = h10 at E ⊢
  refine Rn.aload_n (pc' := 26) dX0_begin_25 rfl 0 rfl rfl ?_
  refine Rn.iconst (pc' := 27) (v := (0 : Int32)) (hv := by decide) dX0_begin_26 rfl ?_
  refine Rn.putI (pc' := 30) fl_X0_32_0 (fun q hq => by cases hq; decide) (kp_sI eh11 (kp_sI eh9 (kp_sI eh7 (kp_sI eh5 (kp_sI eh3 g1))))) rfl rfl rfl dX0_begin_27 rfl ?_
  replace E := wr_of E
  generalize eh13 : sI h10 x0 5 (0 : Int32) = h12 at E ⊢
  refine Rn.aload_n (pc' := 31) dX0_begin_30 rfl 0 rfl rfl ?_
  refine Rn.getR (pc' := 34) fl_X0_9_0 (kp_sI eh13 (kp_sI eh11 (kp_sI eh9 (kp_sI eh7 (kp_sI eh5 (kp_sI eh3 g1)))))) rfl dX0_begin_31 rfl ?_
  refine Rn.iconst (pc' := 35) (v := (0 : Int32)) (hv := by decide) dX0_begin_34 rfl ?_
  obtain ⟨h15, e16, E⟩ := bV_of E
  refine Rn.callS1 (pc' := 38) (As := [.ref (hR h12 x0 6), .int (0 : Int32)]) (rest := []) (f_Arrays_fill_ok hst e16) (Nat.le_trans (by decide) hd) rfl kb_X0_35 ks_J7_fill_53178 rfl rfl (Nat.le_of_ble_eq_true rfl) dX0_begin_35 rfl rfl ?_
  cases E
  exact Rn.vret rfl dX0_begin_38
def f_Cistern_begin (h : Hp) (x0 : Nat) (x1 : Int32) (x2 : Int32) : Option (Hp) := f_Cistern_begin_b0 h x0 x1 x2
theorem f_Cistern_begin_ok {l : Launch} {X : Nat × (Nat → Int32)} (hst : l.stackTraces = false) {h : Hp} {x0 : Nat} {x1 : Int32} {x2 : Int32} {r : Hp} (E : f_Cistern_begin h x0 x1 x2 = some r) : MC l X yX0_begin mX0_begin 1 [.ref x0, .int x1, .int x2] h (eV r) r :=
  MC.body (by decide +kernel) rfl (by decide) hst (Nat.le_of_ble_eq_true rfl) (f_Cistern_begin_b0_ok hst (Nat.le_refl _) E)
abbrev mX0_copyFrom : MI := (RX0, cX0_copyFrom, 2, none, [], false)
theorem ws_X0_copyFrom : ∀ w ∈ wsM yX0_copyFrom mX0_copyFrom, w ∈ gw := List.forall_mem_cons.mpr ⟨gw_at 506 (by decide +kernel) (by decide +kernel), fun _ h => h⟩
theorem kac_X0_41 : Cond.methodLink RX0 41 arraycopyName ∈ gw := gw_at 507 (by decide +kernel) (by decide +kernel)
def f_Cistern_copyFrom_b0   (h : Hp) (x0 : Nat) (x1 : Nat)  : Option (Hp) :=
if hS h x1 = 1 then (
if hS h x0 = 1 then (
wr (sI h x0 0 (hI h x1 0)) fun h3 =>
wr (sI h3 x0 1 (hI h3 x1 1)) fun h5 =>
if (hI h5 x1 2) = 0 ∨ (hI h5 x1 2) = 1 then (
wr (sI h5 x0 2 (hI h5 x1 2)) fun h8 =>
wr (sI h8 x0 3 (hI h8 x1 3)) fun h10 =>
wr (sI h10 x0 4 (hI h10 x1 4)) fun h12 =>
wr (sI h12 x0 5 (hI h12 x1 5)) fun h14 =>
if hS h14 (hR h14 x1 6) = 20 then (
if hS h14 (hR h14 x0 6) = 20 then (
if ¬ (0 : Int32) < 0 then (
if ¬ (0 : Int32) < 0 then (
if ¬ (30 : Int32) < 0 then (
if ix (0 : Int32) + ix (30 : Int32) ≤ hL h14 (hR h14 x1 6) then (
if ix (0 : Int32) + ix (30 : Int32) ≤ hL h14 (hR h14 x0 6) then (
wr (cI h14 (hR h14 x0 6) (va_cpy (hI h14 (hR h14 x1 6)) (hI h14 (hR h14 x0 6)) (ix (0 : Int32)) (ix (0 : Int32)) (ix (30 : Int32)))) fun h23 =>
some h23
) else none) else none) else none) else none) else none) else none) else none) else none) else none) else none
set_option maxRecDepth 20000 in
set_option maxHeartbeats 4000000 in
theorem f_Cistern_copyFrom_b0_ok {l : Launch} {X : Nat × (Nat → Int32)} (hst : l.stackTraces = false) {d : Nat} (hd : 1 ≤ d)     {h : Hp} {x0 : Nat} {x1 : Nat}  {r : Hp} (E : f_Cistern_copyFrom_b0   h x0 x1 = some r) : Rn l X mX0_copyFrom d 0 [(0, .ref x0), (1, .ref x1)] [] h (eV r) r := by
  unfold f_Cistern_copyFrom_b0 at E
  refine Rn.aload_n (pc' := 1) dX0_copyFrom_0 rfl 0 rfl rfl ?_
  refine Rn.aload_n (pc' := 2) dX0_copyFrom_1 rfl 1 rfl rfl ?_
  obtain ⟨g1, E⟩ := gd_of E
  refine Rn.getI (pc' := 5) fl_X0_15_0 g1 rfl dX0_copyFrom_2 rfl ?_
  obtain ⟨g2, E⟩ := gd_of E
  refine Rn.putI (pc' := 8) fl_X0_15_0 (fun q hq => by cases hq; decide) g2 rfl rfl rfl dX0_copyFrom_5 rfl ?_
  replace E := wr_of E
  generalize eh4 : sI h x0 0 (hI h x1 0) = h3 at E ⊢
  refine Rn.aload_n (pc' := 9) dX0_copyFrom_8 rfl 0 rfl rfl ?_
  refine Rn.aload_n (pc' := 10) dX0_copyFrom_9 rfl 1 rfl rfl ?_
  refine Rn.getI (pc' := 13) fl_X0_19_0 (kp_sI eh4 g1) rfl dX0_copyFrom_10 rfl ?_
  refine Rn.putI (pc' := 16) fl_X0_19_0 (fun q hq => by cases hq; decide) (kp_sI eh4 g2) rfl rfl rfl dX0_copyFrom_13 rfl ?_
  replace E := wr_of E
  generalize eh6 : sI h3 x0 1 (hI h3 x1 1) = h5 at E ⊢
  refine Rn.aload_n (pc' := 17) dX0_copyFrom_16 rfl 0 rfl rfl ?_
  refine Rn.aload_n (pc' := 18) dX0_copyFrom_17 rfl 1 rfl rfl ?_
  refine Rn.getI (pc' := 21) fl_X0_22_0 (kp_sI eh6 (kp_sI eh4 g1)) rfl dX0_copyFrom_18 rfl ?_
  obtain ⟨g7, E⟩ := gd_of E
  refine Rn.putI (pc' := 24) fl_X0_22_0 (fun q hq => by cases hq; decide) (kp_sI eh6 (kp_sI eh4 g2)) rfl (nar_b g7) (fit_b g7) dX0_copyFrom_21 rfl ?_
  replace E := wr_of E
  generalize eh9 : sI h5 x0 2 (hI h5 x1 2) = h8 at E ⊢
  refine Rn.aload_n (pc' := 25) dX0_copyFrom_24 rfl 0 rfl rfl ?_
  refine Rn.aload_n (pc' := 26) dX0_copyFrom_25 rfl 1 rfl rfl ?_
  refine Rn.getI (pc' := 29) fl_X0_26_0 (kp_sI eh9 (kp_sI eh6 (kp_sI eh4 g1))) rfl dX0_copyFrom_26 rfl ?_
  refine Rn.putI (pc' := 32) fl_X0_26_0 (fun q hq => by cases hq; decide) (kp_sI eh9 (kp_sI eh6 (kp_sI eh4 g2))) rfl rfl rfl dX0_copyFrom_29 rfl ?_
  replace E := wr_of E
  generalize eh11 : sI h8 x0 3 (hI h8 x1 3) = h10 at E ⊢
  refine Rn.aload_n (pc' := 33) dX0_copyFrom_32 rfl 0 rfl rfl ?_
  refine Rn.aload_n (pc' := 34) dX0_copyFrom_33 rfl 1 rfl rfl ?_
  refine Rn.getI (pc' := 37) fl_X0_29_0 (kp_sI eh11 (kp_sI eh9 (kp_sI eh6 (kp_sI eh4 g1)))) rfl dX0_copyFrom_34 rfl ?_
  refine Rn.putI (pc' := 40) fl_X0_29_0 (fun q hq => by cases hq; decide) (kp_sI eh11 (kp_sI eh9 (kp_sI eh6 (kp_sI eh4 g2)))) rfl rfl rfl dX0_copyFrom_37 rfl ?_
  replace E := wr_of E
  generalize eh13 : sI h10 x0 4 (hI h10 x1 4) = h12 at E ⊢
  refine Rn.aload_n (pc' := 41) dX0_copyFrom_40 rfl 0 rfl rfl ?_
  refine Rn.aload_n (pc' := 42) dX0_copyFrom_41 rfl 1 rfl rfl ?_
  refine Rn.getI (pc' := 45) fl_X0_32_0 (kp_sI eh13 (kp_sI eh11 (kp_sI eh9 (kp_sI eh6 (kp_sI eh4 g1))))) rfl dX0_copyFrom_42 rfl ?_
  refine Rn.putI (pc' := 48) fl_X0_32_0 (fun q hq => by cases hq; decide) (kp_sI eh13 (kp_sI eh11 (kp_sI eh9 (kp_sI eh6 (kp_sI eh4 g2))))) rfl rfl rfl dX0_copyFrom_45 rfl ?_
  replace E := wr_of E
  generalize eh15 : sI h12 x0 5 (hI h12 x1 5) = h14 at E ⊢
  refine Rn.aload_n (pc' := 49) dX0_copyFrom_48 rfl 1 rfl rfl ?_
  refine Rn.getR (pc' := 52) fl_X0_9_0 (kp_sI eh15 (kp_sI eh13 (kp_sI eh11 (kp_sI eh9 (kp_sI eh6 (kp_sI eh4 g1)))))) rfl dX0_copyFrom_49 rfl ?_
  refine Rn.iconst (pc' := 53) (v := (0 : Int32)) (hv := by decide) dX0_copyFrom_52 rfl ?_
  refine Rn.aload_n (pc' := 54) dX0_copyFrom_53 rfl 0 rfl rfl ?_
  refine Rn.getR (pc' := 57) fl_X0_9_0 (kp_sI eh15 (kp_sI eh13 (kp_sI eh11 (kp_sI eh9 (kp_sI eh6 (kp_sI eh4 g2)))))) rfl dX0_copyFrom_54 rfl ?_
  refine Rn.iconst (pc' := 58) (v := (0 : Int32)) (hv := by decide) dX0_copyFrom_57 rfl ?_
  refine Rn.bipush (pc' := 60) (v := (30 : Int32)) (hv := by decide) dX0_copyFrom_58 rfl ?_
  obtain ⟨g16, E⟩ := gd_of E
  obtain ⟨g17, E⟩ := gd_of E
  obtain ⟨g18, E⟩ := gd_of E
  obtain ⟨g19, E⟩ := gd_of E
  obtain ⟨g20, E⟩ := gd_of E
  obtain ⟨g21, E⟩ := gd_of E
  obtain ⟨g22, E⟩ := gd_of E
  refine Rn.acopy (pc' := 63) kac_X0_41 g16 g17 g18 g19 g20 g21 g22 (Nat.le_of_ble_eq_true rfl) dX0_copyFrom_60 rfl ?_
  replace E := wr_of E
  generalize eh24 : cI h14 (hR h14 x0 6) (va_cpy (hI h14 (hR h14 x1 6)) (hI h14 (hR h14 x0 6)) (ix (0 : Int32)) (ix (0 : Int32)) (ix (30 : Int32))) = h23 at E ⊢
  cases E
  exact Rn.vret rfl dX0_copyFrom_63
def f_Cistern_copyFrom (h : Hp) (x0 : Nat) (x1 : Nat) : Option (Hp) := f_Cistern_copyFrom_b0 h x0 x1
theorem f_Cistern_copyFrom_ok {l : Launch} {X : Nat × (Nat → Int32)} (hst : l.stackTraces = false) {h : Hp} {x0 : Nat} {x1 : Nat} {r : Hp} (E : f_Cistern_copyFrom h x0 x1 = some r) : MC l X yX0_copyFrom mX0_copyFrom 1 [.ref x0, .ref x1] h (eV r) r :=
  MC.body (by decide +kernel) rfl (by decide) hst (Nat.le_of_ble_eq_true rfl) (f_Cistern_copyFrom_b0_ok hst (Nat.le_refl _) E)
abbrev mJ9_max_7cf53 : MI := (RJ9, cJ9_max_7cf53, 2, (some Jvm.ClassFile.FieldType.int), [], false)
theorem ws_J9_max_7cf53 : ∀ w ∈ wsM yJ9_max_7cf53 mJ9_max_7cf53, w ∈ gw := List.forall_mem_cons.mpr ⟨gw_at 526 (by decide +kernel) (by decide +kernel), fun _ h => h⟩
def f_Math_max_b0   (h : Hp) (x0 : Int32) (x1 : Int32)  : Option (Int32 × Hp) :=
if x0 < x1 then (
some (x1, h)

) else (
some (x0, h)

)

set_option maxRecDepth 20000 in
set_option maxHeartbeats 4000000 in
theorem f_Math_max_b0_ok {l : Launch} {X : Nat × (Nat → Int32)} (hst : l.stackTraces = false) {d : Nat} (hd : 0 ≤ d)     {h : Hp} {x0 : Int32} {x1 : Int32}  {r : Int32 × Hp} (E : f_Math_max_b0   h x0 x1 = some r) : Rn l X mJ9_max_7cf53 d 0 [(0, .int x0), (1, .int x1)] [] h (eI r) r.2 := by
  unfold f_Math_max_b0 at E
  refine Rn.iload_n (pc' := 1) dJ9_max_7cf53_0 rfl 0 rfl rfl ?_
  refine Rn.iload_n (pc' := 2) dJ9_max_7cf53_1 rfl 1 rfl rfl ?_
  refine Rn.icmp_lt (pc' := 5) (tgt := 9) dJ9_max_7cf53_2 (by decide) rfl (fun c1 => ?_) (fun c1 => ?_)
  · replace E := (if_of E).1 c1
    refine Rn.iload_n (pc' := 10) dJ9_max_7cf53_9 rfl 1 rfl rfl ?_
    cases E
    exact Rn.zret rfl rfl dJ9_max_7cf53_10
  · replace E := (if_of E).2 c1
    refine Rn.iload_n (pc' := 6) dJ9_max_7cf53_5 rfl 0 rfl rfl ?_
    refine Rn.goto (pc' := 10) dJ9_max_7cf53_6 (by decide) ?_
    cases E
    exact Rn.zret rfl rfl dJ9_max_7cf53_10
def f_Math_max (h : Hp) (x0 : Int32) (x1 : Int32) : Option (Int32 × Hp) := f_Math_max_b0 h x0 x1
theorem f_Math_max_ok {l : Launch} {X : Nat × (Nat → Int32)} (hst : l.stackTraces = false) {h : Hp} {x0 : Int32} {x1 : Int32} {r : Int32 × Hp} (E : f_Math_max h x0 x1 = some r) : MC l X yJ9_max_7cf53 mJ9_max_7cf53 0 [.int x0, .int x1] h (eI r) r.2 :=
  MC.body (by decide +kernel) rfl (by decide) hst (Nat.le_of_ble_eq_true rfl) (f_Math_max_b0_ok hst (Nat.le_refl _) E)
abbrev mX0_free : MI := (RX0, cX0_free, 1, (some Jvm.ClassFile.FieldType.int), [], false)
theorem ws_X0_free : ∀ w ∈ wsM yX0_free mX0_free, w ∈ gw := List.forall_mem_cons.mpr ⟨gw_at 557 (by decide +kernel) (by decide +kernel), fun _ h => h⟩
theorem kb_X0_47 : KB RX0 47 yJ9_max_7cf53 mJ9_max_7cf53 2 := ⟨gw_at 558 (by decide +kernel) (by decide +kernel), gw_at 128 (by decide +kernel) (by decide +kernel), trivial, ws_J9_max_7cf53, by decide +kernel, by decide +kernel, by decide +kernel, by decide⟩
theorem ks_J9_max_7cf53 : Cond.static yJ9_max_7cf53 ∈ gw := gw_at 525 (by decide +kernel) (by decide +kernel)
def f_Cistern_free_b0   (h : Hp) (x0 : Nat)  : Option (Int32 × Hp) :=
if hS h x0 = 1 then (
bI (f_Math_max h (0 : Int32) ((hI h x0 0) - (hI h x0 5))) fun v2 h3 =>
some (v2, h3)
) else none
set_option maxRecDepth 20000 in
set_option maxHeartbeats 4000000 in
theorem f_Cistern_free_b0_ok {l : Launch} {X : Nat × (Nat → Int32)} (hst : l.stackTraces = false) {d : Nat} (hd : 1 ≤ d)     {h : Hp} {x0 : Nat}  {r : Int32 × Hp} (E : f_Cistern_free_b0   h x0 = some r) : Rn l X mX0_free d 0 [(0, .ref x0)] [] h (eI r) r.2 := by
  unfold f_Cistern_free_b0 at E
  refine Rn.iconst (pc' := 1) (v := (0 : Int32)) (hv := by decide) dX0_free_0 rfl ?_
  refine Rn.aload_n (pc' := 2) dX0_free_1 rfl 0 rfl rfl ?_
  obtain ⟨g1, E⟩ := gd_of E
  refine Rn.getI (pc' := 5) fl_X0_15_0 g1 rfl dX0_free_2 rfl ?_
  refine Rn.aload_n (pc' := 6) dX0_free_5 rfl 0 rfl rfl ?_
  refine Rn.getI (pc' := 9) fl_X0_32_0 g1 rfl dX0_free_6 rfl ?_
  refine Rn.isub (pc' := 10) dX0_free_9 rfl ?_
  obtain ⟨v2, h3, e4, E⟩ := bI_of E
  refine Rn.callS1 (pc' := 13) (As := [.int (0 : Int32), .int ((hI h x0 0) - (hI h x0 5))]) (rest := []) (f_Math_max_ok hst e4) (Nat.le_trans (by decide) hd) rfl kb_X0_47 ks_J9_max_7cf53 rfl rfl (Nat.le_of_ble_eq_true rfl) dX0_free_10 rfl rfl ?_
  cases E
  exact Rn.zret rfl rfl dX0_free_13
def f_Cistern_free (h : Hp) (x0 : Nat) : Option (Int32 × Hp) := f_Cistern_free_b0 h x0
theorem f_Cistern_free_ok {l : Launch} {X : Nat × (Nat → Int32)} (hst : l.stackTraces = false) {h : Hp} {x0 : Nat} {r : Int32 × Hp} (E : f_Cistern_free h x0 = some r) : MC l X yX0_free mX0_free 1 [.ref x0] h (eI r) r.2 :=
  MC.body (by decide +kernel) rfl (by decide) hst (Nat.le_of_ble_eq_true rfl) (f_Cistern_free_b0_ok hst (Nat.le_refl _) E)
abbrev mX0_put : MI := (RX0, cX0_put, 3, none, [], false)
theorem ws_X0_put : ∀ w ∈ wsM yX0_put mX0_put, w ∈ gw := List.forall_mem_cons.mpr ⟨gw_at 578 (by decide +kernel) (by decide +kernel), fun _ h => h⟩
def f_Cistern_put_b0   (h : Hp) (x0 : Nat) (x1 : Int32) (x2 : Int32)  : Option (Hp) :=
if x1 < 0 then (
some h

) else (
if (30 : Int32) ≤ x1 then (
some h

) else (
if hS h x0 = 1 then (
if hS h (hR h x0 6) = 20 then (
if ib x1 (hL h (hR h x0 6)) = true then (
if ib x1 (hL h (hR h x0 6)) = true then (
wr (sI h (hR h x0 6) (ix x1) ((hI h (hR h x0 6) (ix x1)) + x2)) fun h7 =>
wr (sI h7 x0 5 ((hI h7 x0 5) + x2)) fun h9 =>
some h9
) else none) else none) else none) else none
)

)

set_option maxRecDepth 20000 in
set_option maxHeartbeats 4000000 in
theorem f_Cistern_put_b0_ok {l : Launch} {X : Nat × (Nat → Int32)} (hst : l.stackTraces = false) {d : Nat} (hd : 0 ≤ d)     {h : Hp} {x0 : Nat} {x1 : Int32} {x2 : Int32}  {r : Hp} (E : f_Cistern_put_b0   h x0 x1 x2 = some r) : Rn l X mX0_put d 0 [(0, .ref x0), (1, .int x1), (2, .int x2)] [] h (eV r) r := by
  unfold f_Cistern_put_b0 at E
  refine Rn.iload_n (pc' := 1) dX0_put_0 rfl 1 rfl rfl ?_
  refine Rn.if_lt (pc' := 4) (tgt := 30) dX0_put_1 (by decide) rfl (fun c1 => ?_) (fun c1 => ?_)
  · replace E := (if_of E).1 c1
    cases E
    exact Rn.vret rfl dX0_put_30
  · replace E := (if_of E).2 c1
    refine Rn.iload_n (pc' := 5) dX0_put_4 rfl 1 rfl rfl ?_
    refine Rn.bipush (pc' := 7) (v := (30 : Int32)) (hv := by decide) dX0_put_5 rfl ?_
    refine Rn.icmp_ge (pc' := 10) (tgt := 30) dX0_put_7 (by decide) rfl (fun c2 => ?_) (fun c2 => ?_)
    · replace E := (if_of E).1 c2
      cases E
      exact Rn.vret rfl dX0_put_30
    · replace E := (if_of E).2 c2
      refine Rn.aload_n (pc' := 11) dX0_put_10 rfl 0 rfl rfl ?_
      obtain ⟨g3, E⟩ := gd_of E
      refine Rn.getR (pc' := 14) fl_X0_9_0 g3 rfl dX0_put_11 rfl ?_
      refine Rn.iload_n (pc' := 15) dX0_put_14 rfl 1 rfl rfl ?_
      refine Rn.dup2 (pc' := 16) (hc := rfl) (hd := rfl) dX0_put_15 rfl ?_
      obtain ⟨g4, E⟩ := gd_of E
      obtain ⟨g5, E⟩ := gd_of E
      refine Rn.iald (pc' := 17) g4 g5 dX0_put_16 rfl ?_
      refine Rn.iload_n (pc' := 18) dX0_put_17 rfl 2 rfl rfl ?_
      refine Rn.iadd (pc' := 19) dX0_put_18 rfl ?_
      obtain ⟨g6, E⟩ := gd_of E
      refine Rn.iast (pc' := 20) g4 g6 dX0_put_19 rfl ?_
      replace E := wr_of E
      generalize eh8 : sI h (hR h x0 6) (ix x1) ((hI h (hR h x0 6) (ix x1)) + x2) = h7 at E ⊢
      refine Rn.aload_n (pc' := 21) dX0_put_20 rfl 0 rfl rfl ?_
      refine Rn.dup (pc' := 22) (hc := rfl) dX0_put_21 rfl ?_
      refine Rn.getI (pc' := 25) fl_X0_32_0 (kp_sI eh8 g3) rfl dX0_put_22 rfl ?_
      refine Rn.iload_n (pc' := 26) dX0_put_25 rfl 2 rfl rfl ?_
      refine Rn.iadd (pc' := 27) dX0_put_26 rfl ?_
      refine Rn.putI (pc' := 30) fl_X0_32_0 (fun q hq => by cases hq; decide) (kp_sI eh8 g3) rfl rfl rfl dX0_put_27 rfl ?_
      replace E := wr_of E
      generalize eh10 : sI h7 x0 5 ((hI h7 x0 5) + x2) = h9 at E ⊢
      cases E
      exact Rn.vret rfl dX0_put_30
def f_Cistern_put (h : Hp) (x0 : Nat) (x1 : Int32) (x2 : Int32) : Option (Hp) := f_Cistern_put_b0 h x0 x1 x2
theorem f_Cistern_put_ok {l : Launch} {X : Nat × (Nat → Int32)} (hst : l.stackTraces = false) {h : Hp} {x0 : Nat} {x1 : Int32} {x2 : Int32} {r : Hp} (E : f_Cistern_put h x0 x1 x2 = some r) : MC l X yX0_put mX0_put 0 [.ref x0, .int x1, .int x2] h (eV r) r :=
  MC.body (by decide +kernel) rfl (by decide) hst (Nat.le_of_ble_eq_true rfl) (f_Cistern_put_b0_ok hst (Nat.le_refl _) E)
abbrev mX0_take : MI := (RX0, cX0_take, 3, none, [], false)
theorem ws_X0_take : ∀ w ∈ wsM yX0_take mX0_take, w ∈ gw := List.forall_mem_cons.mpr ⟨gw_at 574 (by decide +kernel) (by decide +kernel), fun _ h => h⟩
theorem kb_X0_53 : KB RX0 53 yX0_put mX0_put 2 := ⟨gw_at 575 (by decide +kernel) (by decide +kernel), gw_at 114 (by decide +kernel) (by decide +kernel), trivial, ws_X0_put, by decide +kernel, by decide +kernel, by decide +kernel, by decide⟩
theorem ki_X0_put : Cond.instanceMethod yX0_put ∈ gw ∧ Cond.selects yX0_put.cls yX0_put yX0_put ∈ gw := ⟨gw_at 576 (by decide +kernel) (by decide +kernel), gw_at 577 (by decide +kernel) (by decide +kernel)⟩
def f_Cistern_take_b0   (h : Hp) (x0 : Nat) (x1 : Int32) (x2 : Int32)  : Option (Hp) :=
if hS h x0 = 1 then (
bV (f_Cistern_put h x0 x1 (-x2)) fun h3 =>
some h3
) else none
set_option maxRecDepth 20000 in
set_option maxHeartbeats 4000000 in
theorem f_Cistern_take_b0_ok {l : Launch} {X : Nat × (Nat → Int32)} (hst : l.stackTraces = false) {d : Nat} (hd : 1 ≤ d)     {h : Hp} {x0 : Nat} {x1 : Int32} {x2 : Int32}  {r : Hp} (E : f_Cistern_take_b0   h x0 x1 x2 = some r) : Rn l X mX0_take d 0 [(0, .ref x0), (1, .int x1), (2, .int x2)] [] h (eV r) r := by
  unfold f_Cistern_take_b0 at E
  refine Rn.aload_n (pc' := 1) dX0_take_0 rfl 0 rfl rfl ?_
  refine Rn.iload_n (pc' := 2) dX0_take_1 rfl 1 rfl rfl ?_
  refine Rn.iload_n (pc' := 3) dX0_take_2 rfl 2 rfl rfl ?_
  refine Rn.ineg (pc' := 4) dX0_take_3 rfl ?_
  obtain ⟨g1, E⟩ := gd_of E
  obtain ⟨h3, e4, E⟩ := bV_of E
  refine Rn.callV1 (pc' := 7) (As := [.int x1, .int (-x2)]) (rest := []) (f_Cistern_put_ok hst e4) (Nat.le_trans (by decide) hd) rfl kb_X0_53 ki_X0_put rfl g1 rfl rfl (Nat.le_of_ble_eq_true rfl) dX0_take_4 rfl rfl ?_
  cases E
  exact Rn.vret rfl dX0_take_7
def f_Cistern_take (h : Hp) (x0 : Nat) (x1 : Int32) (x2 : Int32) : Option (Hp) := f_Cistern_take_b0 h x0 x1 x2
theorem f_Cistern_take_ok {l : Launch} {X : Nat × (Nat → Int32)} (hst : l.stackTraces = false) {h : Hp} {x0 : Nat} {x1 : Int32} {x2 : Int32} {r : Hp} (E : f_Cistern_take h x0 x1 x2 = some r) : MC l X yX0_take mX0_take 1 [.ref x0, .int x1, .int x2] h (eV r) r :=
  MC.body (by decide +kernel) rfl (by decide) hst (Nat.le_of_ble_eq_true rfl) (f_Cistern_take_b0_ok hst (Nat.le_refl _) E)
abbrev mX0_measuresAbove : MI := (RX0, cX0_measuresAbove, 4, (some Jvm.ClassFile.FieldType.int), [], false)
theorem ws_X0_measuresAbove : ∀ w ∈ wsM yX0_measuresAbove mX0_measuresAbove, w ∈ gw := List.forall_mem_cons.mpr ⟨gw_at 570 (by decide +kernel) (by decide +kernel), fun _ h => h⟩
def f_Cistern_measuresAbove_b31  (k4 : Hp → Nat → Int32 → Int32 → Int32 → Option (Int32 × Hp)) (h : Hp) (x0 : Nat) (x1 : Int32) (x2 : Int32) (x3 : Int32)  : Option (Int32 × Hp) :=
k4 h x0 x1 x2 (x3 + (1 : Int32))

set_option maxRecDepth 20000 in
set_option maxHeartbeats 4000000 in
theorem f_Cistern_measuresAbove_b31_ok {l : Launch} {X : Nat × (Nat → Int32)} (hst : l.stackTraces = false) {d : Nat} (hd : 0 ≤ d)   {k4 : Hp → Nat → Int32 → Int32 → Int32 → Option (Int32 × Hp)} (hk4 : ∀ (h : Hp) (x0 : Nat) (x1 : Int32) (x2 : Int32) (x3 : Int32)  (r : Int32 × Hp), k4 h x0 x1 x2 x3 = some r → Rn l X mX0_measuresAbove d 4 [(0, .ref x0), (1, .int x1), (2, .int x2), (3, .int x3)] [] h (eI r) r.2) {h : Hp} {x0 : Nat} {x1 : Int32} {x2 : Int32} {x3 : Int32}  {r : Int32 × Hp} (E : f_Cistern_measuresAbove_b31  k4 h x0 x1 x2 x3 = some r) : Rn l X mX0_measuresAbove d 31 [(0, .ref x0), (1, .int x1), (2, .int x2), (3, .int x3)] [] h (eI r) r.2 := by
  unfold f_Cistern_measuresAbove_b31 at E
  refine Rn.iinc (pc' := 34) (v := (x3 + (1 : Int32))) (L' := [(3, .int (x3 + (1 : Int32))), (0, .ref x0), (1, .int x1), (2, .int x2)]) dX0_measuresAbove_31 3 rfl rfl (by decide) rfl rfl ?_
  refine Rn.goto (pc' := 4) dX0_measuresAbove_34 (by decide) ?_
  refine Rn.sub [1, 2, 3, 0] rfl ?_
  exact hk4 _ _ _ _ _ _ E
def f_Cistern_measuresAbove_b4  (k4 : Hp → Nat → Int32 → Int32 → Int32 → Option (Int32 × Hp)) (h : Hp) (x0 : Nat) (x1 : Int32) (x2 : Int32) (x3 : Int32)  : Option (Int32 × Hp) :=
if (30 : Int32) ≤ x3 then (
some (x2, h)

) else (
if hS h x0 = 1 then (
if hS h (hR h x0 6) = 20 then (
if ib x3 (hL h (hR h x0 6)) = true then (
if (hI h (hR h x0 6) (ix x3)) ≤ x1 then (
f_Cistern_measuresAbove_b31  k4 h x0 x1 x2 x3

) else (
if ib x3 (hL h (hR h x0 6)) = true then (
f_Cistern_measuresAbove_b31  k4 h x0 x1 (x2 + ((hI h (hR h x0 6) (ix x3)) - x1)) x3
) else none
)
) else none) else none) else none
)

set_option maxRecDepth 20000 in
set_option maxHeartbeats 4000000 in
theorem f_Cistern_measuresAbove_b4_ok {l : Launch} {X : Nat × (Nat → Int32)} (hst : l.stackTraces = false) {d : Nat} (hd : 0 ≤ d)   {k4 : Hp → Nat → Int32 → Int32 → Int32 → Option (Int32 × Hp)} (hk4 : ∀ (h : Hp) (x0 : Nat) (x1 : Int32) (x2 : Int32) (x3 : Int32)  (r : Int32 × Hp), k4 h x0 x1 x2 x3 = some r → Rn l X mX0_measuresAbove d 4 [(0, .ref x0), (1, .int x1), (2, .int x2), (3, .int x3)] [] h (eI r) r.2) {h : Hp} {x0 : Nat} {x1 : Int32} {x2 : Int32} {x3 : Int32}  {r : Int32 × Hp} (E : f_Cistern_measuresAbove_b4  k4 h x0 x1 x2 x3 = some r) : Rn l X mX0_measuresAbove d 4 [(0, .ref x0), (1, .int x1), (2, .int x2), (3, .int x3)] [] h (eI r) r.2 := by
  unfold f_Cistern_measuresAbove_b4 at E
  refine Rn.iload_n (pc' := 5) dX0_measuresAbove_4 rfl 3 rfl rfl ?_
  refine Rn.bipush (pc' := 7) (v := (30 : Int32)) (hv := by decide) dX0_measuresAbove_5 rfl ?_
  refine Rn.icmp_ge (pc' := 10) (tgt := 37) dX0_measuresAbove_7 (by decide) rfl (fun c1 => ?_) (fun c1 => ?_)
  · replace E := (if_of E).1 c1
    refine Rn.iload_n (pc' := 38) dX0_measuresAbove_37 rfl 2 rfl rfl ?_
    cases E
    exact Rn.zret rfl rfl dX0_measuresAbove_38
  · replace E := (if_of E).2 c1
    refine Rn.aload_n (pc' := 11) dX0_measuresAbove_10 rfl 0 rfl rfl ?_
    obtain ⟨g2, E⟩ := gd_of E
    refine Rn.getR (pc' := 14) fl_X0_9_0 g2 rfl dX0_measuresAbove_11 rfl ?_
    refine Rn.iload_n (pc' := 15) dX0_measuresAbove_14 rfl 3 rfl rfl ?_
    obtain ⟨g3, E⟩ := gd_of E
    obtain ⟨g4, E⟩ := gd_of E
    refine Rn.iald (pc' := 16) g3 g4 dX0_measuresAbove_15 rfl ?_
    refine Rn.iload_n (pc' := 17) dX0_measuresAbove_16 rfl 1 rfl rfl ?_
    refine Rn.icmp_le (pc' := 20) (tgt := 31) dX0_measuresAbove_17 (by decide) rfl (fun c5 => ?_) (fun c5 => ?_)
    · replace E := (if_of E).1 c5
      exact f_Cistern_measuresAbove_b31_ok hst hd  hk4 E
    · replace E := (if_of E).2 c5
      refine Rn.iload_n (pc' := 21) dX0_measuresAbove_20 rfl 2 rfl rfl ?_
      refine Rn.aload_n (pc' := 22) dX0_measuresAbove_21 rfl 0 rfl rfl ?_
      refine Rn.getR (pc' := 25) fl_X0_9_0 g2 rfl dX0_measuresAbove_22 rfl ?_
      refine Rn.iload_n (pc' := 26) dX0_measuresAbove_25 rfl 3 rfl rfl ?_
      obtain ⟨g6, E⟩ := gd_of E
      refine Rn.iald (pc' := 27) g3 g6 dX0_measuresAbove_26 rfl ?_
      refine Rn.iload_n (pc' := 28) dX0_measuresAbove_27 rfl 1 rfl rfl ?_
      refine Rn.isub (pc' := 29) dX0_measuresAbove_28 rfl ?_
      refine Rn.iadd (pc' := 30) dX0_measuresAbove_29 rfl ?_
      refine Rn.istore_n (pc' := 31) (L' := [(2, .int (x2 + ((hI h (hR h x0 6) (ix x3)) - x1))), (0, .ref x0), (1, .int x1), (3, .int x3)]) dX0_measuresAbove_30 rfl (by decide) rfl rfl ?_
      refine Rn.sub [1, 2, 0, 3] rfl ?_
      exact f_Cistern_measuresAbove_b31_ok hst hd  hk4 E
def f_Cistern_measuresAbove_L4   (n : Nat) : Hp → Nat → Int32 → Int32 → Int32 → Option (Int32 × Hp) := Nat.rec (motive := fun _ => Hp → Nat → Int32 → Int32 → Int32 → Option (Int32 × Hp)) (fun _ _ _ _ _ => none) (fun _ rec => f_Cistern_measuresAbove_b4   rec) n
theorem f_Cistern_measuresAbove_L4_ok {l : Launch} {X : Nat × (Nat → Int32)} (hst : l.stackTraces = false) {d : Nat} (hd : 0 ≤ d)     : ∀ (n : Nat) (h : Hp) (x0 : Nat) (x1 : Int32) (x2 : Int32) (x3 : Int32)  (r : Int32 × Hp), f_Cistern_measuresAbove_L4   n h x0 x1 x2 x3 = some r → Rn l X mX0_measuresAbove d 4 [(0, .ref x0), (1, .int x1), (2, .int x2), (3, .int x3)] [] h (eI r) r.2 := by
  intro n
  induction n with
  | zero => intro h x0 x1 x2 x3 r E; cases E
  | succ n ih => intro h x0 x1 x2 x3 r E; exact f_Cistern_measuresAbove_b4_ok hst hd   ih E
def f_Cistern_measuresAbove_b0   (h : Hp) (x0 : Nat) (x1 : Int32)  : Option (Int32 × Hp) :=
f_Cistern_measuresAbove_L4   FU h x0 x1 (0 : Int32) (0 : Int32)

set_option maxRecDepth 20000 in
set_option maxHeartbeats 4000000 in
theorem f_Cistern_measuresAbove_b0_ok {l : Launch} {X : Nat × (Nat → Int32)} (hst : l.stackTraces = false) {d : Nat} (hd : 0 ≤ d)     {h : Hp} {x0 : Nat} {x1 : Int32}  {r : Int32 × Hp} (E : f_Cistern_measuresAbove_b0   h x0 x1 = some r) : Rn l X mX0_measuresAbove d 0 [(0, .ref x0), (1, .int x1)] [] h (eI r) r.2 := by
  unfold f_Cistern_measuresAbove_b0 at E
  refine Rn.iconst (pc' := 1) (v := (0 : Int32)) (hv := by decide) dX0_measuresAbove_0 rfl ?_
  refine Rn.istore_n (pc' := 2) (L' := [(2, .int (0 : Int32)), (0, .ref x0), (1, .int x1)]) dX0_measuresAbove_1 rfl (by decide) rfl rfl ?_
  refine Rn.iconst (pc' := 3) (v := (0 : Int32)) (hv := by decide) dX0_measuresAbove_2 rfl ?_
  refine Rn.istore_n (pc' := 4) (L' := [(3, .int (0 : Int32)), (2, .int (0 : Int32)), (0, .ref x0), (1, .int x1)]) dX0_measuresAbove_3 rfl (by decide) rfl rfl ?_
  refine Rn.sub [2, 3, 1, 0] rfl ?_
  exact f_Cistern_measuresAbove_L4_ok hst hd   FU _ _ _ _ _ _ E
def f_Cistern_measuresAbove (h : Hp) (x0 : Nat) (x1 : Int32) : Option (Int32 × Hp) := f_Cistern_measuresAbove_b0 h x0 x1
theorem f_Cistern_measuresAbove_ok {l : Launch} {X : Nat × (Nat → Int32)} (hst : l.stackTraces = false) {h : Hp} {x0 : Nat} {x1 : Int32} {r : Int32 × Hp} (E : f_Cistern_measuresAbove h x0 x1 = some r) : MC l X yX0_measuresAbove mX0_measuresAbove 0 [.ref x0, .int x1] h (eI r) r.2 :=
  MC.body (by decide +kernel) rfl (by decide) hst (Nat.le_of_ble_eq_true rfl) (f_Cistern_measuresAbove_b0_ok hst (Nat.le_refl _) E)
abbrev mX0_levelFor : MI := (RX0, cX0_levelFor, 6, (some Jvm.ClassFile.FieldType.int), [], false)
theorem ws_X0_levelFor : ∀ w ∈ wsM yX0_levelFor mX0_levelFor, w ∈ gw := List.forall_mem_cons.mpr ⟨gw_at 566 (by decide +kernel) (by decide +kernel), fun _ h => h⟩
def f_Cistern_levelFor_b79  (k38 : Hp → Nat → Int32 → Int32 → Int32 → Int32 → Option (Int32 × Hp)) (h : Hp) (x0 : Nat) (x1 : Int32) (x2 : Int32) (x3 : Int32) (x4 : Int32)  : Option (Int32 × Hp) :=
k38 h x0 x1 x2 x3 (x4 + (1 : Int32))

set_option maxRecDepth 20000 in
set_option maxHeartbeats 4000000 in
theorem f_Cistern_levelFor_b79_ok {l : Launch} {X : Nat × (Nat → Int32)} (hst : l.stackTraces = false) {d : Nat} (hd : 1 ≤ d)   {k38 : Hp → Nat → Int32 → Int32 → Int32 → Int32 → Option (Int32 × Hp)} (hk38 : ∀ (h : Hp) (x0 : Nat) (x1 : Int32) (x2 : Int32) (x3 : Int32) (x4 : Int32)  (r : Int32 × Hp), k38 h x0 x1 x2 x3 x4 = some r → Rn l X mX0_levelFor d 38 [(0, .ref x0), (1, .int x1), (2, .int x2), (3, .int x3), (4, .int x4)] [] h (eI r) r.2) {h : Hp} {x0 : Nat} {x1 : Int32} {x2 : Int32} {x3 : Int32} {x4 : Int32}  {r : Int32 × Hp} (E : f_Cistern_levelFor_b79  k38 h x0 x1 x2 x3 x4 = some r) : Rn l X mX0_levelFor d 79 [(0, .ref x0), (1, .int x1), (2, .int x2), (3, .int x3), (4, .int x4)] [] h (eI r) r.2 := by
  unfold f_Cistern_levelFor_b79 at E
  refine Rn.iinc (pc' := 82) (v := (x4 + (1 : Int32))) (L' := [(4, .int (x4 + (1 : Int32))), (0, .ref x0), (1, .int x1), (2, .int x2), (3, .int x3)]) dX0_levelFor_79 4 rfl rfl (by decide) rfl rfl ?_
  refine Rn.goto (pc' := 38) dX0_levelFor_82 (by decide) ?_
  refine Rn.sub [1, 2, 3, 4, 0] rfl ?_
  exact hk38 _ _ _ _ _ _ _ E
theorem kb_X0_61 : KB RX0 61 yX0_measuresAbove mX0_measuresAbove 1 := ⟨gw_at 567 (by decide +kernel) (by decide +kernel), gw_at 114 (by decide +kernel) (by decide +kernel), trivial, ws_X0_measuresAbove, by decide +kernel, by decide +kernel, by decide +kernel, by decide⟩
theorem ki_X0_measuresAbove : Cond.instanceMethod yX0_measuresAbove ∈ gw ∧ Cond.selects yX0_measuresAbove.cls yX0_measuresAbove yX0_measuresAbove ∈ gw := ⟨gw_at 569 (by decide +kernel) (by decide +kernel), gw_at 1 (by decide +kernel) (by decide +kernel)⟩
def f_Cistern_levelFor_b38  (k38 : Hp → Nat → Int32 → Int32 → Int32 → Int32 → Option (Int32 × Hp)) (h : Hp) (x0 : Nat) (x1 : Int32) (x2 : Int32) (x3 : Int32) (x4 : Int32)  : Option (Int32 × Hp) :=
if (999 : Int32) ≤ x4 then (
some (x2, h)

) else (
if x2 ≤ x3 then (
some (x2, h)

) else (
if hS h x0 = 1 then (
bI (f_Cistern_measuresAbove h x0 ((x3 + x2) / (2 : Int32))) fun v4 h5 =>
if x1 < v4 then (
f_Cistern_levelFor_b79  k38 h5 x0 x1 x2 (((x3 + x2) / (2 : Int32)) + (1 : Int32)) x4

) else (
f_Cistern_levelFor_b79  k38 h5 x0 x1 ((x3 + x2) / (2 : Int32)) x3 x4

)
) else none
)

)

set_option maxRecDepth 20000 in
set_option maxHeartbeats 4000000 in
theorem f_Cistern_levelFor_b38_ok {l : Launch} {X : Nat × (Nat → Int32)} (hst : l.stackTraces = false) {d : Nat} (hd : 1 ≤ d)   {k38 : Hp → Nat → Int32 → Int32 → Int32 → Int32 → Option (Int32 × Hp)} (hk38 : ∀ (h : Hp) (x0 : Nat) (x1 : Int32) (x2 : Int32) (x3 : Int32) (x4 : Int32)  (r : Int32 × Hp), k38 h x0 x1 x2 x3 x4 = some r → Rn l X mX0_levelFor d 38 [(0, .ref x0), (1, .int x1), (2, .int x2), (3, .int x3), (4, .int x4)] [] h (eI r) r.2) {h : Hp} {x0 : Nat} {x1 : Int32} {x2 : Int32} {x3 : Int32} {x4 : Int32}  {r : Int32 × Hp} (E : f_Cistern_levelFor_b38  k38 h x0 x1 x2 x3 x4 = some r) : Rn l X mX0_levelFor d 38 [(0, .ref x0), (1, .int x1), (2, .int x2), (3, .int x3), (4, .int x4)] [] h (eI r) r.2 := by
  unfold f_Cistern_levelFor_b38 at E
  refine Rn.iload (pc' := 40) dX0_levelFor_38 4 rfl rfl ?_
  refine Rn.sipush (pc' := 43) (v := (999 : Int32)) (hv := by decide) dX0_levelFor_40 rfl ?_
  refine Rn.icmp_ge (pc' := 46) (tgt := 85) dX0_levelFor_43 (by decide) rfl (fun c1 => ?_) (fun c1 => ?_)
  · replace E := (if_of E).1 c1
    refine Rn.iload_n (pc' := 86) dX0_levelFor_85 rfl 2 rfl rfl ?_
    cases E
    exact Rn.zret rfl rfl dX0_levelFor_86
  · replace E := (if_of E).2 c1
    refine Rn.iload_n (pc' := 47) dX0_levelFor_46 rfl 3 rfl rfl ?_
    refine Rn.iload_n (pc' := 48) dX0_levelFor_47 rfl 2 rfl rfl ?_
    refine Rn.icmp_ge (pc' := 51) (tgt := 85) dX0_levelFor_48 (by decide) rfl (fun c2 => ?_) (fun c2 => ?_)
    · replace E := (if_of E).1 c2
      refine Rn.iload_n (pc' := 86) dX0_levelFor_85 rfl 2 rfl rfl ?_
      cases E
      exact Rn.zret rfl rfl dX0_levelFor_86
    · replace E := (if_of E).2 c2
      refine Rn.iload_n (pc' := 52) dX0_levelFor_51 rfl 3 rfl rfl ?_
      refine Rn.iload_n (pc' := 53) dX0_levelFor_52 rfl 2 rfl rfl ?_
      refine Rn.iadd (pc' := 54) dX0_levelFor_53 rfl ?_
      refine Rn.iconst (pc' := 55) (v := (2 : Int32)) (hv := by decide) dX0_levelFor_54 rfl ?_
      refine Rn.idiv (pc' := 56) (hne := (by decide)) dX0_levelFor_55 rfl ?_
      refine Rn.istore (pc' := 58) (L' := [(5, .int ((x3 + x2) / (2 : Int32))), (0, .ref x0), (1, .int x1), (2, .int x2), (3, .int x3), (4, .int x4)]) dX0_levelFor_56 (by decide) rfl rfl ?_
      refine Rn.aload_n (pc' := 59) dX0_levelFor_58 rfl 1 rfl rfl ?_
      refine Rn.iload (pc' := 61) dX0_levelFor_59 0 rfl rfl ?_
      obtain ⟨g3, E⟩ := gd_of E
      obtain ⟨v4, h5, e6, E⟩ := bI_of E
      refine Rn.callV1 (pc' := 64) (As := [.int ((x3 + x2) / (2 : Int32))]) (rest := []) (f_Cistern_measuresAbove_ok hst e6) (Nat.le_trans (by decide) hd) rfl kb_X0_61 ki_X0_measuresAbove rfl g3 rfl rfl (Nat.le_of_ble_eq_true rfl) dX0_levelFor_61 rfl rfl ?_
      refine Rn.iload_n (pc' := 65) dX0_levelFor_64 rfl 2 rfl rfl ?_
      refine Rn.icmp_gt (pc' := 68) (tgt := 74) dX0_levelFor_65 (by decide) rfl (fun c7 => ?_) (fun c7 => ?_)
      · replace E := (if_of E).1 c7
        refine Rn.iload (pc' := 76) dX0_levelFor_74 0 rfl rfl ?_
        refine Rn.iconst (pc' := 77) (v := (1 : Int32)) (hv := by decide) dX0_levelFor_76 rfl ?_
        refine Rn.iadd (pc' := 78) dX0_levelFor_77 rfl ?_
        refine Rn.istore_n (pc' := 79) (L' := [(3, .int (((x3 + x2) / (2 : Int32)) + (1 : Int32))), (5, .int ((x3 + x2) / (2 : Int32))), (0, .ref x0), (1, .int x1), (2, .int x2), (4, .int x4)]) dX0_levelFor_78 rfl (by decide) rfl rfl ?_
        refine Rn.sub [2, 3, 4, 0, 5] rfl ?_
        exact f_Cistern_levelFor_b79_ok hst hd  hk38 E
      · replace E := (if_of E).2 c7
        refine Rn.iload (pc' := 70) dX0_levelFor_68 0 rfl rfl ?_
        refine Rn.istore_n (pc' := 71) (L' := [(2, .int ((x3 + x2) / (2 : Int32))), (5, .int ((x3 + x2) / (2 : Int32))), (0, .ref x0), (1, .int x1), (3, .int x3), (4, .int x4)]) dX0_levelFor_70 rfl (by decide) rfl rfl ?_
        refine Rn.goto (pc' := 79) dX0_levelFor_71 (by decide) ?_
        refine Rn.sub [2, 3, 0, 4, 5] rfl ?_
        exact f_Cistern_levelFor_b79_ok hst hd  hk38 E
def f_Cistern_levelFor_L38   (n : Nat) : Hp → Nat → Int32 → Int32 → Int32 → Int32 → Option (Int32 × Hp) := Nat.rec (motive := fun _ => Hp → Nat → Int32 → Int32 → Int32 → Int32 → Option (Int32 × Hp)) (fun _ _ _ _ _ _ => none) (fun _ rec => f_Cistern_levelFor_b38   rec) n
theorem f_Cistern_levelFor_L38_ok {l : Launch} {X : Nat × (Nat → Int32)} (hst : l.stackTraces = false) {d : Nat} (hd : 1 ≤ d)     : ∀ (n : Nat) (h : Hp) (x0 : Nat) (x1 : Int32) (x2 : Int32) (x3 : Int32) (x4 : Int32)  (r : Int32 × Hp), f_Cistern_levelFor_L38   n h x0 x1 x2 x3 x4 = some r → Rn l X mX0_levelFor d 38 [(0, .ref x0), (1, .int x1), (2, .int x2), (3, .int x3), (4, .int x4)] [] h (eI r) r.2 := by
  intro n
  induction n with
  | zero => intro h x0 x1 x2 x3 x4 r E; cases E
  | succ n ih => intro h x0 x1 x2 x3 x4 r E; exact f_Cistern_levelFor_b38_ok hst hd   ih E
def f_Cistern_levelFor_b4  (k4 : Hp → Nat → Int32 → Int32 → Int32 → Option (Int32 × Hp)) (h : Hp) (x0 : Nat) (x1 : Int32) (x2 : Int32) (x3 : Int32)  : Option (Int32 × Hp) :=
if (30 : Int32) ≤ x3 then (
bI (f_Math_max h (0 : Int32) (x2 - x1)) fun v2 h3 =>
f_Cistern_levelFor_L38   FU h3 x0 x1 x2 v2 (0 : Int32)

) else (
if hS h x0 = 1 then (
if hS h (hR h x0 6) = 20 then (
if ib x3 (hL h (hR h x0 6)) = true then (
bI (f_Math_max h x2 (hI h (hR h x0 6) (ix x3))) fun v8 h9 =>
k4 h9 x0 x1 v8 (x3 + (1 : Int32))
) else none) else none) else none
)

set_option maxRecDepth 20000 in
set_option maxHeartbeats 4000000 in
theorem f_Cistern_levelFor_b4_ok {l : Launch} {X : Nat × (Nat → Int32)} (hst : l.stackTraces = false) {d : Nat} (hd : 1 ≤ d)   {k4 : Hp → Nat → Int32 → Int32 → Int32 → Option (Int32 × Hp)} (hk4 : ∀ (h : Hp) (x0 : Nat) (x1 : Int32) (x2 : Int32) (x3 : Int32)  (r : Int32 × Hp), k4 h x0 x1 x2 x3 = some r → Rn l X mX0_levelFor d 4 [(0, .ref x0), (1, .int x1), (2, .int x2), (3, .int x3)] [] h (eI r) r.2) {h : Hp} {x0 : Nat} {x1 : Int32} {x2 : Int32} {x3 : Int32}  {r : Int32 × Hp} (E : f_Cistern_levelFor_b4  k4 h x0 x1 x2 x3 = some r) : Rn l X mX0_levelFor d 4 [(0, .ref x0), (1, .int x1), (2, .int x2), (3, .int x3)] [] h (eI r) r.2 := by
  unfold f_Cistern_levelFor_b4 at E
  refine Rn.iload_n (pc' := 5) dX0_levelFor_4 rfl 3 rfl rfl ?_
  refine Rn.bipush (pc' := 7) (v := (30 : Int32)) (hv := by decide) dX0_levelFor_5 rfl ?_
  refine Rn.icmp_ge (pc' := 10) (tgt := 27) dX0_levelFor_7 (by decide) rfl (fun c1 => ?_) (fun c1 => ?_)
  · replace E := (if_of E).1 c1
    refine Rn.iconst (pc' := 28) (v := (0 : Int32)) (hv := by decide) dX0_levelFor_27 rfl ?_
    refine Rn.iload_n (pc' := 29) dX0_levelFor_28 rfl 2 rfl rfl ?_
    refine Rn.iload_n (pc' := 30) dX0_levelFor_29 rfl 1 rfl rfl ?_
    refine Rn.isub (pc' := 31) dX0_levelFor_30 rfl ?_
    obtain ⟨v2, h3, e4, E⟩ := bI_of E
    refine Rn.callS1 (pc' := 34) (As := [.int (0 : Int32), .int (x2 - x1)]) (rest := []) (f_Math_max_ok hst e4) (Nat.le_trans (by decide) hd) rfl kb_X0_47 ks_J9_max_7cf53 rfl rfl (Nat.le_of_ble_eq_true rfl) dX0_levelFor_31 rfl rfl ?_
    refine Rn.istore_n (pc' := 35) (L' := [(3, .int v2), (0, .ref x0), (1, .int x1), (2, .int x2)]) dX0_levelFor_34 rfl (by decide) rfl rfl ?_
    refine Rn.iconst (pc' := 36) (v := (0 : Int32)) (hv := by decide) dX0_levelFor_35 rfl ?_
    refine Rn.istore (pc' := 38) (L' := [(4, .int (0 : Int32)), (3, .int v2), (0, .ref x0), (1, .int x1), (2, .int x2)]) dX0_levelFor_36 (by decide) rfl rfl ?_
    refine Rn.sub [2, 3, 4, 1, 0] rfl ?_
    exact f_Cistern_levelFor_L38_ok hst hd   FU _ _ _ _ _ _ _ E
  · replace E := (if_of E).2 c1
    refine Rn.iload_n (pc' := 11) dX0_levelFor_10 rfl 2 rfl rfl ?_
    refine Rn.aload_n (pc' := 12) dX0_levelFor_11 rfl 0 rfl rfl ?_
    obtain ⟨g5, E⟩ := gd_of E
    refine Rn.getR (pc' := 15) fl_X0_9_0 g5 rfl dX0_levelFor_12 rfl ?_
    refine Rn.iload_n (pc' := 16) dX0_levelFor_15 rfl 3 rfl rfl ?_
    obtain ⟨g6, E⟩ := gd_of E
    obtain ⟨g7, E⟩ := gd_of E
    refine Rn.iald (pc' := 17) g6 g7 dX0_levelFor_16 rfl ?_
    obtain ⟨v8, h9, e10, E⟩ := bI_of E
    refine Rn.callS1 (pc' := 20) (As := [.int x2, .int (hI h (hR h x0 6) (ix x3))]) (rest := []) (f_Math_max_ok hst e10) (Nat.le_trans (by decide) hd) rfl kb_X0_47 ks_J9_max_7cf53 rfl rfl (Nat.le_of_ble_eq_true rfl) dX0_levelFor_17 rfl rfl ?_
    refine Rn.istore_n (pc' := 21) (L' := [(2, .int v8), (0, .ref x0), (1, .int x1), (3, .int x3)]) dX0_levelFor_20 rfl (by decide) rfl rfl ?_
    refine Rn.iinc (pc' := 24) (v := (x3 + (1 : Int32))) (L' := [(3, .int (x3 + (1 : Int32))), (2, .int v8), (0, .ref x0), (1, .int x1)]) dX0_levelFor_21 3 rfl rfl (by decide) rfl rfl ?_
    refine Rn.goto (pc' := 4) dX0_levelFor_24 (by decide) ?_
    refine Rn.sub [2, 3, 1, 0] rfl ?_
    exact hk4 _ _ _ _ _ _ E
def f_Cistern_levelFor_L4   (n : Nat) : Hp → Nat → Int32 → Int32 → Int32 → Option (Int32 × Hp) := Nat.rec (motive := fun _ => Hp → Nat → Int32 → Int32 → Int32 → Option (Int32 × Hp)) (fun _ _ _ _ _ => none) (fun _ rec => f_Cistern_levelFor_b4   rec) n
theorem f_Cistern_levelFor_L4_ok {l : Launch} {X : Nat × (Nat → Int32)} (hst : l.stackTraces = false) {d : Nat} (hd : 1 ≤ d)     : ∀ (n : Nat) (h : Hp) (x0 : Nat) (x1 : Int32) (x2 : Int32) (x3 : Int32)  (r : Int32 × Hp), f_Cistern_levelFor_L4   n h x0 x1 x2 x3 = some r → Rn l X mX0_levelFor d 4 [(0, .ref x0), (1, .int x1), (2, .int x2), (3, .int x3)] [] h (eI r) r.2 := by
  intro n
  induction n with
  | zero => intro h x0 x1 x2 x3 r E; cases E
  | succ n ih => intro h x0 x1 x2 x3 r E; exact f_Cistern_levelFor_b4_ok hst hd   ih E
def f_Cistern_levelFor_b0   (h : Hp) (x0 : Nat) (x1 : Int32)  : Option (Int32 × Hp) :=
f_Cistern_levelFor_L4   FU h x0 x1 (0 : Int32) (0 : Int32)

set_option maxRecDepth 20000 in
set_option maxHeartbeats 4000000 in
theorem f_Cistern_levelFor_b0_ok {l : Launch} {X : Nat × (Nat → Int32)} (hst : l.stackTraces = false) {d : Nat} (hd : 1 ≤ d)     {h : Hp} {x0 : Nat} {x1 : Int32}  {r : Int32 × Hp} (E : f_Cistern_levelFor_b0   h x0 x1 = some r) : Rn l X mX0_levelFor d 0 [(0, .ref x0), (1, .int x1)] [] h (eI r) r.2 := by
  unfold f_Cistern_levelFor_b0 at E
  refine Rn.iconst (pc' := 1) (v := (0 : Int32)) (hv := by decide) dX0_levelFor_0 rfl ?_
  refine Rn.istore_n (pc' := 2) (L' := [(2, .int (0 : Int32)), (0, .ref x0), (1, .int x1)]) dX0_levelFor_1 rfl (by decide) rfl rfl ?_
  refine Rn.iconst (pc' := 3) (v := (0 : Int32)) (hv := by decide) dX0_levelFor_2 rfl ?_
  refine Rn.istore_n (pc' := 4) (L' := [(3, .int (0 : Int32)), (2, .int (0 : Int32)), (0, .ref x0), (1, .int x1)]) dX0_levelFor_3 rfl (by decide) rfl rfl ?_
  refine Rn.sub [2, 3, 1, 0] rfl ?_
  exact f_Cistern_levelFor_L4_ok hst hd   FU _ _ _ _ _ _ E
def f_Cistern_levelFor (h : Hp) (x0 : Nat) (x1 : Int32) : Option (Int32 × Hp) := f_Cistern_levelFor_b0 h x0 x1
theorem f_Cistern_levelFor_ok {l : Launch} {X : Nat × (Nat → Int32)} (hst : l.stackTraces = false) {h : Hp} {x0 : Nat} {x1 : Int32} {r : Int32 × Hp} (E : f_Cistern_levelFor h x0 x1 = some r) : MC l X yX0_levelFor mX0_levelFor 1 [.ref x0, .int x1] h (eI r) r.2 :=
  MC.body (by decide +kernel) rfl (by decide) hst (Nat.le_of_ble_eq_true rfl) (f_Cistern_levelFor_b0_ok hst (Nat.le_refl _) E)
abbrev mX0_giveMost : MI := (RX0, cX0_giveMost, 7, none, [], false)
theorem ws_X0_giveMost : ∀ w ∈ wsM yX0_giveMost mX0_giveMost, w ∈ gw := List.forall_mem_cons.mpr ⟨gw_at 562 (by decide +kernel) (by decide +kernel), fun _ h => h⟩
def f_Cistern_giveMost_b81  (k19 : Hp → Nat → Nat → Int32 → Int32 → Int32 → Option (Hp)) (h : Hp) (x0 : Nat) (x1 : Nat) (x3 : Int32) (x4 : Int32) (x5 : Int32)  : Option (Hp) :=
k19 h x0 x1 x3 x4 (x5 + (-1 : Int32))

set_option maxRecDepth 20000 in
set_option maxHeartbeats 4000000 in
theorem f_Cistern_giveMost_b81_ok {l : Launch} {X : Nat × (Nat → Int32)} (hst : l.stackTraces = false) {d : Nat} (hd : 2 ≤ d)   {k19 : Hp → Nat → Nat → Int32 → Int32 → Int32 → Option (Hp)} (hk19 : ∀ (h : Hp) (x0 : Nat) (x1 : Nat) (x3 : Int32) (x4 : Int32) (x5 : Int32)  (r : Hp), k19 h x0 x1 x3 x4 x5 = some r → Rn l X mX0_giveMost d 19 [(0, .ref x0), (1, .ref x1), (3, .int x3), (4, .int x4), (5, .int x5)] [] h (eV r) r) {h : Hp} {x0 : Nat} {x1 : Nat} {x3 : Int32} {x4 : Int32} {x5 : Int32}  {r : Hp} (E : f_Cistern_giveMost_b81  k19 h x0 x1 x3 x4 x5 = some r) : Rn l X mX0_giveMost d 81 [(0, .ref x0), (1, .ref x1), (3, .int x3), (4, .int x4), (5, .int x5)] [] h (eV r) r := by
  unfold f_Cistern_giveMost_b81 at E
  refine Rn.iinc (pc' := 84) (v := (x5 + (-1 : Int32))) (L' := [(5, .int (x5 + (-1 : Int32))), (0, .ref x0), (1, .ref x1), (3, .int x3), (4, .int x4)]) dX0_giveMost_81 4 rfl rfl (by decide) rfl rfl ?_
  refine Rn.goto (pc' := 19) dX0_giveMost_84 (by decide) ?_
  refine Rn.sub [1, 2, 3, 4, 0] rfl ?_
  exact hk19 _ _ _ _ _ _ _ E
theorem kb_X0_64 : KB RX0 64 yX0_take mX0_take 2 := ⟨gw_at 571 (by decide +kernel) (by decide +kernel), gw_at 114 (by decide +kernel) (by decide +kernel), trivial, ws_X0_take, by decide +kernel, by decide +kernel, by decide +kernel, by decide⟩
theorem ki_X0_take : Cond.instanceMethod yX0_take ∈ gw ∧ Cond.selects yX0_take.cls yX0_take yX0_take ∈ gw := ⟨gw_at 572 (by decide +kernel) (by decide +kernel), gw_at 573 (by decide +kernel) (by decide +kernel)⟩
def f_Cistern_giveMost_b61  (k19 : Hp → Nat → Nat → Int32 → Int32 → Int32 → Option (Hp)) (h : Hp) (x0 : Nat) (x1 : Nat) (x3 : Int32) (x4 : Int32) (x5 : Int32) (x6 : Int32)  : Option (Hp) :=
if hS h x0 = 1 then (
bV (f_Cistern_take h x0 x5 x6) fun h3 =>
if x1 = 0 then (
f_Cistern_giveMost_b81  k19 h3 x0 x1 x3 x4 x5

) else (
if hS h3 x1 = 1 then (
bV (f_Cistern_put h3 x1 x5 x6) fun h8 =>
f_Cistern_giveMost_b81  k19 h8 x0 x1 x3 x4 x5
) else none
)
) else none
set_option maxRecDepth 20000 in
set_option maxHeartbeats 4000000 in
theorem f_Cistern_giveMost_b61_ok {l : Launch} {X : Nat × (Nat → Int32)} (hst : l.stackTraces = false) {d : Nat} (hd : 2 ≤ d)   {k19 : Hp → Nat → Nat → Int32 → Int32 → Int32 → Option (Hp)} (hk19 : ∀ (h : Hp) (x0 : Nat) (x1 : Nat) (x3 : Int32) (x4 : Int32) (x5 : Int32)  (r : Hp), k19 h x0 x1 x3 x4 x5 = some r → Rn l X mX0_giveMost d 19 [(0, .ref x0), (1, .ref x1), (3, .int x3), (4, .int x4), (5, .int x5)] [] h (eV r) r) {h : Hp} {x0 : Nat} {x1 : Nat} {x3 : Int32} {x4 : Int32} {x5 : Int32} {x6 : Int32}  {r : Hp} (E : f_Cistern_giveMost_b61  k19 h x0 x1 x3 x4 x5 x6 = some r) : Rn l X mX0_giveMost d 61 [(0, .ref x0), (1, .ref x1), (3, .int x3), (4, .int x4), (5, .int x5), (6, .int x6)] [] h (eV r) r := by
  unfold f_Cistern_giveMost_b61 at E
  refine Rn.aload_n (pc' := 62) dX0_giveMost_61 rfl 0 rfl rfl ?_
  refine Rn.iload (pc' := 64) dX0_giveMost_62 4 rfl rfl ?_
  refine Rn.iload (pc' := 66) dX0_giveMost_64 5 rfl rfl ?_
  obtain ⟨g1, E⟩ := gd_of E
  obtain ⟨h3, e4, E⟩ := bV_of E
  refine Rn.callV1 (pc' := 69) (As := [.int x5, .int x6]) (rest := []) (f_Cistern_take_ok hst e4) (Nat.le_trans (by decide) hd) rfl kb_X0_64 ki_X0_take rfl g1 rfl rfl (Nat.le_of_ble_eq_true rfl) dX0_giveMost_66 rfl rfl ?_
  refine Rn.aload_n (pc' := 70) dX0_giveMost_69 rfl 1 rfl rfl ?_
  refine Rn.ifnull (pc' := 73) (tgt := 81) dX0_giveMost_70 (by decide) rfl (fun c5 => ?_) (fun c5 => ?_)
  · replace E := (if_of E).1 c5
    refine Rn.sub [0, 1, 2, 3, 4] rfl ?_
    exact f_Cistern_giveMost_b81_ok hst hd  hk19 E
  · replace E := (if_of E).2 c5
    refine Rn.aload_n (pc' := 74) dX0_giveMost_73 rfl 1 rfl rfl ?_
    refine Rn.iload (pc' := 76) dX0_giveMost_74 4 rfl rfl ?_
    refine Rn.iload (pc' := 78) dX0_giveMost_76 5 rfl rfl ?_
    obtain ⟨g6, E⟩ := gd_of E
    obtain ⟨h8, e9, E⟩ := bV_of E
    refine Rn.callV1 (pc' := 81) (As := [.int x5, .int x6]) (rest := []) (f_Cistern_put_ok hst e9) (Nat.le_trans (by decide) hd) rfl kb_X0_53 ki_X0_put rfl g6 rfl rfl (Nat.le_of_ble_eq_true rfl) dX0_giveMost_78 rfl rfl ?_
    refine Rn.sub [0, 1, 2, 3, 4] rfl ?_
    exact f_Cistern_giveMost_b81_ok hst hd  hk19 E
def f_Cistern_giveMost_b19  (k19 : Hp → Nat → Nat → Int32 → Int32 → Int32 → Option (Hp)) (h : Hp) (x0 : Nat) (x1 : Nat) (x3 : Int32) (x4 : Int32) (x5 : Int32)  : Option (Hp) :=
if x5 < 0 then (
some h

) else (
if hS h x0 = 1 then (
if hS h (hR h x0 6) = 20 then (
if ib x5 (hL h (hR h x0 6)) = true then (
bI (f_Math_max h (0 : Int32) ((hI h (hR h x0 6) (ix x5)) - x3)) fun v5 h6 =>
if x4 ≤ 0 then (
f_Cistern_giveMost_b61  k19 h6 x0 x1 x3 x4 x5 v5

) else (
if hS h6 x0 = 1 then (
if hS h6 (hR h6 x0 6) = 20 then (
if ib x5 (hL h6 (hR h6 x0 6)) = true then (
if (hI h6 (hR h6 x0 6) (ix x5)) < x3 then (
f_Cistern_giveMost_b61  k19 h6 x0 x1 x3 x4 x5 v5

) else (
f_Cistern_giveMost_b61  k19 h6 x0 x1 x3 (x4 + (-1 : Int32)) x5 (v5 + (1 : Int32))

)
) else none) else none) else none
)
) else none) else none) else none
)

set_option maxRecDepth 20000 in
set_option maxHeartbeats 4000000 in
theorem f_Cistern_giveMost_b19_ok {l : Launch} {X : Nat × (Nat → Int32)} (hst : l.stackTraces = false) {d : Nat} (hd : 2 ≤ d)   {k19 : Hp → Nat → Nat → Int32 → Int32 → Int32 → Option (Hp)} (hk19 : ∀ (h : Hp) (x0 : Nat) (x1 : Nat) (x3 : Int32) (x4 : Int32) (x5 : Int32)  (r : Hp), k19 h x0 x1 x3 x4 x5 = some r → Rn l X mX0_giveMost d 19 [(0, .ref x0), (1, .ref x1), (3, .int x3), (4, .int x4), (5, .int x5)] [] h (eV r) r) {h : Hp} {x0 : Nat} {x1 : Nat} {x3 : Int32} {x4 : Int32} {x5 : Int32}  {r : Hp} (E : f_Cistern_giveMost_b19  k19 h x0 x1 x3 x4 x5 = some r) : Rn l X mX0_giveMost d 19 [(0, .ref x0), (1, .ref x1), (3, .int x3), (4, .int x4), (5, .int x5)] [] h (eV r) r := by
  unfold f_Cistern_giveMost_b19 at E
  refine Rn.iload (pc' := 21) dX0_giveMost_19 4 rfl rfl ?_
  refine Rn.if_lt (pc' := 24) (tgt := 87) dX0_giveMost_21 (by decide) rfl (fun c1 => ?_) (fun c1 => ?_)
  · replace E := (if_of E).1 c1
    cases E
    exact Rn.vret rfl dX0_giveMost_87
  · replace E := (if_of E).2 c1
    refine Rn.iconst (pc' := 25) (v := (0 : Int32)) (hv := by decide) dX0_giveMost_24 rfl ?_
    refine Rn.aload_n (pc' := 26) dX0_giveMost_25 rfl 0 rfl rfl ?_
    obtain ⟨g2, E⟩ := gd_of E
    refine Rn.getR (pc' := 29) fl_X0_9_0 g2 rfl dX0_giveMost_26 rfl ?_
    refine Rn.iload (pc' := 31) dX0_giveMost_29 4 rfl rfl ?_
    obtain ⟨g3, E⟩ := gd_of E
    obtain ⟨g4, E⟩ := gd_of E
    refine Rn.iald (pc' := 32) g3 g4 dX0_giveMost_31 rfl ?_
    refine Rn.iload_n (pc' := 33) dX0_giveMost_32 rfl 2 rfl rfl ?_
    refine Rn.isub (pc' := 34) dX0_giveMost_33 rfl ?_
    obtain ⟨v5, h6, e7, E⟩ := bI_of E
    refine Rn.callS1 (pc' := 37) (As := [.int (0 : Int32), .int ((hI h (hR h x0 6) (ix x5)) - x3)]) (rest := []) (f_Math_max_ok hst e7) (Nat.le_trans (by decide) hd) rfl kb_X0_47 ks_J9_max_7cf53 rfl rfl (Nat.le_of_ble_eq_true rfl) dX0_giveMost_34 rfl rfl ?_
    refine Rn.istore (pc' := 39) (L' := [(6, .int v5), (0, .ref x0), (1, .ref x1), (3, .int x3), (4, .int x4), (5, .int x5)]) dX0_giveMost_37 (by decide) rfl rfl ?_
    refine Rn.iload (pc' := 41) dX0_giveMost_39 4 rfl rfl ?_
    refine Rn.if_le (pc' := 44) (tgt := 61) dX0_giveMost_41 (by decide) rfl (fun c8 => ?_) (fun c8 => ?_)
    · replace E := (if_of E).1 c8
      refine Rn.sub [1, 2, 3, 4, 5, 0] rfl ?_
      exact f_Cistern_giveMost_b61_ok hst hd  hk19 E
    · replace E := (if_of E).2 c8
      refine Rn.aload_n (pc' := 45) dX0_giveMost_44 rfl 1 rfl rfl ?_
      obtain ⟨g9, E⟩ := gd_of E
      refine Rn.getR (pc' := 48) fl_X0_9_0 g9 rfl dX0_giveMost_45 rfl ?_
      refine Rn.iload (pc' := 50) dX0_giveMost_48 5 rfl rfl ?_
      obtain ⟨g10, E⟩ := gd_of E
      obtain ⟨g11, E⟩ := gd_of E
      refine Rn.iald (pc' := 51) g10 g11 dX0_giveMost_50 rfl ?_
      refine Rn.iload_n (pc' := 52) dX0_giveMost_51 rfl 3 rfl rfl ?_
      refine Rn.icmp_lt (pc' := 55) (tgt := 61) dX0_giveMost_52 (by decide) rfl (fun c12 => ?_) (fun c12 => ?_)
      · replace E := (if_of E).1 c12
        refine Rn.sub [1, 2, 3, 4, 5, 0] rfl ?_
        exact f_Cistern_giveMost_b61_ok hst hd  hk19 E
      · replace E := (if_of E).2 c12
        refine Rn.iinc (pc' := 58) (v := (v5 + (1 : Int32))) (L' := [(6, .int (v5 + (1 : Int32))), (0, .ref x0), (1, .ref x1), (3, .int x3), (4, .int x4), (5, .int x5)]) dX0_giveMost_55 0 rfl rfl (by decide) rfl rfl ?_
        refine Rn.iinc (pc' := 61) (v := (x4 + (-1 : Int32))) (L' := [(4, .int (x4 + (-1 : Int32))), (6, .int (v5 + (1 : Int32))), (0, .ref x0), (1, .ref x1), (3, .int x3), (5, .int x5)]) dX0_giveMost_58 4 rfl rfl (by decide) rfl rfl ?_
        refine Rn.sub [2, 3, 4, 0, 5, 1] rfl ?_
        exact f_Cistern_giveMost_b61_ok hst hd  hk19 E
def f_Cistern_giveMost_L19   (n : Nat) : Hp → Nat → Nat → Int32 → Int32 → Int32 → Option (Hp) := Nat.rec (motive := fun _ => Hp → Nat → Nat → Int32 → Int32 → Int32 → Option (Hp)) (fun _ _ _ _ _ _ => none) (fun _ rec => f_Cistern_giveMost_b19   rec) n
theorem f_Cistern_giveMost_L19_ok {l : Launch} {X : Nat × (Nat → Int32)} (hst : l.stackTraces = false) {d : Nat} (hd : 2 ≤ d)     : ∀ (n : Nat) (h : Hp) (x0 : Nat) (x1 : Nat) (x3 : Int32) (x4 : Int32) (x5 : Int32)  (r : Hp), f_Cistern_giveMost_L19   n h x0 x1 x3 x4 x5 = some r → Rn l X mX0_giveMost d 19 [(0, .ref x0), (1, .ref x1), (3, .int x3), (4, .int x4), (5, .int x5)] [] h (eV r) r := by
  intro n
  induction n with
  | zero => intro h x0 x1 x3 x4 x5 r E; cases E
  | succ n ih => intro h x0 x1 x3 x4 x5 r E; exact f_Cistern_giveMost_b19_ok hst hd   ih E
theorem kb_X0_57 : KB RX0 57 yX0_levelFor mX0_levelFor 1 := ⟨gw_at 563 (by decide +kernel) (by decide +kernel), gw_at 114 (by decide +kernel) (by decide +kernel), trivial, ws_X0_levelFor, by decide +kernel, by decide +kernel, by decide +kernel, by decide⟩
theorem ki_X0_levelFor : Cond.instanceMethod yX0_levelFor ∈ gw ∧ Cond.selects yX0_levelFor.cls yX0_levelFor yX0_levelFor ∈ gw := ⟨gw_at 565 (by decide +kernel) (by decide +kernel), gw_at 0 (by decide +kernel) (by decide +kernel)⟩
def f_Cistern_giveMost_b0   (h : Hp) (x0 : Nat) (x1 : Nat) (x2 : Int32)  : Option (Hp) :=
if hS h x0 = 1 then (
bI (f_Cistern_levelFor h x0 x2) fun v2 h3 =>
if hS h3 x0 = 1 then (
bI (f_Cistern_measuresAbove h3 x0 v2) fun v6 h7 =>
f_Cistern_giveMost_L19   FU h7 x0 x1 v2 (x2 - v6) (29 : Int32)
) else none) else none
set_option maxRecDepth 20000 in
set_option maxHeartbeats 4000000 in
theorem f_Cistern_giveMost_b0_ok {l : Launch} {X : Nat × (Nat → Int32)} (hst : l.stackTraces = false) {d : Nat} (hd : 2 ≤ d)     {h : Hp} {x0 : Nat} {x1 : Nat} {x2 : Int32}  {r : Hp} (E : f_Cistern_giveMost_b0   h x0 x1 x2 = some r) : Rn l X mX0_giveMost d 0 [(0, .ref x0), (1, .ref x1), (2, .int x2)] [] h (eV r) r := by
  unfold f_Cistern_giveMost_b0 at E
  refine Rn.aload_n (pc' := 1) dX0_giveMost_0 rfl 0 rfl rfl ?_
  refine Rn.iload_n (pc' := 2) dX0_giveMost_1 rfl 2 rfl rfl ?_
  obtain ⟨g1, E⟩ := gd_of E
  obtain ⟨v2, h3, e4, E⟩ := bI_of E
  refine Rn.callV1 (pc' := 5) (As := [.int x2]) (rest := []) (f_Cistern_levelFor_ok hst e4) (Nat.le_trans (by decide) hd) rfl kb_X0_57 ki_X0_levelFor rfl g1 rfl rfl (Nat.le_of_ble_eq_true rfl) dX0_giveMost_2 rfl rfl ?_
  refine Rn.istore_n (pc' := 6) (L' := [(3, .int v2), (0, .ref x0), (1, .ref x1), (2, .int x2)]) dX0_giveMost_5 rfl (by decide) rfl rfl ?_
  refine Rn.iload_n (pc' := 7) dX0_giveMost_6 rfl 3 rfl rfl ?_
  refine Rn.aload_n (pc' := 8) dX0_giveMost_7 rfl 1 rfl rfl ?_
  refine Rn.iload_n (pc' := 9) dX0_giveMost_8 rfl 0 rfl rfl ?_
  obtain ⟨g5, E⟩ := gd_of E
  obtain ⟨v6, h7, e8, E⟩ := bI_of E
  refine Rn.callV1 (pc' := 12) (As := [.int v2]) (rest := [.int x2]) (f_Cistern_measuresAbove_ok hst e8) (Nat.le_trans (by decide) hd) rfl kb_X0_61 ki_X0_measuresAbove rfl g5 rfl rfl (Nat.le_of_ble_eq_true rfl) dX0_giveMost_9 rfl rfl ?_
  refine Rn.isub (pc' := 13) dX0_giveMost_12 rfl ?_
  refine Rn.istore (pc' := 15) (L' := [(4, .int (x2 - v6)), (3, .int v2), (0, .ref x0), (1, .ref x1), (2, .int x2)]) dX0_giveMost_13 (by decide) rfl rfl ?_
  refine Rn.bipush (pc' := 17) (v := (29 : Int32)) (hv := by decide) dX0_giveMost_15 rfl ?_
  refine Rn.istore (pc' := 19) (L' := [(5, .int (29 : Int32)), (4, .int (x2 - v6)), (3, .int v2), (0, .ref x0), (1, .ref x1), (2, .int x2)]) dX0_giveMost_17 (by decide) rfl rfl ?_
  refine Rn.sub [3, 4, 2, 1, 0] rfl ?_
  exact f_Cistern_giveMost_L19_ok hst hd   FU _ _ _ _ _ _ _ E
def f_Cistern_giveMost (h : Hp) (x0 : Nat) (x1 : Nat) (x2 : Int32) : Option (Hp) := f_Cistern_giveMost_b0 h x0 x1 x2
theorem f_Cistern_giveMost_ok {l : Launch} {X : Nat × (Nat → Int32)} (hst : l.stackTraces = false) {h : Hp} {x0 : Nat} {x1 : Nat} {x2 : Int32} {r : Hp} (E : f_Cistern_giveMost h x0 x1 x2 = some r) : MC l X yX0_giveMost mX0_giveMost 2 [.ref x0, .ref x1, .int x2] h (eV r) r :=
  MC.body (by decide +kernel) rfl (by decide) hst (Nat.le_of_ble_eq_true rfl) (f_Cistern_giveMost_b0_ok hst (Nat.le_refl _) E)
