/-! ===== by program out of the bytecode (wip/whole/gen/emit.py) ===== -/
abbrev mX11_lastsNow : MI := (RX11, cX11_lastsNow, 2, (some Jvm.ClassFile.FieldType.int), [], false)
theorem ws_X11_lastsNow : ∀ w ∈ wsM yX11_lastsNow mX11_lastsNow, w ∈ gw := List.forall_mem_cons.mpr ⟨gw_at 1844 (by decide +kernel) (by decide +kernel), fun _ h => h⟩
def f_Model_lastsNow_b36   (h : Hp) (x0 : Nat) (x1 : Int32)  : Option (Int32 × Hp) :=
if hS h x0 = 11 then (
bV (f_Model_laysBack h x0) fun h3 =>
some (x1, h3)
) else none
set_option maxRecDepth 20000 in
set_option maxHeartbeats 4000000 in
theorem f_Model_lastsNow_b36_ok {l : Launch} {X : Nat × (Nat → Int32)} (hst : l.stackTraces = false) {d : Nat} (hd : 8 ≤ d)     {h : Hp} {x0 : Nat} {x1 : Int32}  {r : Int32 × Hp} (E : f_Model_lastsNow_b36   h x0 x1 = some r) : Rn l X mX11_lastsNow d 36 [(0, .ref x0), (1, .int x1)] [] h (eI r) r.2 := by
  unfold f_Model_lastsNow_b36 at E
  refine Rn.aload_n (pc' := 37) dX11_lastsNow_36 rfl 0 rfl rfl ?_
  obtain ⟨g1, E⟩ := gd_of E
  obtain ⟨h3, e4, E⟩ := bV_of E
  refine Rn.callV1 (pc' := 40) (As := []) (rest := []) (f_Model_laysBack_ok hst e4) (Nat.le_trans (by decide) hd) rfl kb_X11_335 ki_X11_laysBack rfl g1 rfl rfl (Nat.le_of_ble_eq_true rfl) dX11_lastsNow_37 rfl rfl ?_
  refine Rn.iload_n (pc' := 41) dX11_lastsNow_40 rfl 1 rfl rfl ?_
  cases E
  exact Rn.zret rfl rfl dX11_lastsNow_41
def f_Model_lastsNow_b25   (h : Hp) (x0 : Nat) (x1 : Int32)  : Option (Int32 × Hp) :=
if x1 = (60 : Int32) then (
if hS h x0 = 11 then (
wr (sI h x0 18 (-1 : Int32)) fun h3 =>
f_Model_lastsNow_b36   h3 x0 x1
) else none
) else (
f_Model_lastsNow_b36   h x0 x1

)

set_option maxRecDepth 20000 in
set_option maxHeartbeats 4000000 in
theorem f_Model_lastsNow_b25_ok {l : Launch} {X : Nat × (Nat → Int32)} (hst : l.stackTraces = false) {d : Nat} (hd : 8 ≤ d)     {h : Hp} {x0 : Nat} {x1 : Int32}  {r : Int32 × Hp} (E : f_Model_lastsNow_b25   h x0 x1 = some r) : Rn l X mX11_lastsNow d 25 [(0, .ref x0), (1, .int x1)] [] h (eI r) r.2 := by
  unfold f_Model_lastsNow_b25 at E
  refine Rn.iload_n (pc' := 26) dX11_lastsNow_25 rfl 1 rfl rfl ?_
  refine Rn.bipush (pc' := 28) (v := (60 : Int32)) (hv := by decide) dX11_lastsNow_26 rfl ?_
  refine Rn.icmp_ne (pc' := 31) (tgt := 36) dX11_lastsNow_28 (by decide) rfl (fun c1 => ?_) (fun c1 => ?_)
  · replace E := (if_of E).2 c1
    exact f_Model_lastsNow_b36_ok hst hd   E
  · replace E := (if_of E).1 c1
    refine Rn.aload_n (pc' := 32) dX11_lastsNow_31 rfl 0 rfl rfl ?_
    refine Rn.iconst (pc' := 33) (v := (-1 : Int32)) (hv := by decide) dX11_lastsNow_32 rfl ?_
    obtain ⟨g2, E⟩ := gd_of E
    refine Rn.putI (pc' := 36) fl_X11_315_10 (fun q hq => by cases hq; decide) g2 rfl rfl rfl dX11_lastsNow_33 rfl ?_
    replace E := wr_of E
    generalize eh4 : sI h x0 18 (-1 : Int32) = h3 at E ⊢
    exact f_Model_lastsNow_b36_ok hst hd   E
def f_Model_lastsNow_b6  (k6 : Hp → Nat → Int32 → Option (Int32 × Hp)) (h : Hp) (x0 : Nat) (x1 : Int32)  : Option (Int32 × Hp) :=
if (60 : Int32) ≤ x1 then (
f_Model_lastsNow_b25   h x0 x1

) else (
if hS h x0 = 11 then (
bI (f_Model_month h x0) fun v3 h4 =>
if v3 = 0 then (
k6 h4 x0 (x1 + (1 : Int32))

) else (
f_Model_lastsNow_b25   h4 x0 x1

)
) else none
)

set_option maxRecDepth 20000 in
set_option maxHeartbeats 4000000 in
theorem f_Model_lastsNow_b6_ok {l : Launch} {X : Nat × (Nat → Int32)} (hst : l.stackTraces = false) {d : Nat} (hd : 8 ≤ d)   {k6 : Hp → Nat → Int32 → Option (Int32 × Hp)} (hk6 : ∀ (h : Hp) (x0 : Nat) (x1 : Int32)  (r : Int32 × Hp), k6 h x0 x1 = some r → Rn l X mX11_lastsNow d 6 [(0, .ref x0), (1, .int x1)] [] h (eI r) r.2) {h : Hp} {x0 : Nat} {x1 : Int32}  {r : Int32 × Hp} (E : f_Model_lastsNow_b6  k6 h x0 x1 = some r) : Rn l X mX11_lastsNow d 6 [(0, .ref x0), (1, .int x1)] [] h (eI r) r.2 := by
  unfold f_Model_lastsNow_b6 at E
  refine Rn.iload_n (pc' := 7) dX11_lastsNow_6 rfl 1 rfl rfl ?_
  refine Rn.bipush (pc' := 9) (v := (60 : Int32)) (hv := by decide) dX11_lastsNow_7 rfl ?_
  refine Rn.icmp_ge (pc' := 12) (tgt := 25) dX11_lastsNow_9 (by decide) rfl (fun c1 => ?_) (fun c1 => ?_)
  · replace E := (if_of E).1 c1
    exact f_Model_lastsNow_b25_ok hst hd   E
  · replace E := (if_of E).2 c1
    refine Rn.aload_n (pc' := 13) dX11_lastsNow_12 rfl 0 rfl rfl ?_
    obtain ⟨g2, E⟩ := gd_of E
    obtain ⟨v3, h4, e5, E⟩ := bI_of E
    refine Rn.callV1 (pc' := 16) (As := []) (rest := []) (f_Model_month_ok hst e5) (Nat.le_trans (by decide) hd) rfl kb_X11_327 ki_X11_month rfl g2 rfl rfl (Nat.le_of_ble_eq_true rfl) dX11_lastsNow_13 rfl rfl ?_
    refine Rn.if_ne (pc' := 19) (tgt := 25) dX11_lastsNow_16 (by decide) rfl (fun c6 => ?_) (fun c6 => ?_)
    · replace E := (if_of E).2 c6
      exact f_Model_lastsNow_b25_ok hst hd   E
    · replace E := (if_of E).1 c6
      refine Rn.iinc (pc' := 22) (v := (x1 + (1 : Int32))) (L' := [(1, .int (x1 + (1 : Int32))), (0, .ref x0)]) dX11_lastsNow_19 1 rfl rfl (by decide) rfl rfl ?_
      refine Rn.goto (pc' := 6) dX11_lastsNow_22 (by decide) ?_
      refine Rn.sub [1, 0] rfl ?_
      exact hk6 _ _ _ _ E
def f_Model_lastsNow_L6   (n : Nat) : Hp → Nat → Int32 → Option (Int32 × Hp) := Nat.rec (motive := fun _ => Hp → Nat → Int32 → Option (Int32 × Hp)) (fun _ _ _ => none) (fun _ rec => f_Model_lastsNow_b6   rec) n
theorem f_Model_lastsNow_L6_ok {l : Launch} {X : Nat × (Nat → Int32)} (hst : l.stackTraces = false) {d : Nat} (hd : 8 ≤ d)     : ∀ (n : Nat) (h : Hp) (x0 : Nat) (x1 : Int32)  (r : Int32 × Hp), f_Model_lastsNow_L6   n h x0 x1 = some r → Rn l X mX11_lastsNow d 6 [(0, .ref x0), (1, .int x1)] [] h (eI r) r.2 := by
  intro n
  induction n with
  | zero => intro h x0 x1 r E; cases E
  | succ n ih => intro h x0 x1 r E; exact f_Model_lastsNow_b6_ok hst hd   ih E
def f_Model_lastsNow_b0   (h : Hp) (x0 : Nat)  : Option (Int32 × Hp) :=
if hS h x0 = 11 then (
bV (f_Model_keeps h x0) fun h3 =>
f_Model_lastsNow_L6   FU h3 x0 (0 : Int32)
) else none
set_option maxRecDepth 20000 in
set_option maxHeartbeats 4000000 in
theorem f_Model_lastsNow_b0_ok {l : Launch} {X : Nat × (Nat → Int32)} (hst : l.stackTraces = false) {d : Nat} (hd : 8 ≤ d)     {h : Hp} {x0 : Nat}  {r : Int32 × Hp} (E : f_Model_lastsNow_b0   h x0 = some r) : Rn l X mX11_lastsNow d 0 [(0, .ref x0)] [] h (eI r) r.2 := by
  unfold f_Model_lastsNow_b0 at E
  refine Rn.aload_n (pc' := 1) dX11_lastsNow_0 rfl 0 rfl rfl ?_
  obtain ⟨g1, E⟩ := gd_of E
  obtain ⟨h3, e4, E⟩ := bV_of E
  refine Rn.callV1 (pc' := 4) (As := []) (rest := []) (f_Model_keeps_ok hst e4) (Nat.le_trans (by decide) hd) rfl kb_X11_332 ki_X11_keeps rfl g1 rfl rfl (Nat.le_of_ble_eq_true rfl) dX11_lastsNow_1 rfl rfl ?_
  refine Rn.iconst (pc' := 5) (v := (0 : Int32)) (hv := by decide) dX11_lastsNow_4 rfl ?_
  refine Rn.istore_n (pc' := 6) (L' := [(1, .int (0 : Int32)), (0, .ref x0)]) dX11_lastsNow_5 rfl (by decide) rfl rfl ?_
  refine Rn.sub [1, 0] rfl ?_
  exact f_Model_lastsNow_L6_ok hst hd   FU _ _ _ _ E
def f_Model_lastsNow (h : Hp) (x0 : Nat) : Option (Int32 × Hp) := f_Model_lastsNow_b0  h x0
theorem f_Model_lastsNow_ok {l : Launch} {X : Nat × (Nat → Int32)} (hst : l.stackTraces = false) {h : Hp} {x0 : Nat} {r : Int32 × Hp} (E : f_Model_lastsNow h x0 = some r) : MC l X yX11_lastsNow mX11_lastsNow 8 [.ref x0] h (eI r) r.2 :=
  MC.body (by decide +kernel) rfl (by decide) hst (Nat.le_of_ble_eq_true rfl) (f_Model_lastsNow_b0_ok hst (Nat.le_refl _) E)
abbrev mX11_worst : MI := (RX11, cX11_worst, 1, (some Jvm.ClassFile.FieldType.int), [], false)
theorem ws_X11_worst : ∀ w ∈ wsM yX11_worst mX11_worst, w ∈ gw := List.forall_mem_cons.mpr ⟨gw_at 1856 (by decide +kernel) (by decide +kernel), fun _ h => h⟩
theorem kb_X11_338 : KB RX11 338 yX11_lastsNow mX11_lastsNow 0 := ⟨gw_at 1841 (by decide +kernel) (by decide +kernel), gw_at 117 (by decide +kernel) (by decide +kernel), trivial, ws_X11_lastsNow, by decide +kernel, by decide +kernel, by decide +kernel, by decide⟩
theorem ki_X11_lastsNow : Cond.instanceMethod yX11_lastsNow ∈ gw ∧ Cond.selects yX11_lastsNow.cls yX11_lastsNow yX11_lastsNow ∈ gw := ⟨gw_at 1843 (by decide +kernel) (by decide +kernel), gw_at 97 (by decide +kernel) (by decide +kernel)⟩
def f_Model_worst_b0   (h : Hp) (x0 : Nat)  : Option (Int32 × Hp) :=
if hS h x0 = 11 then (
wr (sI h x0 0 (0 : Int32)) fun h2 =>
bI (f_Model_lastsNow h2 x0) fun v4 h5 =>
if hS h5 x0 = 11 then (
some ((hI h5 x0 18), h5)
) else none) else none
set_option maxRecDepth 20000 in
set_option maxHeartbeats 4000000 in
theorem f_Model_worst_b0_ok {l : Launch} {X : Nat × (Nat → Int32)} (hst : l.stackTraces = false) {d : Nat} (hd : 9 ≤ d)     {h : Hp} {x0 : Nat}  {r : Int32 × Hp} (E : f_Model_worst_b0   h x0 = some r) : Rn l X mX11_worst d 0 [(0, .ref x0)] [] h (eI r) r.2 := by
  unfold f_Model_worst_b0 at E
  refine Rn.aload_n (pc' := 1) dX11_worst_0 rfl 0 rfl rfl ?_
  refine Rn.iconst (pc' := 2) (v := (0 : Int32)) (hv := by decide) dX11_worst_1 rfl ?_
  obtain ⟨g1, E⟩ := gd_of E
  refine Rn.putI (pc' := 5) fl_X11_3_10 (fun q hq => by cases hq; decide) g1 rfl rfl rfl dX11_worst_2 rfl ?_
  replace E := wr_of E
  generalize eh3 : sI h x0 0 (0 : Int32) = h2 at E ⊢
  refine Rn.aload_n (pc' := 6) dX11_worst_5 rfl 0 rfl rfl ?_
  obtain ⟨v4, h5, e6, E⟩ := bI_of E
  refine Rn.callV1 (pc' := 9) (As := []) (rest := []) (f_Model_lastsNow_ok hst e6) (Nat.le_trans (by decide) hd) rfl kb_X11_338 ki_X11_lastsNow rfl (kp_sI eh3 g1) rfl rfl (Nat.le_of_ble_eq_true rfl) dX11_worst_6 rfl rfl ?_
  refine Rn.pop (pc' := 10) (hc := rfl) dX11_worst_9 rfl ?_
  refine Rn.aload_n (pc' := 11) dX11_worst_10 rfl 0 rfl rfl ?_
  obtain ⟨g7, E⟩ := gd_of E
  refine Rn.getI (pc' := 14) fl_X11_315_10 g7 rfl dX11_worst_11 rfl ?_
  cases E
  exact Rn.zret rfl rfl dX11_worst_14
def f_Model_worst (h : Hp) (x0 : Nat) : Option (Int32 × Hp) := f_Model_worst_b0  h x0
theorem f_Model_worst_ok {l : Launch} {X : Nat × (Nat → Int32)} (hst : l.stackTraces = false) {h : Hp} {x0 : Nat} {r : Int32 × Hp} (E : f_Model_worst h x0 = some r) : MC l X yX11_worst mX11_worst 9 [.ref x0] h (eI r) r.2 :=
  MC.body (by decide +kernel) rfl (by decide) hst (Nat.le_of_ble_eq_true rfl) (f_Model_worst_b0_ok hst (Nat.le_refl _) E)
abbrev mX10_lasts : MI := (RX10, cX10_lasts, 1, (some Jvm.ClassFile.FieldType.int), [], false)
theorem ws_X10_lasts : ∀ w ∈ wsM yX10_lasts mX10_lasts, w ∈ gw := List.forall_mem_cons.mpr ⟨gw_at 534 (by decide +kernel) (by decide +kernel), fun _ h => h⟩
def f_Water_lasts_b0   (h : Hp) (x0 : Nat)  : Option (Int32 × Hp) :=
if hS h x0 = 10 then (
if hS h (hR h x0 5) = 4 then (
bV (f_Land_copyFrom h (hR h x0 5) (hR h x0 4)) fun h4 =>
if hS h4 x0 = 10 then (
if hS h4 (hR h4 x0 5) = 4 then (
bI (f_Land_passQuietMonths h4 (hR h4 x0 5) (60 : Int32)) fun v8 h9 =>
some (v8, h9)
) else none) else none) else none) else none
set_option maxRecDepth 20000 in
set_option maxHeartbeats 4000000 in
theorem f_Water_lasts_b0_ok {l : Launch} {X : Nat × (Nat → Int32)} (hst : l.stackTraces = false) {d : Nat} (hd : 7 ≤ d)     {h : Hp} {x0 : Nat}  {r : Int32 × Hp} (E : f_Water_lasts_b0   h x0 = some r) : Rn l X mX10_lasts d 0 [(0, .ref x0)] [] h (eI r) r.2 := by
  unfold f_Water_lasts_b0 at E
  refine Rn.aload_n (pc' := 1) dX10_lasts_0 rfl 0 rfl rfl ?_
  obtain ⟨g1, E⟩ := gd_of E
  refine Rn.getR (pc' := 4) fl_X10_46_9 g1 rfl dX10_lasts_1 rfl ?_
  refine Rn.aload_n (pc' := 5) dX10_lasts_4 rfl 0 rfl rfl ?_
  refine Rn.getR (pc' := 8) fl_X10_42_9 g1 rfl dX10_lasts_5 rfl ?_
  obtain ⟨g2, E⟩ := gd_of E
  obtain ⟨h4, e5, E⟩ := bV_of E
  refine Rn.callV1 (pc' := 11) (As := [.ref (hR h x0 4)]) (rest := []) (f_Land_copyFrom_ok hst e5) (Nat.le_trans (by decide) hd) rfl kb_X10_219 ki_X3_copyFrom rfl g2 rfl rfl (Nat.le_of_ble_eq_true rfl) dX10_lasts_8 rfl rfl ?_
  refine Rn.aload_n (pc' := 12) dX10_lasts_11 rfl 0 rfl rfl ?_
  obtain ⟨g6, E⟩ := gd_of E
  refine Rn.getR (pc' := 15) fl_X10_46_9 g6 rfl dX10_lasts_12 rfl ?_
  refine Rn.bipush (pc' := 17) (v := (60 : Int32)) (hv := by decide) dX10_lasts_15 rfl ?_
  obtain ⟨g7, E⟩ := gd_of E
  obtain ⟨v8, h9, e10, E⟩ := bI_of E
  refine Rn.callV1 (pc' := 20) (As := [.int (60 : Int32)]) (rest := []) (f_Land_passQuietMonths_ok hst e10) (Nat.le_trans (by decide) hd) rfl kb_X10_251 ki_X3_passQuietMonths rfl g7 rfl rfl (Nat.le_of_ble_eq_true rfl) dX10_lasts_17 rfl rfl ?_
  cases E
  exact Rn.zret rfl rfl dX10_lasts_20
def f_Water_lasts (h : Hp) (x0 : Nat) : Option (Int32 × Hp) := f_Water_lasts_b0  h x0
theorem f_Water_lasts_ok {l : Launch} {X : Nat × (Nat → Int32)} (hst : l.stackTraces = false) {h : Hp} {x0 : Nat} {r : Int32 × Hp} (E : f_Water_lasts h x0 = some r) : MC l X yX10_lasts mX10_lasts 7 [.ref x0] h (eI r) r.2 :=
  MC.body (by decide +kernel) rfl (by decide) hst (Nat.le_of_ble_eq_true rfl) (f_Water_lasts_b0_ok hst (Nat.le_refl _) E)
abbrev mX11_lasts : MI := (RX11, cX11_lasts, 1, (some Jvm.ClassFile.FieldType.int), [], false)
theorem ws_X11_lasts : ∀ w ∈ wsM yX11_lasts mX11_lasts, w ∈ gw := List.forall_mem_cons.mpr ⟨gw_at 1840 (by decide +kernel) (by decide +kernel), fun _ h => h⟩
def f_Model_lasts_b0   (h : Hp) (x0 : Nat)  : Option (Int32 × Hp) :=
if hS h x0 = 11 then (
wr (sI h x0 0 (0 : Int32)) fun h2 =>
bI (f_Model_lastsNow h2 x0) fun v4 h5 =>
some (v4, h5)
) else none
set_option maxRecDepth 20000 in
set_option maxHeartbeats 4000000 in
theorem f_Model_lasts_b0_ok {l : Launch} {X : Nat × (Nat → Int32)} (hst : l.stackTraces = false) {d : Nat} (hd : 9 ≤ d)     {h : Hp} {x0 : Nat}  {r : Int32 × Hp} (E : f_Model_lasts_b0   h x0 = some r) : Rn l X mX11_lasts d 0 [(0, .ref x0)] [] h (eI r) r.2 := by
  unfold f_Model_lasts_b0 at E
  refine Rn.aload_n (pc' := 1) dX11_lasts_0 rfl 0 rfl rfl ?_
  refine Rn.iconst (pc' := 2) (v := (0 : Int32)) (hv := by decide) dX11_lasts_1 rfl ?_
  obtain ⟨g1, E⟩ := gd_of E
  refine Rn.putI (pc' := 5) fl_X11_3_10 (fun q hq => by cases hq; decide) g1 rfl rfl rfl dX11_lasts_2 rfl ?_
  replace E := wr_of E
  generalize eh3 : sI h x0 0 (0 : Int32) = h2 at E ⊢
  refine Rn.aload_n (pc' := 6) dX11_lasts_5 rfl 0 rfl rfl ?_
  obtain ⟨v4, h5, e6, E⟩ := bI_of E
  refine Rn.callV1 (pc' := 9) (As := []) (rest := []) (f_Model_lastsNow_ok hst e6) (Nat.le_trans (by decide) hd) rfl kb_X11_338 ki_X11_lastsNow rfl (kp_sI eh3 g1) rfl rfl (Nat.le_of_ble_eq_true rfl) dX11_lasts_6 rfl rfl ?_
  cases E
  exact Rn.zret rfl rfl dX11_lasts_9
def f_Model_lasts (h : Hp) (x0 : Nat) : Option (Int32 × Hp) := f_Model_lasts_b0  h x0
theorem f_Model_lasts_ok {l : Launch} {X : Nat × (Nat → Int32)} (hst : l.stackTraces = false) {h : Hp} {x0 : Nat} {r : Int32 × Hp} (E : f_Model_lasts h x0 = some r) : MC l X yX11_lasts mX11_lasts 9 [.ref x0] h (eI r) r.2 :=
  MC.body (by decide +kernel) rfl (by decide) hst (Nat.le_of_ble_eq_true rfl) (f_Model_lasts_b0_ok hst (Nat.le_refl _) E)
abbrev mX3_saltSum : MI := (RX3, cX3_saltSum, 4, (some Jvm.ClassFile.FieldType.int), [], false)
theorem ws_X3_saltSum : ∀ w ∈ wsM yX3_saltSum mX3_saltSum, w ∈ gw := List.forall_mem_cons.mpr ⟨gw_at 1137 (by decide +kernel) (by decide +kernel), fun _ h => h⟩
def f_Land_saltSum_b4  (k4 : Hp → Nat → Nat → Int32 → Int32 → Option (Int32 × Hp)) (h : Hp) (x0 : Nat) (x1 : Nat) (x2 : Int32) (x3 : Int32)  : Option (Int32 × Hp) :=
if (30 : Int32) ≤ x3 then (
some (x2, h)

) else (
if hS h x1 = 1 then (
if hS h (hR h x1 6) = 20 then (
if ib x3 (hL h (hR h x1 6)) = true then (
if hS h x0 = 4 then (
if hS h (hR h x0 6) = 20 then (
if ib x3 (hL h (hR h x0 6)) = true then (
k4 h x0 x1 (x2 + ((hI h (hR h x1 6) (ix x3)) * (hI h (hR h x0 6) (ix x3)))) (x3 + (1 : Int32))
) else none) else none) else none) else none) else none) else none
)

set_option maxRecDepth 20000 in
set_option maxHeartbeats 4000000 in
theorem f_Land_saltSum_b4_ok {l : Launch} {X : Nat × (Nat → Int32)} (hst : l.stackTraces = false) {d : Nat} (hd : 0 ≤ d)   {k4 : Hp → Nat → Nat → Int32 → Int32 → Option (Int32 × Hp)} (hk4 : ∀ (h : Hp) (x0 : Nat) (x1 : Nat) (x2 : Int32) (x3 : Int32)  (r : Int32 × Hp), k4 h x0 x1 x2 x3 = some r → Rn l X mX3_saltSum d 4 [(0, .ref x0), (1, .ref x1), (2, .int x2), (3, .int x3)] [] h (eI r) r.2) {h : Hp} {x0 : Nat} {x1 : Nat} {x2 : Int32} {x3 : Int32}  {r : Int32 × Hp} (E : f_Land_saltSum_b4  k4 h x0 x1 x2 x3 = some r) : Rn l X mX3_saltSum d 4 [(0, .ref x0), (1, .ref x1), (2, .int x2), (3, .int x3)] [] h (eI r) r.2 := by
  unfold f_Land_saltSum_b4 at E
  refine Rn.iload_n (pc' := 5) dX3_saltSum_4 rfl 3 rfl rfl ?_
  refine Rn.bipush (pc' := 7) (v := (30 : Int32)) (hv := by decide) dX3_saltSum_5 rfl ?_
  refine Rn.icmp_ge (pc' := 10) (tgt := 32) dX3_saltSum_7 (by decide) rfl (fun c1 => ?_) (fun c1 => ?_)
  · replace E := (if_of E).1 c1
    refine Rn.iload_n (pc' := 33) dX3_saltSum_32 rfl 2 rfl rfl ?_
    cases E
    exact Rn.zret rfl rfl dX3_saltSum_33
  · replace E := (if_of E).2 c1
    refine Rn.iload_n (pc' := 11) dX3_saltSum_10 rfl 2 rfl rfl ?_
    refine Rn.aload_n (pc' := 12) dX3_saltSum_11 rfl 1 rfl rfl ?_
    obtain ⟨g2, E⟩ := gd_of E
    refine Rn.getR (pc' := 15) fl_X3_190_0 g2 rfl dX3_saltSum_12 rfl ?_
    refine Rn.iload_n (pc' := 16) dX3_saltSum_15 rfl 3 rfl rfl ?_
    obtain ⟨g3, E⟩ := gd_of E
    obtain ⟨g4, E⟩ := gd_of E
    refine Rn.iald (pc' := 17) g3 g4 dX3_saltSum_16 rfl ?_
    refine Rn.aload_n (pc' := 18) dX3_saltSum_17 rfl 0 rfl rfl ?_
    obtain ⟨g5, E⟩ := gd_of E
    refine Rn.getR (pc' := 21) fl_X3_29_3 g5 rfl dX3_saltSum_18 rfl ?_
    refine Rn.iload_n (pc' := 22) dX3_saltSum_21 rfl 3 rfl rfl ?_
    obtain ⟨g6, E⟩ := gd_of E
    obtain ⟨g7, E⟩ := gd_of E
    refine Rn.iald (pc' := 23) g6 g7 dX3_saltSum_22 rfl ?_
    refine Rn.imul (pc' := 24) dX3_saltSum_23 rfl ?_
    refine Rn.iadd (pc' := 25) dX3_saltSum_24 rfl ?_
    refine Rn.istore_n (pc' := 26) (L' := [(2, .int (x2 + ((hI h (hR h x1 6) (ix x3)) * (hI h (hR h x0 6) (ix x3))))), (0, .ref x0), (1, .ref x1), (3, .int x3)]) dX3_saltSum_25 rfl (by decide) rfl rfl ?_
    refine Rn.iinc (pc' := 29) (v := (x3 + (1 : Int32))) (L' := [(3, .int (x3 + (1 : Int32))), (2, .int (x2 + ((hI h (hR h x1 6) (ix x3)) * (hI h (hR h x0 6) (ix x3))))), (0, .ref x0), (1, .ref x1)]) dX3_saltSum_26 3 rfl rfl (by decide) rfl rfl ?_
    refine Rn.goto (pc' := 4) dX3_saltSum_29 (by decide) ?_
    refine Rn.sub [2, 3, 1, 0] rfl ?_
    exact hk4 _ _ _ _ _ _ E
def f_Land_saltSum_L4   (n : Nat) : Hp → Nat → Nat → Int32 → Int32 → Option (Int32 × Hp) := Nat.rec (motive := fun _ => Hp → Nat → Nat → Int32 → Int32 → Option (Int32 × Hp)) (fun _ _ _ _ _ => none) (fun _ rec => f_Land_saltSum_b4   rec) n
theorem f_Land_saltSum_L4_ok {l : Launch} {X : Nat × (Nat → Int32)} (hst : l.stackTraces = false) {d : Nat} (hd : 0 ≤ d)     : ∀ (n : Nat) (h : Hp) (x0 : Nat) (x1 : Nat) (x2 : Int32) (x3 : Int32)  (r : Int32 × Hp), f_Land_saltSum_L4   n h x0 x1 x2 x3 = some r → Rn l X mX3_saltSum d 4 [(0, .ref x0), (1, .ref x1), (2, .int x2), (3, .int x3)] [] h (eI r) r.2 := by
  intro n
  induction n with
  | zero => intro h x0 x1 x2 x3 r E; cases E
  | succ n ih => intro h x0 x1 x2 x3 r E; exact f_Land_saltSum_b4_ok hst hd   ih E
def f_Land_saltSum_b0   (h : Hp) (x0 : Nat) (x1 : Nat)  : Option (Int32 × Hp) :=
f_Land_saltSum_L4   FU h x0 x1 (0 : Int32) (0 : Int32)

set_option maxRecDepth 20000 in
set_option maxHeartbeats 4000000 in
theorem f_Land_saltSum_b0_ok {l : Launch} {X : Nat × (Nat → Int32)} (hst : l.stackTraces = false) {d : Nat} (hd : 0 ≤ d)     {h : Hp} {x0 : Nat} {x1 : Nat}  {r : Int32 × Hp} (E : f_Land_saltSum_b0   h x0 x1 = some r) : Rn l X mX3_saltSum d 0 [(0, .ref x0), (1, .ref x1)] [] h (eI r) r.2 := by
  unfold f_Land_saltSum_b0 at E
  refine Rn.iconst (pc' := 1) (v := (0 : Int32)) (hv := by decide) dX3_saltSum_0 rfl ?_
  refine Rn.istore_n (pc' := 2) (L' := [(2, .int (0 : Int32)), (0, .ref x0), (1, .ref x1)]) dX3_saltSum_1 rfl (by decide) rfl rfl ?_
  refine Rn.iconst (pc' := 3) (v := (0 : Int32)) (hv := by decide) dX3_saltSum_2 rfl ?_
  refine Rn.istore_n (pc' := 4) (L' := [(3, .int (0 : Int32)), (2, .int (0 : Int32)), (0, .ref x0), (1, .ref x1)]) dX3_saltSum_3 rfl (by decide) rfl rfl ?_
  refine Rn.sub [2, 3, 1, 0] rfl ?_
  exact f_Land_saltSum_L4_ok hst hd   FU _ _ _ _ _ _ E
def f_Land_saltSum (h : Hp) (x0 : Nat) (x1 : Nat) : Option (Int32 × Hp) := f_Land_saltSum_b0  h x0 x1
theorem f_Land_saltSum_ok {l : Launch} {X : Nat × (Nat → Int32)} (hst : l.stackTraces = false) {h : Hp} {x0 : Nat} {x1 : Nat} {r : Int32 × Hp} (E : f_Land_saltSum h x0 x1 = some r) : MC l X yX3_saltSum mX3_saltSum 0 [.ref x0, .ref x1] h (eI r) r.2 :=
  MC.body (by decide +kernel) rfl (by decide) hst (Nat.le_of_ble_eq_true rfl) (f_Land_saltSum_b0_ok hst (Nat.le_refl _) E)
abbrev mJ9_min_f86c9 : MI := (RJ9, cJ9_min_f86c9, 4, (some Jvm.ClassFile.FieldType.long), [], false)
theorem ws_J9_min_f86c9 : ∀ w ∈ wsM yJ9_min_f86c9 mJ9_min_f86c9, w ∈ gw := List.forall_mem_cons.mpr ⟨gw_at 1279 (by decide +kernel) (by decide +kernel), fun _ h => h⟩
def f_Math_minJ_b0   (h : Hp) (x0 : Int64) (x2 : Int64)  : Option (Int64 × Hp) :=
if 0 < (lg_cmp x0 x2) then (
some (x2, h)

) else (
some (x0, h)

)

set_option maxRecDepth 20000 in
set_option maxHeartbeats 4000000 in
theorem f_Math_minJ_b0_ok {l : Launch} {X : Nat × (Nat → Int32)} (hst : l.stackTraces = false) {d : Nat} (hd : 0 ≤ d)     {h : Hp} {x0 : Int64} {x2 : Int64}  {r : Int64 × Hp} (E : f_Math_minJ_b0   h x0 x2 = some r) : Rn l X mJ9_min_f86c9 d 0 [(0, .long x0), (2, .long x2)] [] h (eJ r) r.2 := by
  unfold f_Math_minJ_b0 at E
  refine Rn.lload_n (pc' := 1) dJ9_min_f86c9_0 rfl 0 rfl rfl ?_
  refine Rn.lload_n (pc' := 2) dJ9_min_f86c9_1 rfl 1 rfl rfl ?_
  refine Rn.lcmp (pc' := 3) dJ9_min_f86c9_2 rfl ?_
  refine Rn.if_gt (pc' := 6) (tgt := 10) dJ9_min_f86c9_3 (by decide) rfl (fun c1 => ?_) (fun c1 => ?_)
  · replace E := (if_of E).1 c1
    refine Rn.lload_n (pc' := 11) dJ9_min_f86c9_10 rfl 1 rfl rfl ?_
    cases E
    exact Rn.lret rfl dJ9_min_f86c9_11
  · replace E := (if_of E).2 c1
    refine Rn.lload_n (pc' := 7) dJ9_min_f86c9_6 rfl 0 rfl rfl ?_
    refine Rn.goto (pc' := 11) dJ9_min_f86c9_7 (by decide) ?_
    cases E
    exact Rn.lret rfl dJ9_min_f86c9_11
def f_Math_minJ (h : Hp) (x0 : Int64) (x2 : Int64) : Option (Int64 × Hp) := f_Math_minJ_b0  h x0 x2
theorem f_Math_minJ_ok {l : Launch} {X : Nat × (Nat → Int32)} (hst : l.stackTraces = false) {h : Hp} {x0 : Int64} {x2 : Int64} {r : Int64 × Hp} (E : f_Math_minJ h x0 x2 = some r) : MC l X yJ9_min_f86c9 mJ9_min_f86c9 0 [.long x0, .long x2] h (eJ r) r.2 :=
  MC.body (by decide +kernel) rfl (by decide) hst (Nat.le_of_ble_eq_true rfl) (f_Math_minJ_b0_ok hst (Nat.le_refl _) E)
abbrev mX3_mostBeside : MI := (RX3, cX3_mostBeside, 5, (some Jvm.ClassFile.FieldType.long), [], false)
theorem ws_X3_mostBeside : ∀ w ∈ wsM yX3_mostBeside mX3_mostBeside, w ∈ gw := List.forall_mem_cons.mpr ⟨gw_at 1275 (by decide +kernel) (by decide +kernel), fun _ h => h⟩
theorem kb_X3_231 : KB RX3 231 yJ9_min_f86c9 mJ9_min_f86c9 2 := ⟨gw_at 1277 (by decide +kernel) (by decide +kernel), gw_at 128 (by decide +kernel) (by decide +kernel), trivial, ws_J9_min_f86c9, by decide +kernel, by decide +kernel, by decide +kernel, by decide⟩
theorem ks_J9_min_f86c9 : Cond.static yJ9_min_f86c9 ∈ gw := gw_at 1278 (by decide +kernel) (by decide +kernel)
theorem kc_X3_229 : Jvm.Cond.constantLong RX3 229 (-1 : Int64) ∈ gw := gw_at 1276 (by decide +kernel) (by decide +kernel)
def f_Land_mostBeside_b0   (h : Hp) (x0 : Int64) (x2 : Int64) (x4 : Int32)  : Option (Int64 × Hp) :=
if 0 < (lg_cmp x2 (0 : Int64)) then (
if 0 ≤ (lg_cmp x0 (0 : Int64)) then (
if ¬ x2 = 0 then (
bI (f_Math_minJ h (Int32.toInt64 x4) (x0 / x2)) fun v4 h5 =>
some (v4, h5)
) else none
) else (
some ((-1 : Int64), h)

)

) else (
if 0 < (lg_cmp ((Int32.toInt64 x4) * x2) x0) then (
some ((-1 : Int64), h)

) else (
some ((Int32.toInt64 x4), h)

)

)

set_option maxRecDepth 20000 in
set_option maxHeartbeats 4000000 in
theorem f_Land_mostBeside_b0_ok {l : Launch} {X : Nat × (Nat → Int32)} (hst : l.stackTraces = false) {d : Nat} (hd : 1 ≤ d)     {h : Hp} {x0 : Int64} {x2 : Int64} {x4 : Int32}  {r : Int64 × Hp} (E : f_Land_mostBeside_b0   h x0 x2 x4 = some r) : Rn l X mX3_mostBeside d 0 [(0, .long x0), (2, .long x2), (4, .int x4)] [] h (eJ r) r.2 := by
  unfold f_Land_mostBeside_b0 at E
  refine Rn.lload_n (pc' := 1) dX3_mostBeside_0 rfl 1 rfl rfl ?_
  refine Rn.lconst (pc' := 2) (v := (0 : Int64)) (hv := by decide) dX3_mostBeside_1 rfl ?_
  refine Rn.lcmp (pc' := 3) dX3_mostBeside_2 rfl ?_
  refine Rn.if_gt (pc' := 6) (tgt := 26) dX3_mostBeside_3 (by decide) rfl (fun c1 => ?_) (fun c1 => ?_)
  · replace E := (if_of E).1 c1
    refine Rn.lload_n (pc' := 27) dX3_mostBeside_26 rfl 0 rfl rfl ?_
    refine Rn.lconst (pc' := 28) (v := (0 : Int64)) (hv := by decide) dX3_mostBeside_27 rfl ?_
    refine Rn.lcmp (pc' := 29) dX3_mostBeside_28 rfl ?_
    refine Rn.if_ge (pc' := 32) (tgt := 38) dX3_mostBeside_29 (by decide) rfl (fun c2 => ?_) (fun c2 => ?_)
    · replace E := (if_of E).1 c2
      refine Rn.iload (pc' := 40) dX3_mostBeside_38 2 rfl rfl ?_
      refine Rn.i2l (pc' := 41) dX3_mostBeside_40 rfl ?_
      refine Rn.lload_n (pc' := 42) dX3_mostBeside_41 rfl 0 rfl rfl ?_
      refine Rn.lload_n (pc' := 43) dX3_mostBeside_42 rfl 1 rfl rfl ?_
      obtain ⟨g3, E⟩ := gd_of E
      refine Rn.ldiv (pc' := 44) (hne := g3) dX3_mostBeside_43 rfl ?_
      obtain ⟨v4, h5, e6, E⟩ := bI_of E
      refine Rn.callS1 (pc' := 47) (As := [.long (Int32.toInt64 x4), .long (x0 / x2)]) (rest := []) (f_Math_minJ_ok hst e6) (Nat.le_trans (by decide) hd) rfl kb_X3_231 ks_J9_min_f86c9 rfl rfl (Nat.le_of_ble_eq_true rfl) dX3_mostBeside_44 rfl rfl ?_
      cases E
      exact Rn.lret rfl dX3_mostBeside_47
    · replace E := (if_of E).2 c2
      refine Rn.ldc2 (pc' := 35) kc_X3_229 dX3_mostBeside_32 rfl ?_
      refine Rn.goto (pc' := 47) dX3_mostBeside_35 (by decide) ?_
      cases E
      exact Rn.lret rfl dX3_mostBeside_47
  · replace E := (if_of E).2 c1
    refine Rn.iload (pc' := 8) dX3_mostBeside_6 2 rfl rfl ?_
    refine Rn.i2l (pc' := 9) dX3_mostBeside_8 rfl ?_
    refine Rn.lload_n (pc' := 10) dX3_mostBeside_9 rfl 1 rfl rfl ?_
    refine Rn.lmul (pc' := 11) dX3_mostBeside_10 rfl ?_
    refine Rn.lload_n (pc' := 12) dX3_mostBeside_11 rfl 0 rfl rfl ?_
    refine Rn.lcmp (pc' := 13) dX3_mostBeside_12 rfl ?_
    refine Rn.if_gt (pc' := 16) (tgt := 22) dX3_mostBeside_13 (by decide) rfl (fun c7 => ?_) (fun c7 => ?_)
    · replace E := (if_of E).1 c7
      refine Rn.ldc2 (pc' := 25) kc_X3_229 dX3_mostBeside_22 rfl ?_
      cases E
      exact Rn.lret rfl dX3_mostBeside_25
    · replace E := (if_of E).2 c7
      refine Rn.iload (pc' := 18) dX3_mostBeside_16 2 rfl rfl ?_
      refine Rn.i2l (pc' := 19) dX3_mostBeside_18 rfl ?_
      refine Rn.goto (pc' := 25) dX3_mostBeside_19 (by decide) ?_
      cases E
      exact Rn.lret rfl dX3_mostBeside_25
def f_Land_mostBeside (h : Hp) (x0 : Int64) (x2 : Int64) (x4 : Int32) : Option (Int64 × Hp) := f_Land_mostBeside_b0  h x0 x2 x4
theorem f_Land_mostBeside_ok {l : Launch} {X : Nat × (Nat → Int32)} (hst : l.stackTraces = false) {h : Hp} {x0 : Int64} {x2 : Int64} {x4 : Int32} {r : Int64 × Hp} (E : f_Land_mostBeside h x0 x2 x4 = some r) : MC l X yX3_mostBeside mX3_mostBeside 1 [.long x0, .long x2, .int x4] h (eJ r) r.2 :=
  MC.body (by decide +kernel) rfl (by decide) hst (Nat.le_of_ble_eq_true rfl) (f_Land_mostBeside_b0_ok hst (Nat.le_refl _) E)
abbrev mX3_blended : MI := (RX3, cX3_blended, 19, (some Jvm.ClassFile.FieldType.int), [], false)
theorem ws_X3_blended : ∀ w ∈ wsM yX3_blended mX3_blended, w ∈ gw := List.forall_mem_cons.mpr ⟨gw_at 1272 (by decide +kernel) (by decide +kernel), fun _ h => h⟩
def f_Land_blended_b144  (k65 : Hp → Nat → Nat → Int64 → Int64 → Int64 → Int64 → Int32 → Int32 → Int32 → Option (Int32 × Hp)) (h : Hp) (x1 : Nat) (x2 : Nat) (x4 : Int64) (x6 : Int64) (x8 : Int64) (x10 : Int64) (x12 : Int32) (x13 : Int32) (x14 : Int32)  : Option (Int32 × Hp) :=
k65 h x1 x2 x4 x6 x8 x10 x12 x13 (x14 + (1 : Int32))

set_option maxRecDepth 20000 in
set_option maxHeartbeats 4000000 in
theorem f_Land_blended_b144_ok {l : Launch} {X : Nat × (Nat → Int32)} (hst : l.stackTraces = false) {d : Nat} (hd : 2 ≤ d)   {k65 : Hp → Nat → Nat → Int64 → Int64 → Int64 → Int64 → Int32 → Int32 → Int32 → Option (Int32 × Hp)} (hk65 : ∀ (h : Hp) (x1 : Nat) (x2 : Nat) (x4 : Int64) (x6 : Int64) (x8 : Int64) (x10 : Int64) (x12 : Int32) (x13 : Int32) (x14 : Int32)  (r : Int32 × Hp), k65 h x1 x2 x4 x6 x8 x10 x12 x13 x14 = some r → Rn l X mX3_blended d 65 [(1, .ref x1), (2, .ref x2), (4, .long x4), (6, .long x6), (8, .long x8), (10, .long x10), (12, .int x12), (13, .int x13), (14, .int x14)] [] h (eI r) r.2) {h : Hp} {x1 : Nat} {x2 : Nat} {x4 : Int64} {x6 : Int64} {x8 : Int64} {x10 : Int64} {x12 : Int32} {x13 : Int32} {x14 : Int32}  {r : Int32 × Hp} (E : f_Land_blended_b144  k65 h x1 x2 x4 x6 x8 x10 x12 x13 x14 = some r) : Rn l X mX3_blended d 144 [(1, .ref x1), (2, .ref x2), (4, .long x4), (6, .long x6), (8, .long x8), (10, .long x10), (12, .int x12), (13, .int x13), (14, .int x14)] [] h (eI r) r.2 := by
  unfold f_Land_blended_b144 at E
  refine Rn.iinc (pc' := 147) (v := (x14 + (1 : Int32))) (L' := [(14, .int (x14 + (1 : Int32))), (1, .ref x1), (2, .ref x2), (4, .long x4), (6, .long x6), (8, .long x8), (10, .long x10), (12, .int x12), (13, .int x13)]) dX3_blended_144 8 rfl rfl (by decide) rfl rfl ?_
  refine Rn.goto (pc' := 65) dX3_blended_147 (by decide) ?_
  refine Rn.sub [1, 2, 3, 4, 5, 6, 7, 8, 0] rfl ?_
  exact hk65 _ _ _ _ _ _ _ _ _ _ _ E
theorem kb_X3_225 : KB RX3 225 yX3_mostBeside mX3_mostBeside 3 := ⟨gw_at 1273 (by decide +kernel) (by decide +kernel), gw_at 113 (by decide +kernel) (by decide +kernel), trivial, ws_X3_mostBeside, by decide +kernel, by decide +kernel, by decide +kernel, by decide⟩
theorem ks_X3_mostBeside : Cond.static yX3_mostBeside ∈ gw := gw_at 1274 (by decide +kernel) (by decide +kernel)
def f_Land_blended_b65  (k65 : Hp → Nat → Nat → Int64 → Int64 → Int64 → Int64 → Int32 → Int32 → Int32 → Option (Int32 × Hp)) (h : Hp) (x1 : Nat) (x2 : Nat) (x4 : Int64) (x6 : Int64) (x8 : Int64) (x10 : Int64) (x12 : Int32) (x13 : Int32) (x14 : Int32)  : Option (Int32 × Hp) :=
if hS h x1 = 1 then (
if (hI h x1 5) < x14 then (
some (x13, h)

) else (
if hS h x2 = 1 then (
bI (f_Land_mostBeside h (((Int32.toInt64 (-x14)) * x4) * x10) (x6 * x8) (hI h x2 5)) fun v4 h5 =>
if (lg_cmp v4 (-1 : Int64)) = 0 then (
f_Land_blended_b144  k65 h5 x1 x2 x4 x6 x8 x10 x12 x13 x14

) else (
if (lg_cmp ((Int32.toInt64 x14) + v4) (Int32.toInt64 x12)) < 0 then (
f_Land_blended_b144  k65 h5 x1 x2 x4 x6 x8 x10 x12 x13 x14

) else (
f_Land_blended_b144  k65 h5 x1 x2 x4 x6 x8 x10 (x14 + (Int64.toInt32 v4)) (((1000 : Int32) * x14) + (Int64.toInt32 v4)) x14

)

)
) else none
)
) else none
set_option maxRecDepth 20000 in
set_option maxHeartbeats 4000000 in
theorem f_Land_blended_b65_ok {l : Launch} {X : Nat × (Nat → Int32)} (hst : l.stackTraces = false) {d : Nat} (hd : 2 ≤ d)   {k65 : Hp → Nat → Nat → Int64 → Int64 → Int64 → Int64 → Int32 → Int32 → Int32 → Option (Int32 × Hp)} (hk65 : ∀ (h : Hp) (x1 : Nat) (x2 : Nat) (x4 : Int64) (x6 : Int64) (x8 : Int64) (x10 : Int64) (x12 : Int32) (x13 : Int32) (x14 : Int32)  (r : Int32 × Hp), k65 h x1 x2 x4 x6 x8 x10 x12 x13 x14 = some r → Rn l X mX3_blended d 65 [(1, .ref x1), (2, .ref x2), (4, .long x4), (6, .long x6), (8, .long x8), (10, .long x10), (12, .int x12), (13, .int x13), (14, .int x14)] [] h (eI r) r.2) {h : Hp} {x1 : Nat} {x2 : Nat} {x4 : Int64} {x6 : Int64} {x8 : Int64} {x10 : Int64} {x12 : Int32} {x13 : Int32} {x14 : Int32}  {r : Int32 × Hp} (E : f_Land_blended_b65  k65 h x1 x2 x4 x6 x8 x10 x12 x13 x14 = some r) : Rn l X mX3_blended d 65 [(1, .ref x1), (2, .ref x2), (4, .long x4), (6, .long x6), (8, .long x8), (10, .long x10), (12, .int x12), (13, .int x13), (14, .int x14)] [] h (eI r) r.2 := by
  unfold f_Land_blended_b65 at E
  refine Rn.iload (pc' := 67) dX3_blended_65 8 rfl rfl ?_
  refine Rn.aload_n (pc' := 68) dX3_blended_67 rfl 0 rfl rfl ?_
  obtain ⟨g1, E⟩ := gd_of E
  refine Rn.getI (pc' := 71) fl_X3_160_0 g1 rfl dX3_blended_68 rfl ?_
  refine Rn.icmp_gt (pc' := 74) (tgt := 150) dX3_blended_71 (by decide) rfl (fun c2 => ?_) (fun c2 => ?_)
  · replace E := (if_of E).1 c2
    refine Rn.iload (pc' := 152) dX3_blended_150 7 rfl rfl ?_
    cases E
    exact Rn.zret rfl rfl dX3_blended_152
  · replace E := (if_of E).2 c2
    refine Rn.iload (pc' := 76) dX3_blended_74 8 rfl rfl ?_
    refine Rn.ineg (pc' := 77) dX3_blended_76 rfl ?_
    refine Rn.i2l (pc' := 78) dX3_blended_77 rfl ?_
    refine Rn.lload (pc' := 80) dX3_blended_78 2 rfl rfl ?_
    refine Rn.lmul (pc' := 81) dX3_blended_80 rfl ?_
    refine Rn.lload (pc' := 83) dX3_blended_81 5 rfl rfl ?_
    refine Rn.lmul (pc' := 84) dX3_blended_83 rfl ?_
    refine Rn.lstore (pc' := 86) (L' := [(15, .long (((Int32.toInt64 (-x14)) * x4) * x10)), (1, .ref x1), (2, .ref x2), (4, .long x4), (6, .long x6), (8, .long x8), (10, .long x10), (12, .int x12), (13, .int x13), (14, .int x14)]) dX3_blended_84 (by decide) rfl rfl ?_
    refine Rn.lload (pc' := 88) dX3_blended_86 0 rfl rfl ?_
    refine Rn.lload (pc' := 90) dX3_blended_88 4 rfl rfl ?_
    refine Rn.lload (pc' := 92) dX3_blended_90 5 rfl rfl ?_
    refine Rn.lmul (pc' := 93) dX3_blended_92 rfl ?_
    refine Rn.aload_n (pc' := 94) dX3_blended_93 rfl 2 rfl rfl ?_
    obtain ⟨g3, E⟩ := gd_of E
    refine Rn.getI (pc' := 97) fl_X3_160_0 g3 rfl dX3_blended_94 rfl ?_
    obtain ⟨v4, h5, e6, E⟩ := bI_of E
    refine Rn.callS1 (pc' := 100) (As := [.long (((Int32.toInt64 (-x14)) * x4) * x10), .long (x6 * x8), .int (hI h x2 5)]) (rest := []) (f_Land_mostBeside_ok hst e6) (Nat.le_trans (by decide) hd) rfl kb_X3_225 ks_X3_mostBeside rfl rfl (Nat.le_of_ble_eq_true rfl) dX3_blended_97 rfl rfl ?_
    refine Rn.lstore (pc' := 102) (L' := [(17, .long v4), (15, .long (((Int32.toInt64 (-x14)) * x4) * x10)), (1, .ref x1), (2, .ref x2), (4, .long x4), (6, .long x6), (8, .long x8), (10, .long x10), (12, .int x12), (13, .int x13), (14, .int x14)]) dX3_blended_100 (by decide) rfl rfl ?_
    refine Rn.lload (pc' := 104) dX3_blended_102 0 rfl rfl ?_
    refine Rn.ldc2 (pc' := 107) kc_X3_229 dX3_blended_104 rfl ?_
    refine Rn.lcmp (pc' := 108) dX3_blended_107 rfl ?_
    refine Rn.if_eq (pc' := 111) (tgt := 144) dX3_blended_108 (by decide) rfl (fun c7 => ?_) (fun c7 => ?_)
    · replace E := (if_of E).1 c7
      refine Rn.sub [2, 3, 4, 5, 6, 7, 8, 9, 10] rfl ?_
      exact f_Land_blended_b144_ok hst hd  hk65 E
    · replace E := (if_of E).2 c7
      refine Rn.iload (pc' := 113) dX3_blended_111 10 rfl rfl ?_
      refine Rn.i2l (pc' := 114) dX3_blended_113 rfl ?_
      refine Rn.lload (pc' := 116) dX3_blended_114 0 rfl rfl ?_
      refine Rn.ladd (pc' := 117) dX3_blended_116 rfl ?_
      refine Rn.iload (pc' := 119) dX3_blended_117 8 rfl rfl ?_
      refine Rn.i2l (pc' := 120) dX3_blended_119 rfl ?_
      refine Rn.lcmp (pc' := 121) dX3_blended_120 rfl ?_
      refine Rn.if_lt (pc' := 124) (tgt := 144) dX3_blended_121 (by decide) rfl (fun c8 => ?_) (fun c8 => ?_)
      · replace E := (if_of E).1 c8
        refine Rn.sub [2, 3, 4, 5, 6, 7, 8, 9, 10] rfl ?_
        exact f_Land_blended_b144_ok hst hd  hk65 E
      · replace E := (if_of E).2 c8
        refine Rn.iload (pc' := 126) dX3_blended_124 10 rfl rfl ?_
        refine Rn.lload (pc' := 128) dX3_blended_126 0 rfl rfl ?_
        refine Rn.l2i (pc' := 129) dX3_blended_128 rfl ?_
        refine Rn.iadd (pc' := 130) dX3_blended_129 rfl ?_
        refine Rn.istore (pc' := 132) (L' := [(12, .int (x14 + (Int64.toInt32 v4))), (17, .long v4), (15, .long (((Int32.toInt64 (-x14)) * x4) * x10)), (1, .ref x1), (2, .ref x2), (4, .long x4), (6, .long x6), (8, .long x8), (10, .long x10), (13, .int x13), (14, .int x14)]) dX3_blended_130 (by decide) rfl rfl ?_
        refine Rn.sipush (pc' := 135) (v := (1000 : Int32)) (hv := by decide) dX3_blended_132 rfl ?_
        refine Rn.iload (pc' := 137) dX3_blended_135 10 rfl rfl ?_
        refine Rn.imul (pc' := 138) dX3_blended_137 rfl ?_
        refine Rn.lload (pc' := 140) dX3_blended_138 1 rfl rfl ?_
        refine Rn.l2i (pc' := 141) dX3_blended_140 rfl ?_
        refine Rn.iadd (pc' := 142) dX3_blended_141 rfl ?_
        refine Rn.istore (pc' := 144) (L' := [(13, .int (((1000 : Int32) * x14) + (Int64.toInt32 v4))), (12, .int (x14 + (Int64.toInt32 v4))), (17, .long v4), (15, .long (((Int32.toInt64 (-x14)) * x4) * x10)), (1, .ref x1), (2, .ref x2), (4, .long x4), (6, .long x6), (8, .long x8), (10, .long x10), (14, .int x14)]) dX3_blended_142 (by decide) rfl rfl ?_
        refine Rn.sub [4, 5, 6, 7, 8, 9, 1, 0, 10] rfl ?_
        exact f_Land_blended_b144_ok hst hd  hk65 E
def f_Land_blended_L65   (n : Nat) : Hp → Nat → Nat → Int64 → Int64 → Int64 → Int64 → Int32 → Int32 → Int32 → Option (Int32 × Hp) := Nat.rec (motive := fun _ => Hp → Nat → Nat → Int64 → Int64 → Int64 → Int64 → Int32 → Int32 → Int32 → Option (Int32 × Hp)) (fun _ _ _ _ _ _ _ _ _ _ => none) (fun _ rec => f_Land_blended_b65   rec) n
theorem f_Land_blended_L65_ok {l : Launch} {X : Nat × (Nat → Int32)} (hst : l.stackTraces = false) {d : Nat} (hd : 2 ≤ d)     : ∀ (n : Nat) (h : Hp) (x1 : Nat) (x2 : Nat) (x4 : Int64) (x6 : Int64) (x8 : Int64) (x10 : Int64) (x12 : Int32) (x13 : Int32) (x14 : Int32)  (r : Int32 × Hp), f_Land_blended_L65   n h x1 x2 x4 x6 x8 x10 x12 x13 x14 = some r → Rn l X mX3_blended d 65 [(1, .ref x1), (2, .ref x2), (4, .long x4), (6, .long x6), (8, .long x8), (10, .long x10), (12, .int x12), (13, .int x13), (14, .int x14)] [] h (eI r) r.2 := by
  intro n
  induction n with
  | zero => intro h x1 x2 x4 x6 x8 x10 x12 x13 x14 r E; cases E
  | succ n ih => intro h x1 x2 x4 x6 x8 x10 x12 x13 x14 r E; exact f_Land_blended_b65_ok hst hd   ih E
theorem kb_X3_222 : KB RX3 222 yX3_saltSum mX3_saltSum 1 := ⟨gw_at 1134 (by decide +kernel) (by decide +kernel), gw_at 113 (by decide +kernel) (by decide +kernel), trivial, ws_X3_saltSum, by decide +kernel, by decide +kernel, by decide +kernel, by decide⟩
theorem ki_X3_saltSum : Cond.instanceMethod yX3_saltSum ∈ gw ∧ Cond.selects yX3_saltSum.cls yX3_saltSum yX3_saltSum ∈ gw := ⟨gw_at 1136 (by decide +kernel) (by decide +kernel), gw_at 32 (by decide +kernel) (by decide +kernel)⟩
def f_Land_blended_b0   (h : Hp) (x0 : Nat) (x1 : Nat) (x2 : Nat) (x3 : Int32)  : Option (Int32 × Hp) :=
if hS h x0 = 4 then (
bI (f_Land_saltSum h x0 x1) fun v2 h3 =>
if hS h3 x1 = 1 then (
if hS h3 x0 = 4 then (
bI (f_Land_saltSum h3 x0 x2) fun v7 h8 =>
if hS h8 x2 = 1 then (
if hS h8 x1 = 1 then (
bI (f_Math_max h8 (1 : Int32) (hI h8 x1 5)) fun v12 h13 =>
if hS h13 x2 = 1 then (
bI (f_Math_max h13 (1 : Int32) (hI h13 x2 5)) fun v16 h17 =>
f_Land_blended_L65   FU h17 x1 x2 ((Int32.toInt64 v2) - ((Int32.toInt64 x3) * (Int32.toInt64 (hI h3 x1 5)))) ((Int32.toInt64 v7) - ((Int32.toInt64 x3) * (Int32.toInt64 (hI h8 x2 5)))) (Int32.toInt64 v12) (Int32.toInt64 v16) (0 : Int32) (0 : Int32) (0 : Int32)
) else none) else none) else none) else none) else none) else none
set_option maxRecDepth 20000 in
set_option maxHeartbeats 4000000 in
theorem f_Land_blended_b0_ok {l : Launch} {X : Nat × (Nat → Int32)} (hst : l.stackTraces = false) {d : Nat} (hd : 2 ≤ d)     {h : Hp} {x0 : Nat} {x1 : Nat} {x2 : Nat} {x3 : Int32}  {r : Int32 × Hp} (E : f_Land_blended_b0   h x0 x1 x2 x3 = some r) : Rn l X mX3_blended d 0 [(0, .ref x0), (1, .ref x1), (2, .ref x2), (3, .int x3)] [] h (eI r) r.2 := by
  unfold f_Land_blended_b0 at E
  refine Rn.aload_n (pc' := 1) dX3_blended_0 rfl 0 rfl rfl ?_
  refine Rn.aload_n (pc' := 2) dX3_blended_1 rfl 1 rfl rfl ?_
  obtain ⟨g1, E⟩ := gd_of E
  obtain ⟨v2, h3, e4, E⟩ := bI_of E
  refine Rn.callV1 (pc' := 5) (As := [.ref x1]) (rest := []) (f_Land_saltSum_ok hst e4) (Nat.le_trans (by decide) hd) rfl kb_X3_222 ki_X3_saltSum rfl g1 rfl rfl (Nat.le_of_ble_eq_true rfl) dX3_blended_2 rfl rfl ?_
  refine Rn.i2l (pc' := 6) dX3_blended_5 rfl ?_
  refine Rn.iload_n (pc' := 7) dX3_blended_6 rfl 3 rfl rfl ?_
  refine Rn.i2l (pc' := 8) dX3_blended_7 rfl ?_
  refine Rn.aload_n (pc' := 9) dX3_blended_8 rfl 1 rfl rfl ?_
  obtain ⟨g5, E⟩ := gd_of E
  refine Rn.getI (pc' := 12) fl_X3_160_0 g5 rfl dX3_blended_9 rfl ?_
  refine Rn.i2l (pc' := 13) dX3_blended_12 rfl ?_
  refine Rn.lmul (pc' := 14) dX3_blended_13 rfl ?_
  refine Rn.lsub (pc' := 15) dX3_blended_14 rfl ?_
  refine Rn.lstore (pc' := 17) (L' := [(4, .long ((Int32.toInt64 v2) - ((Int32.toInt64 x3) * (Int32.toInt64 (hI h3 x1 5))))), (0, .ref x0), (1, .ref x1), (2, .ref x2), (3, .int x3)]) dX3_blended_15 (by decide) rfl rfl ?_
  refine Rn.aload_n (pc' := 18) dX3_blended_17 rfl 1 rfl rfl ?_
  refine Rn.aload_n (pc' := 19) dX3_blended_18 rfl 3 rfl rfl ?_
  obtain ⟨g6, E⟩ := gd_of E
  obtain ⟨v7, h8, e9, E⟩ := bI_of E
  refine Rn.callV1 (pc' := 22) (As := [.ref x2]) (rest := []) (f_Land_saltSum_ok hst e9) (Nat.le_trans (by decide) hd) rfl kb_X3_222 ki_X3_saltSum rfl g6 rfl rfl (Nat.le_of_ble_eq_true rfl) dX3_blended_19 rfl rfl ?_
  refine Rn.i2l (pc' := 23) dX3_blended_22 rfl ?_
  refine Rn.iload_n (pc' := 24) dX3_blended_23 rfl 4 rfl rfl ?_
  refine Rn.i2l (pc' := 25) dX3_blended_24 rfl ?_
  refine Rn.aload_n (pc' := 26) dX3_blended_25 rfl 3 rfl rfl ?_
  obtain ⟨g10, E⟩ := gd_of E
  refine Rn.getI (pc' := 29) fl_X3_160_0 g10 rfl dX3_blended_26 rfl ?_
  refine Rn.i2l (pc' := 30) dX3_blended_29 rfl ?_
  refine Rn.lmul (pc' := 31) dX3_blended_30 rfl ?_
  refine Rn.lsub (pc' := 32) dX3_blended_31 rfl ?_
  refine Rn.lstore (pc' := 34) (L' := [(6, .long ((Int32.toInt64 v7) - ((Int32.toInt64 x3) * (Int32.toInt64 (hI h8 x2 5))))), (4, .long ((Int32.toInt64 v2) - ((Int32.toInt64 x3) * (Int32.toInt64 (hI h3 x1 5))))), (0, .ref x0), (1, .ref x1), (2, .ref x2), (3, .int x3)]) dX3_blended_32 (by decide) rfl rfl ?_
  refine Rn.iconst (pc' := 35) (v := (1 : Int32)) (hv := by decide) dX3_blended_34 rfl ?_
  refine Rn.aload_n (pc' := 36) dX3_blended_35 rfl 3 rfl rfl ?_
  obtain ⟨g11, E⟩ := gd_of E
  refine Rn.getI (pc' := 39) fl_X3_160_0 g11 rfl dX3_blended_36 rfl ?_
  obtain ⟨v12, h13, e14, E⟩ := bI_of E
  refine Rn.callS1 (pc' := 42) (As := [.int (1 : Int32), .int (hI h8 x1 5)]) (rest := []) (f_Math_max_ok hst e14) (Nat.le_trans (by decide) hd) rfl kb_X3_209 ks_J9_max_7cf53 rfl rfl (Nat.le_of_ble_eq_true rfl) dX3_blended_39 rfl rfl ?_
  refine Rn.i2l (pc' := 43) dX3_blended_42 rfl ?_
  refine Rn.lstore (pc' := 45) (L' := [(8, .long (Int32.toInt64 v12)), (6, .long ((Int32.toInt64 v7) - ((Int32.toInt64 x3) * (Int32.toInt64 (hI h8 x2 5))))), (4, .long ((Int32.toInt64 v2) - ((Int32.toInt64 x3) * (Int32.toInt64 (hI h3 x1 5))))), (0, .ref x0), (1, .ref x1), (2, .ref x2), (3, .int x3)]) dX3_blended_43 (by decide) rfl rfl ?_
  refine Rn.iconst (pc' := 46) (v := (1 : Int32)) (hv := by decide) dX3_blended_45 rfl ?_
  refine Rn.aload_n (pc' := 47) dX3_blended_46 rfl 5 rfl rfl ?_
  obtain ⟨g15, E⟩ := gd_of E
  refine Rn.getI (pc' := 50) fl_X3_160_0 g15 rfl dX3_blended_47 rfl ?_
  obtain ⟨v16, h17, e18, E⟩ := bI_of E
  refine Rn.callS1 (pc' := 53) (As := [.int (1 : Int32), .int (hI h13 x2 5)]) (rest := []) (f_Math_max_ok hst e18) (Nat.le_trans (by decide) hd) rfl kb_X3_209 ks_J9_max_7cf53 rfl rfl (Nat.le_of_ble_eq_true rfl) dX3_blended_50 rfl rfl ?_
  refine Rn.i2l (pc' := 54) dX3_blended_53 rfl ?_
  refine Rn.lstore (pc' := 56) (L' := [(10, .long (Int32.toInt64 v16)), (8, .long (Int32.toInt64 v12)), (6, .long ((Int32.toInt64 v7) - ((Int32.toInt64 x3) * (Int32.toInt64 (hI h8 x2 5))))), (4, .long ((Int32.toInt64 v2) - ((Int32.toInt64 x3) * (Int32.toInt64 (hI h3 x1 5))))), (0, .ref x0), (1, .ref x1), (2, .ref x2), (3, .int x3)]) dX3_blended_54 (by decide) rfl rfl ?_
  refine Rn.iconst (pc' := 57) (v := (0 : Int32)) (hv := by decide) dX3_blended_56 rfl ?_
  refine Rn.istore (pc' := 59) (L' := [(12, .int (0 : Int32)), (10, .long (Int32.toInt64 v16)), (8, .long (Int32.toInt64 v12)), (6, .long ((Int32.toInt64 v7) - ((Int32.toInt64 x3) * (Int32.toInt64 (hI h8 x2 5))))), (4, .long ((Int32.toInt64 v2) - ((Int32.toInt64 x3) * (Int32.toInt64 (hI h3 x1 5))))), (0, .ref x0), (1, .ref x1), (2, .ref x2), (3, .int x3)]) dX3_blended_57 (by decide) rfl rfl ?_
  refine Rn.iconst (pc' := 60) (v := (0 : Int32)) (hv := by decide) dX3_blended_59 rfl ?_
  refine Rn.istore (pc' := 62) (L' := [(13, .int (0 : Int32)), (12, .int (0 : Int32)), (10, .long (Int32.toInt64 v16)), (8, .long (Int32.toInt64 v12)), (6, .long ((Int32.toInt64 v7) - ((Int32.toInt64 x3) * (Int32.toInt64 (hI h8 x2 5))))), (4, .long ((Int32.toInt64 v2) - ((Int32.toInt64 x3) * (Int32.toInt64 (hI h3 x1 5))))), (0, .ref x0), (1, .ref x1), (2, .ref x2), (3, .int x3)]) dX3_blended_60 (by decide) rfl rfl ?_
  refine Rn.iconst (pc' := 63) (v := (0 : Int32)) (hv := by decide) dX3_blended_62 rfl ?_
  refine Rn.istore (pc' := 65) (L' := [(14, .int (0 : Int32)), (13, .int (0 : Int32)), (12, .int (0 : Int32)), (10, .long (Int32.toInt64 v16)), (8, .long (Int32.toInt64 v12)), (6, .long ((Int32.toInt64 v7) - ((Int32.toInt64 x3) * (Int32.toInt64 (hI h8 x2 5))))), (4, .long ((Int32.toInt64 v2) - ((Int32.toInt64 x3) * (Int32.toInt64 (hI h3 x1 5))))), (0, .ref x0), (1, .ref x1), (2, .ref x2), (3, .int x3)]) dX3_blended_63 (by decide) rfl rfl ?_
  refine Rn.sub [8, 9, 6, 5, 4, 3, 2, 1, 0] rfl ?_
  exact f_Land_blended_L65_ok hst hd   FU _ _ _ _ _ _ _ _ _ _ _ E
def f_Land_blended (h : Hp) (x0 : Nat) (x1 : Nat) (x2 : Nat) (x3 : Int32) : Option (Int32 × Hp) := f_Land_blended_b0  h x0 x1 x2 x3
theorem f_Land_blended_ok {l : Launch} {X : Nat × (Nat → Int32)} (hst : l.stackTraces = false) {h : Hp} {x0 : Nat} {x1 : Nat} {x2 : Nat} {x3 : Int32} {r : Int32 × Hp} (E : f_Land_blended h x0 x1 x2 x3 = some r) : MC l X yX3_blended mX3_blended 2 [.ref x0, .ref x1, .ref x2, .int x3] h (eI r) r.2 :=
  MC.body (by decide +kernel) rfl (by decide) hst (Nat.le_of_ble_eq_true rfl) (f_Land_blended_b0_ok hst (Nat.le_refl _) E)
abbrev mX10_blend : MI := (RX10, cX10_blend, 4, (some Jvm.ClassFile.FieldType.int), [], false)
theorem ws_X10_blend : ∀ w ∈ wsM yX10_blend mX10_blend, w ∈ gw := List.forall_mem_cons.mpr ⟨gw_at 1267 (by decide +kernel) (by decide +kernel), fun _ h => h⟩
def f_Water_blend_b25   (h : Hp)   : Option ((Int32 ⊕ Nat) × Hp) :=
some (.inr 2, hA h 0 0 6)

set_option maxRecDepth 20000 in
set_option maxHeartbeats 4000000 in
theorem f_Water_blend_b25_ok {l : Launch} {X : Nat × (Nat → Int32)} (hst : l.stackTraces = false) {d : Nat} (hd : 3 ≤ d)     {h : Hp}   {r : (Int32 ⊕ Nat) × Hp} (E : f_Water_blend_b25   h  = some r) : Rn l X mX10_blend d 25 [] [] h (xI r) r.2 := by
  unfold f_Water_blend_b25 at E
  cases E
  exact Rn.throwS (x := 2) (i := 11) kt_X10_88_92 rfl rfl dX10_blend_25 dX10_blend_28 dX10_blend_29 dX10_blend_31 dX10_blend_34 (Nat.le_of_ble_eq_true rfl)
theorem kb_X10_247 : KB RX10 247 yX3_blended mX3_blended 3 := ⟨gw_at 1269 (by decide +kernel) (by decide +kernel), gw_at 113 (by decide +kernel) (by decide +kernel), trivial, ws_X3_blended, by decide +kernel, by decide +kernel, by decide +kernel, by decide⟩
theorem ki_X3_blended : Cond.instanceMethod yX3_blended ∈ gw ∧ Cond.selects yX3_blended.cls yX3_blended yX3_blended ∈ gw := ⟨gw_at 1270 (by decide +kernel) (by decide +kernel), gw_at 1271 (by decide +kernel) (by decide +kernel)⟩
def f_Water_blend_b0   (h : Hp) (x0 : Nat) (x1 : Int32) (x2 : Int32) (x3 : Int32)  : Option ((Int32 ⊕ Nat) × Hp) :=
if hS h x0 = 10 then (
bX (f_Water_needCistern h x0 x1) fun _ h3 =>
if hS h3 x0 = 10 then (
bX (f_Water_needCistern h3 x0 x2) fun _ h7 =>
if x1 = x2 then (
f_Water_blend_b25   h7

) else (
if x3 < 0 then (
f_Water_blend_b25   h7

) else (
if x3 ≤ (99 : Int32) then (
if hS h7 x0 = 10 then (
if hS h7 (hR h7 x0 4) = 4 then (
if hS h7 (hR h7 (hR h7 x0 4) 3) = 23 then (
if ib x1 (hL h7 (hR h7 (hR h7 x0 4) 3)) = true then (
if ib x2 (hL h7 (hR h7 (hR h7 x0 4) 3)) = true then (
bI (f_Land_blended h7 (hR h7 x0 4) (hR h7 (hR h7 (hR h7 x0 4) 3) (ix x1)) (hR h7 (hR h7 (hR h7 x0 4) 3) (ix x2)) x3) fun v17 h18 =>
some (.inl v17, h18)
) else none) else none) else none) else none) else none
) else (
f_Water_blend_b25   h7

)

)

)
) else none) else none
set_option maxRecDepth 20000 in
set_option maxHeartbeats 4000000 in
theorem f_Water_blend_b0_ok {l : Launch} {X : Nat × (Nat → Int32)} (hst : l.stackTraces = false) {d : Nat} (hd : 3 ≤ d)     {h : Hp} {x0 : Nat} {x1 : Int32} {x2 : Int32} {x3 : Int32}  {r : (Int32 ⊕ Nat) × Hp} (E : f_Water_blend_b0   h x0 x1 x2 x3 = some r) : Rn l X mX10_blend d 0 [(0, .ref x0), (1, .int x1), (2, .int x2), (3, .int x3)] [] h (xI r) r.2 := by
  unfold f_Water_blend_b0 at E
  refine Rn.aload_n (pc' := 1) dX10_blend_0 rfl 0 rfl rfl ?_
  refine Rn.iload_n (pc' := 2) dX10_blend_1 rfl 1 rfl rfl ?_
  obtain ⟨g1, E⟩ := gd_of E
  rcases bX_of E with ⟨u_, h3, e4, E⟩ | ⟨x_, h3, e4, rfl⟩
  rotate_left
  · exact Rn.callVX (As := [.int x1]) (rest := []) (f_Water_needCistern_ok hst e4) (Nat.le_trans (by decide) hd) rfl kb_X10_123 ki_X10_needCistern rfl g1 rfl rfl (Nat.le_of_ble_eq_true rfl) dX10_blend_2 (RnX.out (by decide))
  refine Rn.callV1 (pc' := 5) (As := [.int x1]) (rest := []) (f_Water_needCistern_ok hst e4) (Nat.le_trans (by decide) hd) rfl kb_X10_123 ki_X10_needCistern rfl g1 rfl rfl (Nat.le_of_ble_eq_true rfl) dX10_blend_2 rfl rfl ?_
  refine Rn.aload_n (pc' := 6) dX10_blend_5 rfl 0 rfl rfl ?_
  refine Rn.iload_n (pc' := 7) dX10_blend_6 rfl 2 rfl rfl ?_
  obtain ⟨g5, E⟩ := gd_of E
  rcases bX_of E with ⟨u_, h7, e8, E⟩ | ⟨x_, h7, e8, rfl⟩
  rotate_left
  · exact Rn.callVX (As := [.int x2]) (rest := []) (f_Water_needCistern_ok hst e8) (Nat.le_trans (by decide) hd) rfl kb_X10_123 ki_X10_needCistern rfl g5 rfl rfl (Nat.le_of_ble_eq_true rfl) dX10_blend_7 (RnX.out (by decide))
  refine Rn.callV1 (pc' := 10) (As := [.int x2]) (rest := []) (f_Water_needCistern_ok hst e8) (Nat.le_trans (by decide) hd) rfl kb_X10_123 ki_X10_needCistern rfl g5 rfl rfl (Nat.le_of_ble_eq_true rfl) dX10_blend_7 rfl rfl ?_
  refine Rn.iload_n (pc' := 11) dX10_blend_10 rfl 1 rfl rfl ?_
  refine Rn.iload_n (pc' := 12) dX10_blend_11 rfl 2 rfl rfl ?_
  refine Rn.icmp_eq (pc' := 15) (tgt := 25) dX10_blend_12 (by decide) rfl (fun c9 => ?_) (fun c9 => ?_)
  · replace E := (if_of E).1 c9
    refine Rn.sub [] rfl ?_
    exact f_Water_blend_b25_ok hst hd   E
  · replace E := (if_of E).2 c9
    refine Rn.iload_n (pc' := 16) dX10_blend_15 rfl 3 rfl rfl ?_
    refine Rn.if_lt (pc' := 19) (tgt := 25) dX10_blend_16 (by decide) rfl (fun c10 => ?_) (fun c10 => ?_)
    · replace E := (if_of E).1 c10
      refine Rn.sub [] rfl ?_
      exact f_Water_blend_b25_ok hst hd   E
    · replace E := (if_of E).2 c10
      refine Rn.iload_n (pc' := 20) dX10_blend_19 rfl 3 rfl rfl ?_
      refine Rn.bipush (pc' := 22) (v := (99 : Int32)) (hv := by decide) dX10_blend_20 rfl ?_
      refine Rn.icmp_le (pc' := 25) (tgt := 35) dX10_blend_22 (by decide) rfl (fun c11 => ?_) (fun c11 => ?_)
      · replace E := (if_of E).1 c11
        refine Rn.aload_n (pc' := 36) dX10_blend_35 rfl 0 rfl rfl ?_
        obtain ⟨g12, E⟩ := gd_of E
        refine Rn.getR (pc' := 39) fl_X10_42_9 g12 rfl dX10_blend_36 rfl ?_
        refine Rn.aload_n (pc' := 40) dX10_blend_39 rfl 0 rfl rfl ?_
        refine Rn.getR (pc' := 43) fl_X10_42_9 g12 rfl dX10_blend_40 rfl ?_
        obtain ⟨g13, E⟩ := gd_of E
        refine Rn.getR (pc' := 46) fl_X10_126_3 g13 rfl dX10_blend_43 rfl ?_
        refine Rn.iload_n (pc' := 47) dX10_blend_46 rfl 1 rfl rfl ?_
        obtain ⟨g14, E⟩ := gd_of E
        obtain ⟨g15, E⟩ := gd_of E
        refine Rn.aald (pc' := 48) g14 (by decide) (by decide) g15 dX10_blend_47 rfl ?_
        refine Rn.aload_n (pc' := 49) dX10_blend_48 rfl 0 rfl rfl ?_
        refine Rn.getR (pc' := 52) fl_X10_42_9 g12 rfl dX10_blend_49 rfl ?_
        refine Rn.getR (pc' := 55) fl_X10_126_3 g13 rfl dX10_blend_52 rfl ?_
        refine Rn.iload_n (pc' := 56) dX10_blend_55 rfl 2 rfl rfl ?_
        obtain ⟨g16, E⟩ := gd_of E
        refine Rn.aald (pc' := 57) g14 (by decide) (by decide) g16 dX10_blend_56 rfl ?_
        refine Rn.iload_n (pc' := 58) dX10_blend_57 rfl 3 rfl rfl ?_
        obtain ⟨v17, h18, e19, E⟩ := bI_of E
        refine Rn.callV1 (pc' := 61) (As := [.ref (hR h7 (hR h7 (hR h7 x0 4) 3) (ix x1)), .ref (hR h7 (hR h7 (hR h7 x0 4) 3) (ix x2)), .int x3]) (rest := []) (f_Land_blended_ok hst e19) (Nat.le_trans (by decide) hd) rfl kb_X10_247 ki_X3_blended rfl g13 rfl rfl (Nat.le_of_ble_eq_true rfl) dX10_blend_58 rfl rfl ?_
        cases E
        exact Rn.zret rfl rfl dX10_blend_61
      · replace E := (if_of E).2 c11
        refine Rn.sub [] rfl ?_
        exact f_Water_blend_b25_ok hst hd   E
def f_Water_blend (h : Hp) (x0 : Nat) (x1 : Int32) (x2 : Int32) (x3 : Int32) : Option ((Int32 ⊕ Nat) × Hp) := f_Water_blend_b0  h x0 x1 x2 x3
theorem f_Water_blend_ok {l : Launch} {X : Nat × (Nat → Int32)} (hst : l.stackTraces = false) {h : Hp} {x0 : Nat} {x1 : Int32} {x2 : Int32} {x3 : Int32} {r : (Int32 ⊕ Nat) × Hp} (E : f_Water_blend h x0 x1 x2 x3 = some r) : MC l X yX10_blend mX10_blend 3 [.ref x0, .int x1, .int x2, .int x3] h (xI r) r.2 :=
  MC.body (by decide +kernel) rfl (by decide) hst (Nat.le_of_ble_eq_true rfl) (f_Water_blend_b0_ok hst (Nat.le_refl _) E)
abbrev mL_blend : MI := (RL, cL_blend, 6, (some Jvm.ClassFile.FieldType.int), [(0, 12, 15, 24), (0, 12, 19, 13)], false)
theorem ws_L_blend : ∀ w ∈ wsM yL_blend mL_blend, w ∈ gw := List.forall_mem_cons.mpr ⟨gw_at 1263 (by decide +kernel) (by decide +kernel), fun _ h => h⟩
theorem kb_L_60 : KB RL 60 yX10_blend mX10_blend 3 := ⟨gw_at 1264 (by decide +kernel) (by decide +kernel), gw_at 107 (by decide +kernel) (by decide +kernel), trivial, ws_X10_blend, by decide +kernel, by decide +kernel, by decide +kernel, by decide⟩
theorem ki_X10_blend : Cond.instanceMethod yX10_blend ∈ gw ∧ Cond.selects yX10_blend.cls yX10_blend yX10_blend ∈ gw := ⟨gw_at 1265 (by decide +kernel) (by decide +kernel), gw_at 1266 (by decide +kernel) (by decide +kernel)⟩
def f_Lw_blend_b0   (h : Hp) (x0 : Nat) (x1 : Int32) (x2 : Int32) (x3 : Int32) (x4 : Nat)  : Option (Int32 × Hp) :=
if hS h x0 = 10 then (
bC (f_Water_blend h x0 x1 x2 x3) (fun v2 h3 =>
if hS h3 x4 = 22 then (
if ib (0 : Int32) (hL h3 x4) = true then (
wr (sJ h3 x4 (ix (0 : Int32)) (Int32.toInt64 v2)) fun h7 =>
some ((0 : Int32), h7)
) else none) else none
) (fun x_ h3 =>
if x_ = 1 then (
some ((1 : Int32), h3)

) else (
if x_ = 2 then (
some ((2 : Int32), h3)

) else (
none)))
) else none
set_option maxRecDepth 20000 in
set_option maxHeartbeats 4000000 in
theorem f_Lw_blend_b0_ok {l : Launch} {X : Nat × (Nat → Int32)} (hst : l.stackTraces = false) {d : Nat} (hd : 4 ≤ d)     {h : Hp} {x0 : Nat} {x1 : Int32} {x2 : Int32} {x3 : Int32} {x4 : Nat}  {r : Int32 × Hp} (E : f_Lw_blend_b0   h x0 x1 x2 x3 x4 = some r) : Rn l X mL_blend d 0 [(0, .ref x0), (1, .int x1), (2, .int x2), (3, .int x3), (4, .ref x4)] [] h (eI r) r.2 := by
  unfold f_Lw_blend_b0 at E
  refine Rn.aload (pc' := 2) dL_blend_0 4 rfl rfl ?_
  refine Rn.iconst (pc' := 3) (v := (0 : Int32)) (hv := by decide) dL_blend_2 rfl ?_
  refine Rn.aload_n (pc' := 4) dL_blend_3 rfl 0 rfl rfl ?_
  refine Rn.iload_n (pc' := 5) dL_blend_4 rfl 1 rfl rfl ?_
  refine Rn.iload_n (pc' := 6) dL_blend_5 rfl 2 rfl rfl ?_
  refine Rn.iload_n (pc' := 7) dL_blend_6 rfl 3 rfl rfl ?_
  obtain ⟨g1, E⟩ := gd_of E
  rcases bC_of E with ⟨v2, h3, e4, E⟩ | ⟨x_, h3, e4, E⟩
  · refine Rn.callV1 (pc' := 10) (As := [.int x1, .int x2, .int x3]) (rest := [.int (0 : Int32), .ref x4]) (f_Water_blend_ok hst e4) (Nat.le_trans (by decide) hd) rfl kb_L_60 ki_X10_blend rfl g1 rfl rfl (Nat.le_of_ble_eq_true rfl) dL_blend_7 rfl rfl ?_
    refine Rn.i2l (pc' := 11) dL_blend_10 rfl ?_
    obtain ⟨g5, E⟩ := gd_of E
    obtain ⟨g6, E⟩ := gd_of E
    refine Rn.last (pc' := 12) g5 g6 dL_blend_11 rfl ?_
    replace E := wr_of E
    generalize eh8 : sJ h3 x4 (ix (0 : Int32)) (Int32.toInt64 v2) = h7 at E ⊢
    refine Rn.goto (pc' := 23) dL_blend_12 (by decide) ?_
    refine Rn.iconst (pc' := 24) (v := (0 : Int32)) (hv := by decide) dL_blend_23 rfl ?_
    cases E
    exact Rn.zret rfl rfl dL_blend_24
  · refine Rn.callVX (As := [.int x1, .int x2, .int x3]) (rest := [.int (0 : Int32), .ref x4]) (f_Water_blend_ok hst e4) (Nat.le_trans (by decide) hd) rfl kb_L_60 ki_X10_blend rfl g1 rfl rfl (Nat.le_of_ble_eq_true rfl) dL_blend_7 ?_
    by_cases c9 : x_ = 1
    · replace E := (if_of E).1 c9
      subst c9
      refine RnX.catch (x := 1) (i := 5) (pch := 17) 0 rfl (pre0) (by decide) (by decide) kk_L_24 (by decide) (Or.inr ⟨dL_blend_15, rfl⟩) (by decide) ?_
      change Rn _ _ _ _ _ [(0, .ref x0), (1, .int x1), (2, .int x2), (3, .int x3), (4, .ref x4)] _ _ _ _
      refine Rn.iconst (pc' := 18) (v := (1 : Int32)) (hv := by decide) dL_blend_17 rfl ?_
      cases E
      exact Rn.zret rfl rfl dL_blend_18
    replace E := (if_of E).2 c9
    by_cases c10 : x_ = 2
    · replace E := (if_of E).1 c10
      subst c10
      refine RnX.catch (x := 2) (i := 5) (pch := 21) 1 rfl (pre1 (Or.inr ⟨by decide, _, kk_L_24, by decide⟩)) (by decide) (by decide) kk_L_13 (by decide) (Or.inr ⟨dL_blend_19, rfl⟩) (by decide) ?_
      change Rn _ _ _ _ _ [(0, .ref x0), (1, .int x1), (2, .int x2), (3, .int x3), (4, .ref x4)] _ _ _ _
      refine Rn.iconst (pc' := 22) (v := (2 : Int32)) (hv := by decide) dL_blend_21 rfl ?_
      cases E
      exact Rn.zret rfl rfl dL_blend_22
    replace E := (if_of E).2 c10
    cases E
def f_Lw_blend (h : Hp) (x0 : Nat) (x1 : Int32) (x2 : Int32) (x3 : Int32) (x4 : Nat) : Option (Int32 × Hp) := f_Lw_blend_b0  h x0 x1 x2 x3 x4
theorem f_Lw_blend_ok {l : Launch} {X : Nat × (Nat → Int32)} (hst : l.stackTraces = false) {h : Hp} {x0 : Nat} {x1 : Int32} {x2 : Int32} {x3 : Int32} {x4 : Nat} {r : Int32 × Hp} (E : f_Lw_blend h x0 x1 x2 x3 x4 = some r) : MC l X yL_blend mL_blend 4 [.ref x0, .int x1, .int x2, .int x3, .ref x4] h (eI r) r.2 :=
  MC.body (by decide +kernel) rfl (by decide) hst (Nat.le_of_ble_eq_true rfl) (f_Lw_blend_b0_ok hst (Nat.le_refl _) E)
abbrev mX11_saltIn : MI := (RX11, cX11_saltIn, 4, (some Jvm.ClassFile.FieldType.int), [], false)
theorem ws_X11_saltIn : ∀ w ∈ wsM yX11_saltIn mX11_saltIn, w ∈ gw := List.forall_mem_cons.mpr ⟨gw_at 1715 (by decide +kernel) (by decide +kernel), fun _ h => h⟩
def f_Model_saltIn_b4  (k4 : Hp → Nat → Int32 → Int32 → Int32 → Option (Int32 × Hp)) (h : Hp) (x0 : Nat) (x1 : Int32) (x2 : Int32) (x3 : Int32)  : Option (Int32 × Hp) :=
if (30 : Int32) ≤ x3 then (
some (x2, h)

) else (
if hS h x0 = 11 then (
bI (f_Model_layerOf h x0 x1 x3) fun v3 h4 =>
if hS h4 x0 = 11 then (
if hS h4 (hR h4 x0 1) = 20 then (
if ib ((35 : Int32) + x3) (hL h4 (hR h4 x0 1)) = true then (
k4 h4 x0 x1 (x2 + (v3 * (hI h4 (hR h4 x0 1) (ix ((35 : Int32) + x3))))) (x3 + (1 : Int32))
) else none) else none) else none) else none
)

set_option maxRecDepth 20000 in
set_option maxHeartbeats 4000000 in
theorem f_Model_saltIn_b4_ok {l : Launch} {X : Nat × (Nat → Int32)} (hst : l.stackTraces = false) {d : Nat} (hd : 2 ≤ d)   {k4 : Hp → Nat → Int32 → Int32 → Int32 → Option (Int32 × Hp)} (hk4 : ∀ (h : Hp) (x0 : Nat) (x1 : Int32) (x2 : Int32) (x3 : Int32)  (r : Int32 × Hp), k4 h x0 x1 x2 x3 = some r → Rn l X mX11_saltIn d 4 [(0, .ref x0), (1, .int x1), (2, .int x2), (3, .int x3)] [] h (eI r) r.2) {h : Hp} {x0 : Nat} {x1 : Int32} {x2 : Int32} {x3 : Int32}  {r : Int32 × Hp} (E : f_Model_saltIn_b4  k4 h x0 x1 x2 x3 = some r) : Rn l X mX11_saltIn d 4 [(0, .ref x0), (1, .int x1), (2, .int x2), (3, .int x3)] [] h (eI r) r.2 := by
  unfold f_Model_saltIn_b4 at E
  refine Rn.iload_n (pc' := 5) dX11_saltIn_4 rfl 3 rfl rfl ?_
  refine Rn.bipush (pc' := 7) (v := (30 : Int32)) (hv := by decide) dX11_saltIn_5 rfl ?_
  refine Rn.icmp_ge (pc' := 10) (tgt := 35) dX11_saltIn_7 (by decide) rfl (fun c1 => ?_) (fun c1 => ?_)
  · replace E := (if_of E).1 c1
    refine Rn.iload_n (pc' := 36) dX11_saltIn_35 rfl 2 rfl rfl ?_
    cases E
    exact Rn.zret rfl rfl dX11_saltIn_36
  · replace E := (if_of E).2 c1
    refine Rn.iload_n (pc' := 11) dX11_saltIn_10 rfl 2 rfl rfl ?_
    refine Rn.aload_n (pc' := 12) dX11_saltIn_11 rfl 0 rfl rfl ?_
    refine Rn.iload_n (pc' := 13) dX11_saltIn_12 rfl 1 rfl rfl ?_
    refine Rn.iload_n (pc' := 14) dX11_saltIn_13 rfl 3 rfl rfl ?_
    obtain ⟨g2, E⟩ := gd_of E
    obtain ⟨v3, h4, e5, E⟩ := bI_of E
    refine Rn.callV1 (pc' := 17) (As := [.int x1, .int x3]) (rest := [.int x2]) (f_Model_layerOf_ok hst e5) (Nat.le_trans (by decide) hd) rfl kb_X11_72 ki_X11_layerOf rfl g2 rfl rfl (Nat.le_of_ble_eq_true rfl) dX11_saltIn_14 rfl rfl ?_
    refine Rn.aload_n (pc' := 18) dX11_saltIn_17 rfl 0 rfl rfl ?_
    obtain ⟨g6, E⟩ := gd_of E
    refine Rn.getR (pc' := 21) fl_X11_13_10 g6 rfl dX11_saltIn_18 rfl ?_
    refine Rn.bipush (pc' := 23) (v := (35 : Int32)) (hv := by decide) dX11_saltIn_21 rfl ?_
    refine Rn.iload_n (pc' := 24) dX11_saltIn_23 rfl 3 rfl rfl ?_
    refine Rn.iadd (pc' := 25) dX11_saltIn_24 rfl ?_
    obtain ⟨g7, E⟩ := gd_of E
    obtain ⟨g8, E⟩ := gd_of E
    refine Rn.iald (pc' := 26) g7 g8 dX11_saltIn_25 rfl ?_
    refine Rn.imul (pc' := 27) dX11_saltIn_26 rfl ?_
    refine Rn.iadd (pc' := 28) dX11_saltIn_27 rfl ?_
    refine Rn.istore_n (pc' := 29) (L' := [(2, .int (x2 + (v3 * (hI h4 (hR h4 x0 1) (ix ((35 : Int32) + x3)))))), (0, .ref x0), (1, .int x1), (3, .int x3)]) dX11_saltIn_28 rfl (by decide) rfl rfl ?_
    refine Rn.iinc (pc' := 32) (v := (x3 + (1 : Int32))) (L' := [(3, .int (x3 + (1 : Int32))), (2, .int (x2 + (v3 * (hI h4 (hR h4 x0 1) (ix ((35 : Int32) + x3)))))), (0, .ref x0), (1, .int x1)]) dX11_saltIn_29 3 rfl rfl (by decide) rfl rfl ?_
    refine Rn.goto (pc' := 4) dX11_saltIn_32 (by decide) ?_
    refine Rn.sub [2, 3, 1, 0] rfl ?_
    exact hk4 _ _ _ _ _ _ E
def f_Model_saltIn_L4   (n : Nat) : Hp → Nat → Int32 → Int32 → Int32 → Option (Int32 × Hp) := Nat.rec (motive := fun _ => Hp → Nat → Int32 → Int32 → Int32 → Option (Int32 × Hp)) (fun _ _ _ _ _ => none) (fun _ rec => f_Model_saltIn_b4   rec) n
theorem f_Model_saltIn_L4_ok {l : Launch} {X : Nat × (Nat → Int32)} (hst : l.stackTraces = false) {d : Nat} (hd : 2 ≤ d)     : ∀ (n : Nat) (h : Hp) (x0 : Nat) (x1 : Int32) (x2 : Int32) (x3 : Int32)  (r : Int32 × Hp), f_Model_saltIn_L4   n h x0 x1 x2 x3 = some r → Rn l X mX11_saltIn d 4 [(0, .ref x0), (1, .int x1), (2, .int x2), (3, .int x3)] [] h (eI r) r.2 := by
  intro n
  induction n with
  | zero => intro h x0 x1 x2 x3 r E; cases E
  | succ n ih => intro h x0 x1 x2 x3 r E; exact f_Model_saltIn_b4_ok hst hd   ih E
def f_Model_saltIn_b0   (h : Hp) (x0 : Nat) (x1 : Int32)  : Option (Int32 × Hp) :=
f_Model_saltIn_L4   FU h x0 x1 (0 : Int32) (0 : Int32)

set_option maxRecDepth 20000 in
set_option maxHeartbeats 4000000 in
theorem f_Model_saltIn_b0_ok {l : Launch} {X : Nat × (Nat → Int32)} (hst : l.stackTraces = false) {d : Nat} (hd : 2 ≤ d)     {h : Hp} {x0 : Nat} {x1 : Int32}  {r : Int32 × Hp} (E : f_Model_saltIn_b0   h x0 x1 = some r) : Rn l X mX11_saltIn d 0 [(0, .ref x0), (1, .int x1)] [] h (eI r) r.2 := by
  unfold f_Model_saltIn_b0 at E
  refine Rn.iconst (pc' := 1) (v := (0 : Int32)) (hv := by decide) dX11_saltIn_0 rfl ?_
  refine Rn.istore_n (pc' := 2) (L' := [(2, .int (0 : Int32)), (0, .ref x0), (1, .int x1)]) dX11_saltIn_1 rfl (by decide) rfl rfl ?_
  refine Rn.iconst (pc' := 3) (v := (0 : Int32)) (hv := by decide) dX11_saltIn_2 rfl ?_
  refine Rn.istore_n (pc' := 4) (L' := [(3, .int (0 : Int32)), (2, .int (0 : Int32)), (0, .ref x0), (1, .int x1)]) dX11_saltIn_3 rfl (by decide) rfl rfl ?_
  refine Rn.sub [2, 3, 1, 0] rfl ?_
  exact f_Model_saltIn_L4_ok hst hd   FU _ _ _ _ _ _ E
def f_Model_saltIn (h : Hp) (x0 : Nat) (x1 : Int32) : Option (Int32 × Hp) := f_Model_saltIn_b0  h x0 x1
theorem f_Model_saltIn_ok {l : Launch} {X : Nat × (Nat → Int32)} (hst : l.stackTraces = false) {h : Hp} {x0 : Nat} {x1 : Int32} {r : Int32 × Hp} (E : f_Model_saltIn h x0 x1 = some r) : MC l X yX11_saltIn mX11_saltIn 2 [.ref x0, .int x1] h (eI r) r.2 :=
  MC.body (by decide +kernel) rfl (by decide) hst (Nat.le_of_ble_eq_true rfl) (f_Model_saltIn_b0_ok hst (Nat.le_refl _) E)
abbrev mX11_blend : MI := (RX11, cX11_blend, 17, (some Jvm.ClassFile.FieldType.int), [], false)
theorem ws_X11_blend : ∀ w ∈ wsM yX11_blend mX11_blend, w ∈ gw := List.forall_mem_cons.mpr ⟨gw_at 1836 (by decide +kernel) (by decide +kernel), fun _ h => h⟩
def f_Model_blend_b218  (k130 : Hp → Int32 → Int64 → Int64 → Int64 → Int64 → Int32 → Int32 → Int32 → Int32 → Option (Int32 × Hp)) (h : Hp) (x3 : Int32) (x4 : Int64) (x6 : Int64) (x8 : Int64) (x10 : Int64) (x12 : Int32) (x13 : Int32) (x14 : Int32) (x15 : Int32)  : Option (Int32 × Hp) :=
k130 h x3 x4 x6 x8 x10 x12 x13 x14 (x15 + (-1 : Int32))

set_option maxRecDepth 20000 in
set_option maxHeartbeats 4000000 in
theorem f_Model_blend_b218_ok {l : Launch} {X : Nat × (Nat → Int32)} (hst : l.stackTraces = false) {d : Nat} (hd : 3 ≤ d)   {k130 : Hp → Int32 → Int64 → Int64 → Int64 → Int64 → Int32 → Int32 → Int32 → Int32 → Option (Int32 × Hp)} (hk130 : ∀ (h : Hp) (x3 : Int32) (x4 : Int64) (x6 : Int64) (x8 : Int64) (x10 : Int64) (x12 : Int32) (x13 : Int32) (x14 : Int32) (x15 : Int32)  (r : Int32 × Hp), k130 h x3 x4 x6 x8 x10 x12 x13 x14 x15 = some r → Rn l X mX11_blend d 130 [(3, .int x3), (4, .long x4), (6, .long x6), (8, .long x8), (10, .long x10), (12, .int x12), (13, .int x13), (14, .int x14), (15, .int x15)] [] h (eI r) r.2) {h : Hp} {x3 : Int32} {x4 : Int64} {x6 : Int64} {x8 : Int64} {x10 : Int64} {x12 : Int32} {x13 : Int32} {x14 : Int32} {x15 : Int32}  {r : Int32 × Hp} (E : f_Model_blend_b218  k130 h x3 x4 x6 x8 x10 x12 x13 x14 x15 = some r) : Rn l X mX11_blend d 218 [(3, .int x3), (4, .long x4), (6, .long x6), (8, .long x8), (10, .long x10), (12, .int x12), (13, .int x13), (14, .int x14), (15, .int x15)] [] h (eI r) r.2 := by
  unfold f_Model_blend_b218 at E
  refine Rn.iinc (pc' := 221) (v := (x15 + (-1 : Int32))) (L' := [(15, .int (x15 + (-1 : Int32))), (3, .int x3), (4, .long x4), (6, .long x6), (8, .long x8), (10, .long x10), (12, .int x12), (13, .int x13), (14, .int x14)]) dX11_blend_218 8 rfl rfl (by decide) rfl rfl ?_
  refine Rn.goto (pc' := 130) dX11_blend_221 (by decide) ?_
  refine Rn.sub [1, 2, 3, 4, 5, 6, 7, 8, 0] rfl ?_
  exact hk130 _ _ _ _ _ _ _ _ _ _ _ E
def f_Model_blend_b182  (k130 : Hp → Int32 → Int64 → Int64 → Int64 → Int64 → Int32 → Int32 → Int32 → Int32 → Option (Int32 × Hp)) (h : Hp) (x3 : Int32) (x4 : Int64) (x6 : Int64) (x8 : Int64) (x10 : Int64) (x12 : Int32) (x13 : Int32) (x14 : Int32) (x15 : Int32) (x16 : Int32)  : Option (Int32 × Hp) :=
if x16 < 0 then (
f_Model_blend_b218  k130 h x3 x4 x6 x8 x10 x12 x13 x14 x15

) else (
if x13 < (x15 + x16) then (
f_Model_blend_b218  k130 h x3 x4 x6 x8 x10 (((1000 : Int32) * x15) + x16) (x15 + x16) x14 x15

) else (
f_Model_blend_b218  k130 h x3 x4 x6 x8 x10 x12 x13 x14 x15

)

)

set_option maxRecDepth 20000 in
set_option maxHeartbeats 4000000 in
theorem f_Model_blend_b182_ok {l : Launch} {X : Nat × (Nat → Int32)} (hst : l.stackTraces = false) {d : Nat} (hd : 3 ≤ d)   {k130 : Hp → Int32 → Int64 → Int64 → Int64 → Int64 → Int32 → Int32 → Int32 → Int32 → Option (Int32 × Hp)} (hk130 : ∀ (h : Hp) (x3 : Int32) (x4 : Int64) (x6 : Int64) (x8 : Int64) (x10 : Int64) (x12 : Int32) (x13 : Int32) (x14 : Int32) (x15 : Int32)  (r : Int32 × Hp), k130 h x3 x4 x6 x8 x10 x12 x13 x14 x15 = some r → Rn l X mX11_blend d 130 [(3, .int x3), (4, .long x4), (6, .long x6), (8, .long x8), (10, .long x10), (12, .int x12), (13, .int x13), (14, .int x14), (15, .int x15)] [] h (eI r) r.2) {h : Hp} {x3 : Int32} {x4 : Int64} {x6 : Int64} {x8 : Int64} {x10 : Int64} {x12 : Int32} {x13 : Int32} {x14 : Int32} {x15 : Int32} {x16 : Int32}  {r : Int32 × Hp} (E : f_Model_blend_b182  k130 h x3 x4 x6 x8 x10 x12 x13 x14 x15 x16 = some r) : Rn l X mX11_blend d 182 [(3, .int x3), (4, .long x4), (6, .long x6), (8, .long x8), (10, .long x10), (12, .int x12), (13, .int x13), (14, .int x14), (15, .int x15), (16, .int x16)] [] h (eI r) r.2 := by
  unfold f_Model_blend_b182 at E
  refine Rn.iload (pc' := 184) dX11_blend_182 9 rfl rfl ?_
  refine Rn.if_lt (pc' := 187) (tgt := 218) dX11_blend_184 (by decide) rfl (fun c1 => ?_) (fun c1 => ?_)
  · replace E := (if_of E).1 c1
    refine Rn.sub [0, 1, 2, 3, 4, 5, 6, 7, 8] rfl ?_
    exact f_Model_blend_b218_ok hst hd  hk130 E
  · replace E := (if_of E).2 c1
    refine Rn.iload (pc' := 189) dX11_blend_187 8 rfl rfl ?_
    refine Rn.iload (pc' := 191) dX11_blend_189 9 rfl rfl ?_
    refine Rn.iadd (pc' := 192) dX11_blend_191 rfl ?_
    refine Rn.iload (pc' := 194) dX11_blend_192 6 rfl rfl ?_
    refine Rn.icmp_gt (pc' := 197) (tgt := 200) dX11_blend_194 (by decide) rfl (fun c2 => ?_) (fun c2 => ?_)
    · replace E := (if_of E).1 c2
      refine Rn.sipush (pc' := 203) (v := (1000 : Int32)) (hv := by decide) dX11_blend_200 rfl ?_
      refine Rn.iload (pc' := 205) dX11_blend_203 8 rfl rfl ?_
      refine Rn.imul (pc' := 206) dX11_blend_205 rfl ?_
      refine Rn.iload (pc' := 208) dX11_blend_206 9 rfl rfl ?_
      refine Rn.iadd (pc' := 209) dX11_blend_208 rfl ?_
      refine Rn.istore (pc' := 211) (L' := [(12, .int (((1000 : Int32) * x15) + x16)), (3, .int x3), (4, .long x4), (6, .long x6), (8, .long x8), (10, .long x10), (13, .int x13), (14, .int x14), (15, .int x15), (16, .int x16)]) dX11_blend_209 (by decide) rfl rfl ?_
      refine Rn.iload (pc' := 213) dX11_blend_211 8 rfl rfl ?_
      refine Rn.iload (pc' := 215) dX11_blend_213 9 rfl rfl ?_
      refine Rn.iadd (pc' := 216) dX11_blend_215 rfl ?_
      refine Rn.istore (pc' := 218) (L' := [(13, .int (x15 + x16)), (12, .int (((1000 : Int32) * x15) + x16)), (3, .int x3), (4, .long x4), (6, .long x6), (8, .long x8), (10, .long x10), (14, .int x14), (15, .int x15), (16, .int x16)]) dX11_blend_216 (by decide) rfl rfl ?_
      refine Rn.sub [2, 3, 4, 5, 6, 1, 0, 7, 8] rfl ?_
      exact f_Model_blend_b218_ok hst hd  hk130 E
    · replace E := (if_of E).2 c2
      refine Rn.goto (pc' := 218) dX11_blend_197 (by decide) ?_
      refine Rn.sub [0, 1, 2, 3, 4, 5, 6, 7, 8] rfl ?_
      exact f_Model_blend_b218_ok hst hd  hk130 E
def f_Model_blend_b139  (k130 : Hp → Int32 → Int64 → Int64 → Int64 → Int64 → Int32 → Int32 → Int32 → Int32 → Option (Int32 × Hp)) (k139 : Hp → Int32 → Int64 → Int64 → Int64 → Int64 → Int32 → Int32 → Int32 → Int32 → Int32 → Option (Int32 × Hp)) (h : Hp) (x3 : Int32) (x4 : Int64) (x6 : Int64) (x8 : Int64) (x10 : Int64) (x12 : Int32) (x13 : Int32) (x14 : Int32) (x15 : Int32) (x16 : Int32)  : Option (Int32 × Hp) :=
if x16 < 0 then (
f_Model_blend_b182  k130 h x3 x4 x6 x8 x10 x12 x13 x14 x15 x16

) else (
if (lg_cmp (((Int32.toInt64 x15) * x8) + ((Int32.toInt64 x16) * x10)) ((((Int32.toInt64 x3) * x4) * x6) * (Int32.toInt64 (x15 + x16)))) ≤ 0 then (
f_Model_blend_b182  k130 h x3 x4 x6 x8 x10 x12 x13 x14 x15 x16

) else (
k139 h x3 x4 x6 x8 x10 x12 x13 x14 x15 (x16 + (-1 : Int32))

)

)

set_option maxRecDepth 20000 in
set_option maxHeartbeats 4000000 in
theorem f_Model_blend_b139_ok {l : Launch} {X : Nat × (Nat → Int32)} (hst : l.stackTraces = false) {d : Nat} (hd : 3 ≤ d)   {k130 : Hp → Int32 → Int64 → Int64 → Int64 → Int64 → Int32 → Int32 → Int32 → Int32 → Option (Int32 × Hp)} {k139 : Hp → Int32 → Int64 → Int64 → Int64 → Int64 → Int32 → Int32 → Int32 → Int32 → Int32 → Option (Int32 × Hp)} (hk130 : ∀ (h : Hp) (x3 : Int32) (x4 : Int64) (x6 : Int64) (x8 : Int64) (x10 : Int64) (x12 : Int32) (x13 : Int32) (x14 : Int32) (x15 : Int32)  (r : Int32 × Hp), k130 h x3 x4 x6 x8 x10 x12 x13 x14 x15 = some r → Rn l X mX11_blend d 130 [(3, .int x3), (4, .long x4), (6, .long x6), (8, .long x8), (10, .long x10), (12, .int x12), (13, .int x13), (14, .int x14), (15, .int x15)] [] h (eI r) r.2) (hk139 : ∀ (h : Hp) (x3 : Int32) (x4 : Int64) (x6 : Int64) (x8 : Int64) (x10 : Int64) (x12 : Int32) (x13 : Int32) (x14 : Int32) (x15 : Int32) (x16 : Int32)  (r : Int32 × Hp), k139 h x3 x4 x6 x8 x10 x12 x13 x14 x15 x16 = some r → Rn l X mX11_blend d 139 [(3, .int x3), (4, .long x4), (6, .long x6), (8, .long x8), (10, .long x10), (12, .int x12), (13, .int x13), (14, .int x14), (15, .int x15), (16, .int x16)] [] h (eI r) r.2) {h : Hp} {x3 : Int32} {x4 : Int64} {x6 : Int64} {x8 : Int64} {x10 : Int64} {x12 : Int32} {x13 : Int32} {x14 : Int32} {x15 : Int32} {x16 : Int32}  {r : Int32 × Hp} (E : f_Model_blend_b139  k130 k139 h x3 x4 x6 x8 x10 x12 x13 x14 x15 x16 = some r) : Rn l X mX11_blend d 139 [(3, .int x3), (4, .long x4), (6, .long x6), (8, .long x8), (10, .long x10), (12, .int x12), (13, .int x13), (14, .int x14), (15, .int x15), (16, .int x16)] [] h (eI r) r.2 := by
  unfold f_Model_blend_b139 at E
  refine Rn.iload (pc' := 141) dX11_blend_139 9 rfl rfl ?_
  refine Rn.if_lt (pc' := 144) (tgt := 182) dX11_blend_141 (by decide) rfl (fun c1 => ?_) (fun c1 => ?_)
  · replace E := (if_of E).1 c1
    exact f_Model_blend_b182_ok hst hd  hk130 E
  · replace E := (if_of E).2 c1
    refine Rn.iload (pc' := 146) dX11_blend_144 8 rfl rfl ?_
    refine Rn.i2l (pc' := 147) dX11_blend_146 rfl ?_
    refine Rn.lload (pc' := 149) dX11_blend_147 3 rfl rfl ?_
    refine Rn.lmul (pc' := 150) dX11_blend_149 rfl ?_
    refine Rn.iload (pc' := 152) dX11_blend_150 9 rfl rfl ?_
    refine Rn.i2l (pc' := 153) dX11_blend_152 rfl ?_
    refine Rn.lload (pc' := 155) dX11_blend_153 4 rfl rfl ?_
    refine Rn.lmul (pc' := 156) dX11_blend_155 rfl ?_
    refine Rn.ladd (pc' := 157) dX11_blend_156 rfl ?_
    refine Rn.iload_n (pc' := 158) dX11_blend_157 rfl 0 rfl rfl ?_
    refine Rn.i2l (pc' := 159) dX11_blend_158 rfl ?_
    refine Rn.lload (pc' := 161) dX11_blend_159 1 rfl rfl ?_
    refine Rn.lmul (pc' := 162) dX11_blend_161 rfl ?_
    refine Rn.lload (pc' := 164) dX11_blend_162 2 rfl rfl ?_
    refine Rn.lmul (pc' := 165) dX11_blend_164 rfl ?_
    refine Rn.iload (pc' := 167) dX11_blend_165 8 rfl rfl ?_
    refine Rn.iload (pc' := 169) dX11_blend_167 9 rfl rfl ?_
    refine Rn.iadd (pc' := 170) dX11_blend_169 rfl ?_
    refine Rn.i2l (pc' := 171) dX11_blend_170 rfl ?_
    refine Rn.lmul (pc' := 172) dX11_blend_171 rfl ?_
    refine Rn.lcmp (pc' := 173) dX11_blend_172 rfl ?_
    refine Rn.if_le (pc' := 176) (tgt := 182) dX11_blend_173 (by decide) rfl (fun c2 => ?_) (fun c2 => ?_)
    · replace E := (if_of E).1 c2
      exact f_Model_blend_b182_ok hst hd  hk130 E
    · replace E := (if_of E).2 c2
      refine Rn.iinc (pc' := 179) (v := (x16 + (-1 : Int32))) (L' := [(16, .int (x16 + (-1 : Int32))), (3, .int x3), (4, .long x4), (6, .long x6), (8, .long x8), (10, .long x10), (12, .int x12), (13, .int x13), (14, .int x14), (15, .int x15)]) dX11_blend_176 9 rfl rfl (by decide) rfl rfl ?_
      refine Rn.goto (pc' := 139) dX11_blend_179 (by decide) ?_
      refine Rn.sub [1, 2, 3, 4, 5, 6, 7, 8, 9, 0] rfl ?_
      exact hk139 _ _ _ _ _ _ _ _ _ _ _ _ E
def f_Model_blend_L139  (k130 : Hp → Int32 → Int64 → Int64 → Int64 → Int64 → Int32 → Int32 → Int32 → Int32 → Option (Int32 × Hp)) (n : Nat) : Hp → Int32 → Int64 → Int64 → Int64 → Int64 → Int32 → Int32 → Int32 → Int32 → Int32 → Option (Int32 × Hp) := Nat.rec (motive := fun _ => Hp → Int32 → Int64 → Int64 → Int64 → Int64 → Int32 → Int32 → Int32 → Int32 → Int32 → Option (Int32 × Hp)) (fun _ _ _ _ _ _ _ _ _ _ _ => none) (fun _ rec => f_Model_blend_b139  k130 rec) n
theorem f_Model_blend_L139_ok {l : Launch} {X : Nat × (Nat → Int32)} (hst : l.stackTraces = false) {d : Nat} (hd : 3 ≤ d)   {k130 : Hp → Int32 → Int64 → Int64 → Int64 → Int64 → Int32 → Int32 → Int32 → Int32 → Option (Int32 × Hp)} (hk130 : ∀ (h : Hp) (x3 : Int32) (x4 : Int64) (x6 : Int64) (x8 : Int64) (x10 : Int64) (x12 : Int32) (x13 : Int32) (x14 : Int32) (x15 : Int32)  (r : Int32 × Hp), k130 h x3 x4 x6 x8 x10 x12 x13 x14 x15 = some r → Rn l X mX11_blend d 130 [(3, .int x3), (4, .long x4), (6, .long x6), (8, .long x8), (10, .long x10), (12, .int x12), (13, .int x13), (14, .int x14), (15, .int x15)] [] h (eI r) r.2) : ∀ (n : Nat) (h : Hp) (x3 : Int32) (x4 : Int64) (x6 : Int64) (x8 : Int64) (x10 : Int64) (x12 : Int32) (x13 : Int32) (x14 : Int32) (x15 : Int32) (x16 : Int32)  (r : Int32 × Hp), f_Model_blend_L139  k130 n h x3 x4 x6 x8 x10 x12 x13 x14 x15 x16 = some r → Rn l X mX11_blend d 139 [(3, .int x3), (4, .long x4), (6, .long x6), (8, .long x8), (10, .long x10), (12, .int x12), (13, .int x13), (14, .int x14), (15, .int x15), (16, .int x16)] [] h (eI r) r.2 := by
  intro n
  induction n with
  | zero => intro h x3 x4 x6 x8 x10 x12 x13 x14 x15 x16 r E; cases E
  | succ n ih => intro h x3 x4 x6 x8 x10 x12 x13 x14 x15 x16 r E; exact f_Model_blend_b139_ok hst hd  hk130 ih E
def f_Model_blend_b130  (k130 : Hp → Int32 → Int64 → Int64 → Int64 → Int64 → Int32 → Int32 → Int32 → Int32 → Option (Int32 × Hp)) (h : Hp) (x3 : Int32) (x4 : Int64) (x6 : Int64) (x8 : Int64) (x10 : Int64) (x12 : Int32) (x13 : Int32) (x14 : Int32) (x15 : Int32)  : Option (Int32 × Hp) :=
if x15 < 0 then (
some (x12, h)

) else (
f_Model_blend_L139  k130 FU h x3 x4 x6 x8 x10 x12 x13 x14 x15 x14

)

set_option maxRecDepth 20000 in
set_option maxHeartbeats 4000000 in
theorem f_Model_blend_b130_ok {l : Launch} {X : Nat × (Nat → Int32)} (hst : l.stackTraces = false) {d : Nat} (hd : 3 ≤ d)   {k130 : Hp → Int32 → Int64 → Int64 → Int64 → Int64 → Int32 → Int32 → Int32 → Int32 → Option (Int32 × Hp)} (hk130 : ∀ (h : Hp) (x3 : Int32) (x4 : Int64) (x6 : Int64) (x8 : Int64) (x10 : Int64) (x12 : Int32) (x13 : Int32) (x14 : Int32) (x15 : Int32)  (r : Int32 × Hp), k130 h x3 x4 x6 x8 x10 x12 x13 x14 x15 = some r → Rn l X mX11_blend d 130 [(3, .int x3), (4, .long x4), (6, .long x6), (8, .long x8), (10, .long x10), (12, .int x12), (13, .int x13), (14, .int x14), (15, .int x15)] [] h (eI r) r.2) {h : Hp} {x3 : Int32} {x4 : Int64} {x6 : Int64} {x8 : Int64} {x10 : Int64} {x12 : Int32} {x13 : Int32} {x14 : Int32} {x15 : Int32}  {r : Int32 × Hp} (E : f_Model_blend_b130  k130 h x3 x4 x6 x8 x10 x12 x13 x14 x15 = some r) : Rn l X mX11_blend d 130 [(3, .int x3), (4, .long x4), (6, .long x6), (8, .long x8), (10, .long x10), (12, .int x12), (13, .int x13), (14, .int x14), (15, .int x15)] [] h (eI r) r.2 := by
  unfold f_Model_blend_b130 at E
  refine Rn.iload (pc' := 132) dX11_blend_130 8 rfl rfl ?_
  refine Rn.if_lt (pc' := 135) (tgt := 224) dX11_blend_132 (by decide) rfl (fun c1 => ?_) (fun c1 => ?_)
  · replace E := (if_of E).1 c1
    refine Rn.iload (pc' := 226) dX11_blend_224 5 rfl rfl ?_
    cases E
    exact Rn.zret rfl rfl dX11_blend_226
  · replace E := (if_of E).2 c1
    refine Rn.iload (pc' := 137) dX11_blend_135 7 rfl rfl ?_
    refine Rn.istore (pc' := 139) (L' := [(16, .int x14), (3, .int x3), (4, .long x4), (6, .long x6), (8, .long x8), (10, .long x10), (12, .int x12), (13, .int x13), (14, .int x14), (15, .int x15)]) dX11_blend_137 (by decide) rfl rfl ?_
    refine Rn.sub [1, 2, 3, 4, 5, 6, 7, 8, 9, 0] rfl ?_
    exact f_Model_blend_L139_ok hst hd  hk130 FU _ _ _ _ _ _ _ _ _ _ _ _ E
def f_Model_blend_L130   (n : Nat) : Hp → Int32 → Int64 → Int64 → Int64 → Int64 → Int32 → Int32 → Int32 → Int32 → Option (Int32 × Hp) := Nat.rec (motive := fun _ => Hp → Int32 → Int64 → Int64 → Int64 → Int64 → Int32 → Int32 → Int32 → Int32 → Option (Int32 × Hp)) (fun _ _ _ _ _ _ _ _ _ _ => none) (fun _ rec => f_Model_blend_b130   rec) n
theorem f_Model_blend_L130_ok {l : Launch} {X : Nat × (Nat → Int32)} (hst : l.stackTraces = false) {d : Nat} (hd : 3 ≤ d)     : ∀ (n : Nat) (h : Hp) (x3 : Int32) (x4 : Int64) (x6 : Int64) (x8 : Int64) (x10 : Int64) (x12 : Int32) (x13 : Int32) (x14 : Int32) (x15 : Int32)  (r : Int32 × Hp), f_Model_blend_L130   n h x3 x4 x6 x8 x10 x12 x13 x14 x15 = some r → Rn l X mX11_blend d 130 [(3, .int x3), (4, .long x4), (6, .long x6), (8, .long x8), (10, .long x10), (12, .int x12), (13, .int x13), (14, .int x14), (15, .int x15)] [] h (eI r) r.2 := by
  intro n
  induction n with
  | zero => intro h x3 x4 x6 x8 x10 x12 x13 x14 x15 r E; cases E
  | succ n ih => intro h x3 x4 x6 x8 x10 x12 x13 x14 x15 r E; exact f_Model_blend_b130_ok hst hd   ih E
theorem kb_X11_79 : KB RX11 79 yX11_saltIn mX11_saltIn 1 := ⟨gw_at 1712 (by decide +kernel) (by decide +kernel), gw_at 117 (by decide +kernel) (by decide +kernel), trivial, ws_X11_saltIn, by decide +kernel, by decide +kernel, by decide +kernel, by decide⟩
theorem ki_X11_saltIn : Cond.instanceMethod yX11_saltIn ∈ gw ∧ Cond.selects yX11_saltIn.cls yX11_saltIn yX11_saltIn ∈ gw := ⟨gw_at 1714 (by decide +kernel) (by decide +kernel), gw_at 80 (by decide +kernel) (by decide +kernel)⟩
def f_Model_blend_b55   (h : Hp) (x0 : Nat) (x1 : Int32) (x2 : Int32) (x3 : Int32) (s0 : Nat) (s1 : Int32) : Option (Int32 × Hp) :=
if hS h s0 = 11 then (
bI (f_Model_throwsIf h s0 s1 (2 : Int32)) fun v2 h3 =>
if v2 = 0 then (
if hS h3 x0 = 11 then (
bI (f_Model_measures h3 x0 x1) fun v7 h8 =>
bI (f_Math_max h8 (1 : Int32) v7) fun v10 h11 =>
if hS h11 x0 = 11 then (
bI (f_Model_measures h11 x0 x2) fun v14 h15 =>
bI (f_Math_max h15 (1 : Int32) v14) fun v17 h18 =>
if hS h18 x0 = 11 then (
bI (f_Model_saltIn h18 x0 x1) fun v21 h22 =>
if hS h22 x0 = 11 then (
bI (f_Model_saltIn h22 x0 x2) fun v25 h26 =>
if hS h26 x0 = 11 then (
bI (f_Model_measures h26 x0 x2) fun v29 h30 =>
if hS h30 x0 = 11 then (
bI (f_Model_measures h30 x0 x1) fun v33 h34 =>
f_Model_blend_L130   FU h34 x3 (Int32.toInt64 v10) (Int32.toInt64 v17) ((Int32.toInt64 v17) * (Int32.toInt64 v21)) ((Int32.toInt64 v10) * (Int32.toInt64 v25)) (0 : Int32) (0 : Int32) v29 v33
) else none) else none) else none) else none) else none) else none
) else (
some ((0 : Int32), h3)

)
) else none
set_option maxRecDepth 20000 in
set_option maxHeartbeats 4000000 in
theorem f_Model_blend_b55_ok {l : Launch} {X : Nat × (Nat → Int32)} (hst : l.stackTraces = false) {d : Nat} (hd : 3 ≤ d)     {h : Hp} {x0 : Nat} {x1 : Int32} {x2 : Int32} {x3 : Int32} {s0 : Nat} {s1 : Int32} {r : Int32 × Hp} (E : f_Model_blend_b55   h x0 x1 x2 x3 s0 s1 = some r) : Rn l X mX11_blend d 55 [(0, .ref x0), (1, .int x1), (2, .int x2), (3, .int x3)] [.int s1, .ref s0] h (eI r) r.2 := by
  unfold f_Model_blend_b55 at E
  refine Rn.iconst (pc' := 56) (v := (2 : Int32)) (hv := by decide) dX11_blend_55 rfl ?_
  obtain ⟨g1, E⟩ := gd_of E
  obtain ⟨v2, h3, e4, E⟩ := bI_of E
  refine Rn.callV1 (pc' := 59) (As := [.int s1, .int (2 : Int32)]) (rest := []) (f_Model_throwsIf_ok hst e4) (Nat.le_trans (by decide) hd) rfl kb_X11_265 ki_X11_throwsIf rfl g1 rfl rfl (Nat.le_of_ble_eq_true rfl) dX11_blend_56 rfl rfl ?_
  refine Rn.if_eq (pc' := 62) (tgt := 64) dX11_blend_59 (by decide) rfl (fun c5 => ?_) (fun c5 => ?_)
  · replace E := (if_of E).1 c5
    refine Rn.iconst (pc' := 65) (v := (1 : Int32)) (hv := by decide) dX11_blend_64 rfl ?_
    refine Rn.aload_n (pc' := 66) dX11_blend_65 rfl 0 rfl rfl ?_
    refine Rn.iload_n (pc' := 67) dX11_blend_66 rfl 1 rfl rfl ?_
    obtain ⟨g6, E⟩ := gd_of E
    obtain ⟨v7, h8, e9, E⟩ := bI_of E
    refine Rn.callV1 (pc' := 70) (As := [.int x1]) (rest := [.int (1 : Int32)]) (f_Model_measures_ok hst e9) (Nat.le_trans (by decide) hd) rfl kb_X11_75 ki_X11_measures rfl g6 rfl rfl (Nat.le_of_ble_eq_true rfl) dX11_blend_67 rfl rfl ?_
    obtain ⟨v10, h11, e12, E⟩ := bI_of E
    refine Rn.callS1 (pc' := 73) (As := [.int (1 : Int32), .int v7]) (rest := []) (f_Math_max_ok hst e12) (Nat.le_trans (by decide) hd) rfl kb_X11_271 ks_J9_max_7cf53 rfl rfl (Nat.le_of_ble_eq_true rfl) dX11_blend_70 rfl rfl ?_
    refine Rn.i2l (pc' := 74) dX11_blend_73 rfl ?_
    refine Rn.lstore (pc' := 76) (L' := [(4, .long (Int32.toInt64 v10)), (0, .ref x0), (1, .int x1), (2, .int x2), (3, .int x3)]) dX11_blend_74 (by decide) rfl rfl ?_
    refine Rn.iconst (pc' := 77) (v := (1 : Int32)) (hv := by decide) dX11_blend_76 rfl ?_
    refine Rn.aload_n (pc' := 78) dX11_blend_77 rfl 1 rfl rfl ?_
    refine Rn.iload_n (pc' := 79) dX11_blend_78 rfl 3 rfl rfl ?_
    obtain ⟨g13, E⟩ := gd_of E
    obtain ⟨v14, h15, e16, E⟩ := bI_of E
    refine Rn.callV1 (pc' := 82) (As := [.int x2]) (rest := [.int (1 : Int32)]) (f_Model_measures_ok hst e16) (Nat.le_trans (by decide) hd) rfl kb_X11_75 ki_X11_measures rfl g13 rfl rfl (Nat.le_of_ble_eq_true rfl) dX11_blend_79 rfl rfl ?_
    obtain ⟨v17, h18, e19, E⟩ := bI_of E
    refine Rn.callS1 (pc' := 85) (As := [.int (1 : Int32), .int v14]) (rest := []) (f_Math_max_ok hst e19) (Nat.le_trans (by decide) hd) rfl kb_X11_271 ks_J9_max_7cf53 rfl rfl (Nat.le_of_ble_eq_true rfl) dX11_blend_82 rfl rfl ?_
    refine Rn.i2l (pc' := 86) dX11_blend_85 rfl ?_
    refine Rn.lstore (pc' := 88) (L' := [(6, .long (Int32.toInt64 v17)), (4, .long (Int32.toInt64 v10)), (0, .ref x0), (1, .int x1), (2, .int x2), (3, .int x3)]) dX11_blend_86 (by decide) rfl rfl ?_
    refine Rn.lload (pc' := 90) dX11_blend_88 0 rfl rfl ?_
    refine Rn.aload_n (pc' := 91) dX11_blend_90 rfl 2 rfl rfl ?_
    refine Rn.iload_n (pc' := 92) dX11_blend_91 rfl 3 rfl rfl ?_
    obtain ⟨g20, E⟩ := gd_of E
    obtain ⟨v21, h22, e23, E⟩ := bI_of E
    refine Rn.callV1 (pc' := 95) (As := [.int x1]) (rest := [.long (Int32.toInt64 v17)]) (f_Model_saltIn_ok hst e23) (Nat.le_trans (by decide) hd) rfl kb_X11_79 ki_X11_saltIn rfl g20 rfl rfl (Nat.le_of_ble_eq_true rfl) dX11_blend_92 rfl rfl ?_
    refine Rn.i2l (pc' := 96) dX11_blend_95 rfl ?_
    refine Rn.lmul (pc' := 97) dX11_blend_96 rfl ?_
    refine Rn.lstore (pc' := 99) (L' := [(8, .long ((Int32.toInt64 v17) * (Int32.toInt64 v21))), (6, .long (Int32.toInt64 v17)), (4, .long (Int32.toInt64 v10)), (0, .ref x0), (1, .int x1), (2, .int x2), (3, .int x3)]) dX11_blend_97 (by decide) rfl rfl ?_
    refine Rn.lload (pc' := 101) dX11_blend_99 2 rfl rfl ?_
    refine Rn.aload_n (pc' := 102) dX11_blend_101 rfl 3 rfl rfl ?_
    refine Rn.iload_n (pc' := 103) dX11_blend_102 rfl 5 rfl rfl ?_
    obtain ⟨g24, E⟩ := gd_of E
    obtain ⟨v25, h26, e27, E⟩ := bI_of E
    refine Rn.callV1 (pc' := 106) (As := [.int x2]) (rest := [.long (Int32.toInt64 v10)]) (f_Model_saltIn_ok hst e27) (Nat.le_trans (by decide) hd) rfl kb_X11_79 ki_X11_saltIn rfl g24 rfl rfl (Nat.le_of_ble_eq_true rfl) dX11_blend_103 rfl rfl ?_
    refine Rn.i2l (pc' := 107) dX11_blend_106 rfl ?_
    refine Rn.lmul (pc' := 108) dX11_blend_107 rfl ?_
    refine Rn.lstore (pc' := 110) (L' := [(10, .long ((Int32.toInt64 v10) * (Int32.toInt64 v25))), (8, .long ((Int32.toInt64 v17) * (Int32.toInt64 v21))), (6, .long (Int32.toInt64 v17)), (4, .long (Int32.toInt64 v10)), (0, .ref x0), (1, .int x1), (2, .int x2), (3, .int x3)]) dX11_blend_108 (by decide) rfl rfl ?_
    refine Rn.iconst (pc' := 111) (v := (0 : Int32)) (hv := by decide) dX11_blend_110 rfl ?_
    refine Rn.istore (pc' := 113) (L' := [(12, .int (0 : Int32)), (10, .long ((Int32.toInt64 v10) * (Int32.toInt64 v25))), (8, .long ((Int32.toInt64 v17) * (Int32.toInt64 v21))), (6, .long (Int32.toInt64 v17)), (4, .long (Int32.toInt64 v10)), (0, .ref x0), (1, .int x1), (2, .int x2), (3, .int x3)]) dX11_blend_111 (by decide) rfl rfl ?_
    refine Rn.iconst (pc' := 114) (v := (0 : Int32)) (hv := by decide) dX11_blend_113 rfl ?_
    refine Rn.istore (pc' := 116) (L' := [(13, .int (0 : Int32)), (12, .int (0 : Int32)), (10, .long ((Int32.toInt64 v10) * (Int32.toInt64 v25))), (8, .long ((Int32.toInt64 v17) * (Int32.toInt64 v21))), (6, .long (Int32.toInt64 v17)), (4, .long (Int32.toInt64 v10)), (0, .ref x0), (1, .int x1), (2, .int x2), (3, .int x3)]) dX11_blend_114 (by decide) rfl rfl ?_
    refine Rn.aload_n (pc' := 117) dX11_blend_116 rfl 6 rfl rfl ?_
    refine Rn.iload_n (pc' := 118) dX11_blend_117 rfl 8 rfl rfl ?_
    obtain ⟨g28, E⟩ := gd_of E
    obtain ⟨v29, h30, e31, E⟩ := bI_of E
    refine Rn.callV1 (pc' := 121) (As := [.int x2]) (rest := []) (f_Model_measures_ok hst e31) (Nat.le_trans (by decide) hd) rfl kb_X11_75 ki_X11_measures rfl g28 rfl rfl (Nat.le_of_ble_eq_true rfl) dX11_blend_118 rfl rfl ?_
    refine Rn.istore (pc' := 123) (L' := [(14, .int v29), (13, .int (0 : Int32)), (12, .int (0 : Int32)), (10, .long ((Int32.toInt64 v10) * (Int32.toInt64 v25))), (8, .long ((Int32.toInt64 v17) * (Int32.toInt64 v21))), (6, .long (Int32.toInt64 v17)), (4, .long (Int32.toInt64 v10)), (0, .ref x0), (1, .int x1), (2, .int x2), (3, .int x3)]) dX11_blend_121 (by decide) rfl rfl ?_
    refine Rn.aload_n (pc' := 124) dX11_blend_123 rfl 7 rfl rfl ?_
    refine Rn.iload_n (pc' := 125) dX11_blend_124 rfl 8 rfl rfl ?_
    obtain ⟨g32, E⟩ := gd_of E
    obtain ⟨v33, h34, e35, E⟩ := bI_of E
    refine Rn.callV1 (pc' := 128) (As := [.int x1]) (rest := []) (f_Model_measures_ok hst e35) (Nat.le_trans (by decide) hd) rfl kb_X11_75 ki_X11_measures rfl g32 rfl rfl (Nat.le_of_ble_eq_true rfl) dX11_blend_125 rfl rfl ?_
    refine Rn.istore (pc' := 130) (L' := [(15, .int v33), (14, .int v29), (13, .int (0 : Int32)), (12, .int (0 : Int32)), (10, .long ((Int32.toInt64 v10) * (Int32.toInt64 v25))), (8, .long ((Int32.toInt64 v17) * (Int32.toInt64 v21))), (6, .long (Int32.toInt64 v17)), (4, .long (Int32.toInt64 v10)), (0, .ref x0), (1, .int x1), (2, .int x2), (3, .int x3)]) dX11_blend_128 (by decide) rfl rfl ?_
    refine Rn.sub [11, 7, 6, 5, 4, 3, 2, 1, 0] rfl ?_
    exact f_Model_blend_L130_ok hst hd   FU _ _ _ _ _ _ _ _ _ _ _ E
  · replace E := (if_of E).2 c5
    refine Rn.iconst (pc' := 63) (v := (0 : Int32)) (hv := by decide) dX11_blend_62 rfl ?_
    cases E
    exact Rn.zret rfl rfl dX11_blend_63
def f_Model_blend_b50   (h : Hp) (x0 : Nat) (x1 : Int32) (x2 : Int32) (x3 : Int32) (s0 : Nat) : Option (Int32 × Hp) :=
f_Model_blend_b55   h x0 x1 x2 x3 s0 (1 : Int32)

set_option maxRecDepth 20000 in
set_option maxHeartbeats 4000000 in
theorem f_Model_blend_b50_ok {l : Launch} {X : Nat × (Nat → Int32)} (hst : l.stackTraces = false) {d : Nat} (hd : 3 ≤ d)     {h : Hp} {x0 : Nat} {x1 : Int32} {x2 : Int32} {x3 : Int32} {s0 : Nat} {r : Int32 × Hp} (E : f_Model_blend_b50   h x0 x1 x2 x3 s0 = some r) : Rn l X mX11_blend d 50 [(0, .ref x0), (1, .int x1), (2, .int x2), (3, .int x3)] [.ref s0] h (eI r) r.2 := by
  unfold f_Model_blend_b50 at E
  refine Rn.iconst (pc' := 51) (v := (1 : Int32)) (hv := by decide) dX11_blend_50 rfl ?_
  refine Rn.goto (pc' := 55) dX11_blend_51 (by decide) ?_
  exact f_Model_blend_b55_ok hst hd   E
def f_Model_blend_b27   (h : Hp) (x0 : Nat) (x1 : Int32) (x2 : Int32) (x3 : Int32) (s0 : Nat) (s1 : Int32) : Option (Int32 × Hp) :=
if hS h s0 = 11 then (
bI (f_Model_throwsIf h s0 s1 (1 : Int32)) fun v2 h3 =>
if v2 = 0 then (
if x1 = x2 then (
f_Model_blend_b50   h3 x0 x1 x2 x3 x0

) else (
bI (f_Model_in h3 x3 (0 : Int32) (99 : Int32)) fun v7 h8 =>
if v7 = 0 then (
f_Model_blend_b50   h8 x0 x1 x2 x3 x0

) else (
f_Model_blend_b55   h8 x0 x1 x2 x3 x0 (0 : Int32)

)

)

) else (
some ((0 : Int32), h3)

)
) else none
set_option maxRecDepth 20000 in
set_option maxHeartbeats 4000000 in
theorem f_Model_blend_b27_ok {l : Launch} {X : Nat × (Nat → Int32)} (hst : l.stackTraces = false) {d : Nat} (hd : 3 ≤ d)     {h : Hp} {x0 : Nat} {x1 : Int32} {x2 : Int32} {x3 : Int32} {s0 : Nat} {s1 : Int32} {r : Int32 × Hp} (E : f_Model_blend_b27   h x0 x1 x2 x3 s0 s1 = some r) : Rn l X mX11_blend d 27 [(0, .ref x0), (1, .int x1), (2, .int x2), (3, .int x3)] [.int s1, .ref s0] h (eI r) r.2 := by
  unfold f_Model_blend_b27 at E
  refine Rn.iconst (pc' := 28) (v := (1 : Int32)) (hv := by decide) dX11_blend_27 rfl ?_
  obtain ⟨g1, E⟩ := gd_of E
  obtain ⟨v2, h3, e4, E⟩ := bI_of E
  refine Rn.callV1 (pc' := 31) (As := [.int s1, .int (1 : Int32)]) (rest := []) (f_Model_throwsIf_ok hst e4) (Nat.le_trans (by decide) hd) rfl kb_X11_265 ki_X11_throwsIf rfl g1 rfl rfl (Nat.le_of_ble_eq_true rfl) dX11_blend_28 rfl rfl ?_
  refine Rn.if_ne (pc' := 34) (tgt := 62) dX11_blend_31 (by decide) rfl (fun c5 => ?_) (fun c5 => ?_)
  · replace E := (if_of E).2 c5
    refine Rn.iconst (pc' := 63) (v := (0 : Int32)) (hv := by decide) dX11_blend_62 rfl ?_
    cases E
    exact Rn.zret rfl rfl dX11_blend_63
  · replace E := (if_of E).1 c5
    refine Rn.aload_n (pc' := 35) dX11_blend_34 rfl 0 rfl rfl ?_
    refine Rn.iload_n (pc' := 36) dX11_blend_35 rfl 1 rfl rfl ?_
    refine Rn.iload_n (pc' := 37) dX11_blend_36 rfl 2 rfl rfl ?_
    refine Rn.icmp_eq (pc' := 40) (tgt := 50) dX11_blend_37 (by decide) rfl (fun c6 => ?_) (fun c6 => ?_)
    · replace E := (if_of E).1 c6
      exact f_Model_blend_b50_ok hst hd   E
    · replace E := (if_of E).2 c6
      refine Rn.iload_n (pc' := 41) dX11_blend_40 rfl 3 rfl rfl ?_
      refine Rn.iconst (pc' := 42) (v := (0 : Int32)) (hv := by decide) dX11_blend_41 rfl ?_
      refine Rn.bipush (pc' := 44) (v := (99 : Int32)) (hv := by decide) dX11_blend_42 rfl ?_
      obtain ⟨v7, h8, e9, E⟩ := bI_of E
      refine Rn.callS1 (pc' := 47) (As := [.int x3, .int (0 : Int32), .int (99 : Int32)]) (rest := [.ref x0]) (f_Model_in_ok hst e9) (Nat.le_trans (by decide) hd) rfl kb_X11_56 ks_X11_in rfl rfl (Nat.le_of_ble_eq_true rfl) dX11_blend_44 rfl rfl ?_
      refine Rn.if_ne (pc' := 50) (tgt := 54) dX11_blend_47 (by decide) rfl (fun c10 => ?_) (fun c10 => ?_)
      · replace E := (if_of E).2 c10
        refine Rn.iconst (pc' := 55) (v := (0 : Int32)) (hv := by decide) dX11_blend_54 rfl ?_
        exact f_Model_blend_b55_ok hst hd   E
      · replace E := (if_of E).1 c10
        exact f_Model_blend_b50_ok hst hd   E
def f_Model_blend_b22   (h : Hp) (x0 : Nat) (x1 : Int32) (x2 : Int32) (x3 : Int32) (s0 : Nat) : Option (Int32 × Hp) :=
f_Model_blend_b27   h x0 x1 x2 x3 s0 (1 : Int32)

set_option maxRecDepth 20000 in
set_option maxHeartbeats 4000000 in
theorem f_Model_blend_b22_ok {l : Launch} {X : Nat × (Nat → Int32)} (hst : l.stackTraces = false) {d : Nat} (hd : 3 ≤ d)     {h : Hp} {x0 : Nat} {x1 : Int32} {x2 : Int32} {x3 : Int32} {s0 : Nat} {r : Int32 × Hp} (E : f_Model_blend_b22   h x0 x1 x2 x3 s0 = some r) : Rn l X mX11_blend d 22 [(0, .ref x0), (1, .int x1), (2, .int x2), (3, .int x3)] [.ref s0] h (eI r) r.2 := by
  unfold f_Model_blend_b22 at E
  refine Rn.iconst (pc' := 23) (v := (1 : Int32)) (hv := by decide) dX11_blend_22 rfl ?_
  refine Rn.goto (pc' := 27) dX11_blend_23 (by decide) ?_
  exact f_Model_blend_b27_ok hst hd   E
def f_Model_blend_b0   (h : Hp) (x0 : Nat) (x1 : Int32) (x2 : Int32) (x3 : Int32)  : Option (Int32 × Hp) :=
if hS h x0 = 11 then (
wr (sI h x0 0 (0 : Int32)) fun h2 =>
bI (f_Model_noCistern h2 x0 x1) fun v4 h5 =>
if v4 = 0 then (
if hS h5 x0 = 11 then (
bI (f_Model_noCistern h5 x0 x2) fun v9 h10 =>
if v9 = 0 then (
f_Model_blend_b27   h10 x0 x1 x2 x3 x0 (0 : Int32)

) else (
f_Model_blend_b22   h10 x0 x1 x2 x3 x0

)
) else none
) else (
f_Model_blend_b22   h5 x0 x1 x2 x3 x0

)
) else none
set_option maxRecDepth 20000 in
set_option maxHeartbeats 4000000 in
theorem f_Model_blend_b0_ok {l : Launch} {X : Nat × (Nat → Int32)} (hst : l.stackTraces = false) {d : Nat} (hd : 3 ≤ d)     {h : Hp} {x0 : Nat} {x1 : Int32} {x2 : Int32} {x3 : Int32}  {r : Int32 × Hp} (E : f_Model_blend_b0   h x0 x1 x2 x3 = some r) : Rn l X mX11_blend d 0 [(0, .ref x0), (1, .int x1), (2, .int x2), (3, .int x3)] [] h (eI r) r.2 := by
  unfold f_Model_blend_b0 at E
  refine Rn.aload_n (pc' := 1) dX11_blend_0 rfl 0 rfl rfl ?_
  refine Rn.iconst (pc' := 2) (v := (0 : Int32)) (hv := by decide) dX11_blend_1 rfl ?_
  obtain ⟨g1, E⟩ := gd_of E
  refine Rn.putI (pc' := 5) fl_X11_3_10 (fun q hq => by cases hq; decide) g1 rfl rfl rfl dX11_blend_2 rfl ?_
  replace E := wr_of E
  generalize eh3 : sI h x0 0 (0 : Int32) = h2 at E ⊢
  refine Rn.aload_n (pc' := 6) dX11_blend_5 rfl 0 rfl rfl ?_
  refine Rn.aload_n (pc' := 7) dX11_blend_6 rfl 0 rfl rfl ?_
  refine Rn.iload_n (pc' := 8) dX11_blend_7 rfl 1 rfl rfl ?_
  obtain ⟨v4, h5, e6, E⟩ := bI_of E
  refine Rn.callV1 (pc' := 11) (As := [.int x1]) (rest := [.ref x0]) (f_Model_noCistern_ok hst e6) (Nat.le_trans (by decide) hd) rfl kb_X11_284 ki_X11_noCistern rfl (kp_sI eh3 g1) rfl rfl (Nat.le_of_ble_eq_true rfl) dX11_blend_8 rfl rfl ?_
  refine Rn.if_ne (pc' := 14) (tgt := 22) dX11_blend_11 (by decide) rfl (fun c7 => ?_) (fun c7 => ?_)
  · replace E := (if_of E).2 c7
    exact f_Model_blend_b22_ok hst hd   E
  · replace E := (if_of E).1 c7
    refine Rn.aload_n (pc' := 15) dX11_blend_14 rfl 0 rfl rfl ?_
    refine Rn.iload_n (pc' := 16) dX11_blend_15 rfl 2 rfl rfl ?_
    obtain ⟨g8, E⟩ := gd_of E
    obtain ⟨v9, h10, e11, E⟩ := bI_of E
    refine Rn.callV1 (pc' := 19) (As := [.int x2]) (rest := [.ref x0]) (f_Model_noCistern_ok hst e11) (Nat.le_trans (by decide) hd) rfl kb_X11_284 ki_X11_noCistern rfl g8 rfl rfl (Nat.le_of_ble_eq_true rfl) dX11_blend_16 rfl rfl ?_
    refine Rn.if_eq (pc' := 22) (tgt := 26) dX11_blend_19 (by decide) rfl (fun c12 => ?_) (fun c12 => ?_)
    · replace E := (if_of E).1 c12
      refine Rn.iconst (pc' := 27) (v := (0 : Int32)) (hv := by decide) dX11_blend_26 rfl ?_
      exact f_Model_blend_b27_ok hst hd   E
    · replace E := (if_of E).2 c12
      exact f_Model_blend_b22_ok hst hd   E
def f_Model_blend (h : Hp) (x0 : Nat) (x1 : Int32) (x2 : Int32) (x3 : Int32) : Option (Int32 × Hp) := f_Model_blend_b0  h x0 x1 x2 x3
theorem f_Model_blend_ok {l : Launch} {X : Nat × (Nat → Int32)} (hst : l.stackTraces = false) {h : Hp} {x0 : Nat} {x1 : Int32} {x2 : Int32} {x3 : Int32} {r : Int32 × Hp} (E : f_Model_blend h x0 x1 x2 x3 = some r) : MC l X yX11_blend mX11_blend 3 [.ref x0, .int x1, .int x2, .int x3] h (eI r) r.2 :=
  MC.body (by decide +kernel) rfl (by decide) hst (Nat.le_of_ble_eq_true rfl) (f_Model_blend_b0_ok hst (Nat.le_refl _) E)
abbrev mX10_seed : MI := (RX10, cX10_seed, 3, (some Jvm.ClassFile.FieldType.int), [], false)
theorem ws_X10_seed : ∀ w ∈ wsM yX10_seed mX10_seed, w ∈ gw := List.forall_mem_cons.mpr ⟨gw_at 530 (by decide +kernel) (by decide +kernel), fun _ h => h⟩
theorem fl_X10_242_3 : FL RX10 242 3 11 := ⟨_, rfl, by decide, "VintageWater$Land", gw_at 381 (by decide +kernel) (by decide +kernel), Or.inl rfl⟩
def f_Water_seed_b0   (h : Hp) (x0 : Nat) (x1 : Int32)  : Option (Int32 × Hp) :=
if hS h x0 = 10 then (
if hS h (hR h x0 4) = 4 then (
wr (sI h (hR h x0 4) 11 x1) fun h3 =>
some ((hI h (hR h x0 4) 11), h3)
) else none) else none
set_option maxRecDepth 20000 in
set_option maxHeartbeats 4000000 in
theorem f_Water_seed_b0_ok {l : Launch} {X : Nat × (Nat → Int32)} (hst : l.stackTraces = false) {d : Nat} (hd : 0 ≤ d)     {h : Hp} {x0 : Nat} {x1 : Int32}  {r : Int32 × Hp} (E : f_Water_seed_b0   h x0 x1 = some r) : Rn l X mX10_seed d 0 [(0, .ref x0), (1, .int x1)] [] h (eI r) r.2 := by
  unfold f_Water_seed_b0 at E
  refine Rn.aload_n (pc' := 1) dX10_seed_0 rfl 0 rfl rfl ?_
  obtain ⟨g1, E⟩ := gd_of E
  refine Rn.getR (pc' := 4) fl_X10_42_9 g1 rfl dX10_seed_1 rfl ?_
  obtain ⟨g2, E⟩ := gd_of E
  refine Rn.getI (pc' := 7) fl_X10_242_3 g2 rfl dX10_seed_4 rfl ?_
  refine Rn.istore_n (pc' := 8) (L' := [(2, .int (hI h (hR h x0 4) 11)), (0, .ref x0), (1, .int x1)]) dX10_seed_7 rfl (by decide) rfl rfl ?_
  refine Rn.aload_n (pc' := 9) dX10_seed_8 rfl 1 rfl rfl ?_
  refine Rn.getR (pc' := 12) fl_X10_42_9 g1 rfl dX10_seed_9 rfl ?_
  refine Rn.iload_n (pc' := 13) dX10_seed_12 rfl 2 rfl rfl ?_
  refine Rn.putI (pc' := 16) fl_X10_242_3 (fun q hq => by cases hq; decide) g2 rfl rfl rfl dX10_seed_13 rfl ?_
  replace E := wr_of E
  generalize eh4 : sI h (hR h x0 4) 11 x1 = h3 at E ⊢
  refine Rn.iload_n (pc' := 17) dX10_seed_16 rfl 0 rfl rfl ?_
  cases E
  exact Rn.zret rfl rfl dX10_seed_17
def f_Water_seed (h : Hp) (x0 : Nat) (x1 : Int32) : Option (Int32 × Hp) := f_Water_seed_b0  h x0 x1
theorem f_Water_seed_ok {l : Launch} {X : Nat × (Nat → Int32)} (hst : l.stackTraces = false) {h : Hp} {x0 : Nat} {x1 : Int32} {r : Int32 × Hp} (E : f_Water_seed h x0 x1 = some r) : MC l X yX10_seed mX10_seed 0 [.ref x0, .int x1] h (eI r) r.2 :=
  MC.body (by decide +kernel) rfl (by decide) hst (Nat.le_of_ble_eq_true rfl) (f_Water_seed_b0_ok hst (Nat.le_refl _) E)
abbrev mX11_seed : MI := (RX11, cX11_seed, 3, (some Jvm.ClassFile.FieldType.int), [], false)
theorem ws_X11_seed : ∀ w ∈ wsM yX11_seed mX11_seed, w ∈ gw := List.forall_mem_cons.mpr ⟨gw_at 1832 (by decide +kernel) (by decide +kernel), fun _ h => h⟩
def f_Model_seed_b0   (h : Hp) (x0 : Nat) (x1 : Int32)  : Option (Int32 × Hp) :=
if hS h x0 = 11 then (
wr (sI h x0 0 (0 : Int32)) fun h2 =>
if hS h2 (hR h2 x0 1) = 20 then (
if ib (5 : Int32) (hL h2 (hR h2 x0 1)) = true then (
if ib (5 : Int32) (hL h2 (hR h2 x0 1)) = true then (
wr (sI h2 (hR h2 x0 1) (ix (5 : Int32)) x1) fun h7 =>
some ((hI h2 (hR h2 x0 1) (ix (5 : Int32))), h7)
) else none) else none) else none) else none
set_option maxRecDepth 20000 in
set_option maxHeartbeats 4000000 in
theorem f_Model_seed_b0_ok {l : Launch} {X : Nat × (Nat → Int32)} (hst : l.stackTraces = false) {d : Nat} (hd : 0 ≤ d)     {h : Hp} {x0 : Nat} {x1 : Int32}  {r : Int32 × Hp} (E : f_Model_seed_b0   h x0 x1 = some r) : Rn l X mX11_seed d 0 [(0, .ref x0), (1, .int x1)] [] h (eI r) r.2 := by
  unfold f_Model_seed_b0 at E
  refine Rn.aload_n (pc' := 1) dX11_seed_0 rfl 0 rfl rfl ?_
  refine Rn.iconst (pc' := 2) (v := (0 : Int32)) (hv := by decide) dX11_seed_1 rfl ?_
  obtain ⟨g1, E⟩ := gd_of E
  refine Rn.putI (pc' := 5) fl_X11_3_10 (fun q hq => by cases hq; decide) g1 rfl rfl rfl dX11_seed_2 rfl ?_
  replace E := wr_of E
  generalize eh3 : sI h x0 0 (0 : Int32) = h2 at E ⊢
  refine Rn.aload_n (pc' := 6) dX11_seed_5 rfl 0 rfl rfl ?_
  refine Rn.getR (pc' := 9) fl_X11_13_10 (kp_sI eh3 g1) rfl dX11_seed_6 rfl ?_
  refine Rn.iconst (pc' := 10) (v := (5 : Int32)) (hv := by decide) dX11_seed_9 rfl ?_
  obtain ⟨g4, E⟩ := gd_of E
  obtain ⟨g5, E⟩ := gd_of E
  refine Rn.iald (pc' := 11) g4 g5 dX11_seed_10 rfl ?_
  refine Rn.istore_n (pc' := 12) (L' := [(2, .int (hI h2 (hR h2 x0 1) (ix (5 : Int32)))), (0, .ref x0), (1, .int x1)]) dX11_seed_11 rfl (by decide) rfl rfl ?_
  refine Rn.aload_n (pc' := 13) dX11_seed_12 rfl 1 rfl rfl ?_
  refine Rn.getR (pc' := 16) fl_X11_13_10 (kp_sI eh3 g1) rfl dX11_seed_13 rfl ?_
  refine Rn.iconst (pc' := 17) (v := (5 : Int32)) (hv := by decide) dX11_seed_16 rfl ?_
  refine Rn.iload_n (pc' := 18) dX11_seed_17 rfl 2 rfl rfl ?_
  obtain ⟨g6, E⟩ := gd_of E
  refine Rn.iast (pc' := 19) g4 g6 dX11_seed_18 rfl ?_
  replace E := wr_of E
  generalize eh8 : sI h2 (hR h2 x0 1) (ix (5 : Int32)) x1 = h7 at E ⊢
  refine Rn.iload_n (pc' := 20) dX11_seed_19 rfl 0 rfl rfl ?_
  cases E
  exact Rn.zret rfl rfl dX11_seed_20
def f_Model_seed (h : Hp) (x0 : Nat) (x1 : Int32) : Option (Int32 × Hp) := f_Model_seed_b0  h x0 x1
theorem f_Model_seed_ok {l : Launch} {X : Nat × (Nat → Int32)} (hst : l.stackTraces = false) {h : Hp} {x0 : Nat} {x1 : Int32} {r : Int32 × Hp} (E : f_Model_seed h x0 x1 = some r) : MC l X yX11_seed mX11_seed 0 [.ref x0, .int x1] h (eI r) r.2 :=
  MC.body (by decide +kernel) rfl (by decide) hst (Nat.le_of_ble_eq_true rfl) (f_Model_seed_b0_ok hst (Nat.le_refl _) E)
abbrev mX10_seal : MI := (RX10, cX10_seal, 5, (some Jvm.ClassFile.FieldType.boolean), [], false)
theorem ws_X10_seal : ∀ w ∈ wsM yX10_seal mX10_seal, w ∈ gw := List.forall_mem_cons.mpr ⟨gw_at 1260 (by decide +kernel) (by decide +kernel), fun _ h => h⟩
theorem fl_X10_138_0 : FL RX10 138 0 2 := ⟨_, rfl, by decide, "VintageWater$Cistern", gw_at 276 (by decide +kernel) (by decide +kernel), Or.inl rfl⟩
def f_Water_seal_b28   (h : Hp) (x2 : Int32) (x3 : Nat) (s0 : Int32) : Option ((Int32 ⊕ Nat) × Hp) :=
if hS h x3 = 1 then (
if x2 = 0 ∨ x2 = 1 then (
wr (sI h x3 2 x2) fun h3 =>
if s0 = 0 ∨ s0 = 1 then (
some (.inl s0, h3)
) else none) else none) else none
set_option maxRecDepth 20000 in
set_option maxHeartbeats 4000000 in
theorem f_Water_seal_b28_ok {l : Launch} {X : Nat × (Nat → Int32)} (hst : l.stackTraces = false) {d : Nat} (hd : 1 ≤ d)     {h : Hp} {x2 : Int32} {x3 : Nat} {s0 : Int32} {r : (Int32 ⊕ Nat) × Hp} (E : f_Water_seal_b28   h x2 x3 s0 = some r) : Rn l X mX10_seal d 28 [(2, .int x2), (3, .ref x3)] [.int s0] h (xI r) r.2 := by
  unfold f_Water_seal_b28 at E
  refine Rn.istore (pc' := 30) (L' := [(4, .int s0), (2, .int x2), (3, .ref x3)]) dX10_seal_28 (by decide) rfl rfl ?_
  refine Rn.aload_n (pc' := 31) dX10_seal_30 rfl 2 rfl rfl ?_
  refine Rn.iload_n (pc' := 32) dX10_seal_31 rfl 1 rfl rfl ?_
  obtain ⟨g1, E⟩ := gd_of E
  obtain ⟨g2, E⟩ := gd_of E
  refine Rn.putI (pc' := 35) fl_X10_138_0 (fun q hq => by cases hq; decide) g1 rfl (nar_b g2) (fit_b g2) dX10_seal_32 rfl ?_
  replace E := wr_of E
  generalize eh4 : sI h x3 2 x2 = h3 at E ⊢
  refine Rn.iload (pc' := 37) dX10_seal_35 0 rfl rfl ?_
  obtain ⟨g5, E⟩ := gd_of E
  cases E
  exact Rn.zret rfl (nar_b g5) dX10_seal_37
def f_Water_seal_b0   (h : Hp) (x0 : Nat) (x1 : Int32) (x2 : Int32)  : Option ((Int32 ⊕ Nat) × Hp) :=
if hS h x0 = 10 then (
bX (f_Water_needCistern h x0 x1) fun _ h3 =>
if hS h3 x0 = 10 then (
if hS h3 (hR h3 x0 4) = 4 then (
if hS h3 (hR h3 (hR h3 x0 4) 3) = 23 then (
if ib x1 (hL h3 (hR h3 (hR h3 x0 4) 3)) = true then (
if hS h3 (hR h3 (hR h3 (hR h3 x0 4) 3) (ix x1)) = 1 then (
if (hI h3 (hR h3 (hR h3 (hR h3 x0 4) 3) (ix x1)) 2) = x2 then (
f_Water_seal_b28   h3 x2 (hR h3 (hR h3 (hR h3 x0 4) 3) (ix x1)) (0 : Int32)

) else (
f_Water_seal_b28   h3 x2 (hR h3 (hR h3 (hR h3 x0 4) 3) (ix x1)) (1 : Int32)

)
) else none) else none) else none) else none) else none) else none
set_option maxRecDepth 20000 in
set_option maxHeartbeats 4000000 in
theorem f_Water_seal_b0_ok {l : Launch} {X : Nat × (Nat → Int32)} (hst : l.stackTraces = false) {d : Nat} (hd : 1 ≤ d)     {h : Hp} {x0 : Nat} {x1 : Int32} {x2 : Int32}  {r : (Int32 ⊕ Nat) × Hp} (E : f_Water_seal_b0   h x0 x1 x2 = some r) : Rn l X mX10_seal d 0 [(0, .ref x0), (1, .int x1), (2, .int x2)] [] h (xI r) r.2 := by
  unfold f_Water_seal_b0 at E
  refine Rn.aload_n (pc' := 1) dX10_seal_0 rfl 0 rfl rfl ?_
  refine Rn.iload_n (pc' := 2) dX10_seal_1 rfl 1 rfl rfl ?_
  obtain ⟨g1, E⟩ := gd_of E
  rcases bX_of E with ⟨u_, h3, e4, E⟩ | ⟨x_, h3, e4, rfl⟩
  rotate_left
  · exact Rn.callVX (As := [.int x1]) (rest := []) (f_Water_needCistern_ok hst e4) (Nat.le_trans (by decide) hd) rfl kb_X10_123 ki_X10_needCistern rfl g1 rfl rfl (Nat.le_of_ble_eq_true rfl) dX10_seal_2 (RnX.out (by decide))
  refine Rn.callV1 (pc' := 5) (As := [.int x1]) (rest := []) (f_Water_needCistern_ok hst e4) (Nat.le_trans (by decide) hd) rfl kb_X10_123 ki_X10_needCistern rfl g1 rfl rfl (Nat.le_of_ble_eq_true rfl) dX10_seal_2 rfl rfl ?_
  refine Rn.aload_n (pc' := 6) dX10_seal_5 rfl 0 rfl rfl ?_
  obtain ⟨g5, E⟩ := gd_of E
  refine Rn.getR (pc' := 9) fl_X10_42_9 g5 rfl dX10_seal_6 rfl ?_
  obtain ⟨g6, E⟩ := gd_of E
  refine Rn.getR (pc' := 12) fl_X10_126_3 g6 rfl dX10_seal_9 rfl ?_
  refine Rn.iload_n (pc' := 13) dX10_seal_12 rfl 1 rfl rfl ?_
  obtain ⟨g7, E⟩ := gd_of E
  obtain ⟨g8, E⟩ := gd_of E
  refine Rn.aald (pc' := 14) g7 (by decide) (by decide) g8 dX10_seal_13 rfl ?_
  refine Rn.astore_n (pc' := 15) (L' := [(3, .ref (hR h3 (hR h3 (hR h3 x0 4) 3) (ix x1))), (0, .ref x0), (1, .int x1), (2, .int x2)]) dX10_seal_14 rfl (by decide) rfl rfl ?_
  refine Rn.aload_n (pc' := 16) dX10_seal_15 rfl 0 rfl rfl ?_
  obtain ⟨g9, E⟩ := gd_of E
  refine Rn.getI (pc' := 19) fl_X10_138_0 g9 rfl dX10_seal_16 rfl ?_
  refine Rn.iload_n (pc' := 20) dX10_seal_19 rfl 3 rfl rfl ?_
  refine Rn.icmp_eq (pc' := 23) (tgt := 27) dX10_seal_20 (by decide) rfl (fun c10 => ?_) (fun c10 => ?_)
  · replace E := (if_of E).1 c10
    refine Rn.iconst (pc' := 28) (v := (0 : Int32)) (hv := by decide) dX10_seal_27 rfl ?_
    refine Rn.sub [3, 0] rfl ?_
    exact f_Water_seal_b28_ok hst hd   E
  · replace E := (if_of E).2 c10
    refine Rn.iconst (pc' := 24) (v := (1 : Int32)) (hv := by decide) dX10_seal_23 rfl ?_
    refine Rn.goto (pc' := 28) dX10_seal_24 (by decide) ?_
    refine Rn.sub [3, 0] rfl ?_
    exact f_Water_seal_b28_ok hst hd   E
def f_Water_seal (h : Hp) (x0 : Nat) (x1 : Int32) (x2 : Int32) : Option ((Int32 ⊕ Nat) × Hp) := f_Water_seal_b0  h x0 x1 x2
theorem f_Water_seal_ok {l : Launch} {X : Nat × (Nat → Int32)} (hst : l.stackTraces = false) {h : Hp} {x0 : Nat} {x1 : Int32} {x2 : Int32} {r : (Int32 ⊕ Nat) × Hp} (E : f_Water_seal h x0 x1 x2 = some r) : MC l X yX10_seal mX10_seal 1 [.ref x0, .int x1, .int x2] h (xI r) r.2 :=
  MC.body (by decide +kernel) rfl (by decide) hst (Nat.le_of_ble_eq_true rfl) (f_Water_seal_b0_ok hst (Nat.le_refl _) E)
abbrev mL_seal : MI := (RL, cL_seal, 5, (some Jvm.ClassFile.FieldType.int), [(0, 17, 20, 24)], false)
theorem ws_L_seal : ∀ w ∈ wsM yL_seal mL_seal, w ∈ gw := List.forall_mem_cons.mpr ⟨gw_at 1256 (by decide +kernel) (by decide +kernel), fun _ h => h⟩
def f_Lw_seal_b16   (h : Hp)  (s0 : Nat) (s1 : Int32) (s2 : Int64) : Option (Int32 × Hp) :=
if hS h s0 = 22 then (
if ib s1 (hL h s0) = true then (
wr (sJ h s0 (ix s1) s2) fun h3 =>
some ((0 : Int32), h3)
) else none) else none
set_option maxRecDepth 20000 in
set_option maxHeartbeats 4000000 in
theorem f_Lw_seal_b16_ok {l : Launch} {X : Nat × (Nat → Int32)} (hst : l.stackTraces = false) {d : Nat} (hd : 2 ≤ d)     {h : Hp}  {s0 : Nat} {s1 : Int32} {s2 : Int64} {r : Int32 × Hp} (E : f_Lw_seal_b16   h s0 s1 s2 = some r) : Rn l X mL_seal d 16 [] [.long s2, .int s1, .ref s0] h (eI r) r.2 := by
  unfold f_Lw_seal_b16 at E
  obtain ⟨g1, E⟩ := gd_of E
  obtain ⟨g2, E⟩ := gd_of E
  refine Rn.last (pc' := 17) g1 g2 dL_seal_16 rfl ?_
  replace E := wr_of E
  generalize eh4 : sJ h s0 (ix s1) s2 = h3 at E ⊢
  refine Rn.goto (pc' := 24) dL_seal_17 (by decide) ?_
  refine Rn.iconst (pc' := 25) (v := (0 : Int32)) (hv := by decide) dL_seal_24 rfl ?_
  cases E
  exact Rn.zret rfl rfl dL_seal_25
theorem kb_L_56 : KB RL 56 yX10_seal mX10_seal 2 := ⟨gw_at 1257 (by decide +kernel) (by decide +kernel), gw_at 107 (by decide +kernel) (by decide +kernel), trivial, ws_X10_seal, by decide +kernel, by decide +kernel, by decide +kernel, by decide⟩
theorem ki_X10_seal : Cond.instanceMethod yX10_seal ∈ gw ∧ Cond.selects yX10_seal.cls yX10_seal yX10_seal ∈ gw := ⟨gw_at 1258 (by decide +kernel) (by decide +kernel), gw_at 1259 (by decide +kernel) (by decide +kernel)⟩
def f_Lw_seal_b0   (h : Hp) (x0 : Nat) (x1 : Int32) (x2 : Int32) (x3 : Nat)  : Option (Int32 × Hp) :=
if hS h x0 = 10 then (
bC (f_Water_seal h x0 x1 x2) (fun v2 h3 =>
if v2 = 0 then (
f_Lw_seal_b16   h3 x3 (0 : Int32) (0 : Int64)

) else (
f_Lw_seal_b16   h3 x3 (0 : Int32) (1 : Int64)

)

) (fun x_ h3 =>
if x_ = 1 then (
some ((1 : Int32), h3)

) else (
none))
) else none
set_option maxRecDepth 20000 in
set_option maxHeartbeats 4000000 in
theorem f_Lw_seal_b0_ok {l : Launch} {X : Nat × (Nat → Int32)} (hst : l.stackTraces = false) {d : Nat} (hd : 2 ≤ d)     {h : Hp} {x0 : Nat} {x1 : Int32} {x2 : Int32} {x3 : Nat}  {r : Int32 × Hp} (E : f_Lw_seal_b0   h x0 x1 x2 x3 = some r) : Rn l X mL_seal d 0 [(0, .ref x0), (1, .int x1), (2, .int x2), (3, .ref x3)] [] h (eI r) r.2 := by
  unfold f_Lw_seal_b0 at E
  refine Rn.aload_n (pc' := 1) dL_seal_0 rfl 3 rfl rfl ?_
  refine Rn.iconst (pc' := 2) (v := (0 : Int32)) (hv := by decide) dL_seal_1 rfl ?_
  refine Rn.aload_n (pc' := 3) dL_seal_2 rfl 0 rfl rfl ?_
  refine Rn.iload_n (pc' := 4) dL_seal_3 rfl 1 rfl rfl ?_
  refine Rn.iload_n (pc' := 5) dL_seal_4 rfl 2 rfl rfl ?_
  obtain ⟨g1, E⟩ := gd_of E
  rcases bC_of E with ⟨v2, h3, e4, E⟩ | ⟨x_, h3, e4, E⟩
  · refine Rn.callV1 (pc' := 8) (As := [.int x1, .int x2]) (rest := [.int (0 : Int32), .ref x3]) (f_Water_seal_ok hst e4) (Nat.le_trans (by decide) hd) rfl kb_L_56 ki_X10_seal rfl g1 rfl rfl (Nat.le_of_ble_eq_true rfl) dL_seal_5 rfl rfl ?_
    refine Rn.if_eq (pc' := 11) (tgt := 15) dL_seal_8 (by decide) rfl (fun c5 => ?_) (fun c5 => ?_)
    · replace E := (if_of E).1 c5
      refine Rn.lconst (pc' := 16) (v := (0 : Int64)) (hv := by decide) dL_seal_15 rfl ?_
      refine Rn.sub [] rfl ?_
      exact f_Lw_seal_b16_ok hst hd   E
    · replace E := (if_of E).2 c5
      refine Rn.lconst (pc' := 12) (v := (1 : Int64)) (hv := by decide) dL_seal_11 rfl ?_
      refine Rn.goto (pc' := 16) dL_seal_12 (by decide) ?_
      refine Rn.sub [] rfl ?_
      exact f_Lw_seal_b16_ok hst hd   E
  · refine Rn.callVX (As := [.int x1, .int x2]) (rest := [.int (0 : Int32), .ref x3]) (f_Water_seal_ok hst e4) (Nat.le_trans (by decide) hd) rfl kb_L_56 ki_X10_seal rfl g1 rfl rfl (Nat.le_of_ble_eq_true rfl) dL_seal_5 ?_
    by_cases c6 : x_ = 1
    · replace E := (if_of E).1 c6
      subst c6
      refine RnX.catch (x := 1) (i := 4) (pch := 22) 0 rfl (pre0) (by decide) (by decide) kk_L_24 (by decide) (Or.inr ⟨dL_seal_20, rfl⟩) (by decide) ?_
      change Rn _ _ _ _ _ [(0, .ref x0), (1, .int x1), (2, .int x2), (3, .ref x3)] _ _ _ _
      refine Rn.iconst (pc' := 23) (v := (1 : Int32)) (hv := by decide) dL_seal_22 rfl ?_
      cases E
      exact Rn.zret rfl rfl dL_seal_23
    replace E := (if_of E).2 c6
    cases E
def f_Lw_seal (h : Hp) (x0 : Nat) (x1 : Int32) (x2 : Int32) (x3 : Nat) : Option (Int32 × Hp) := f_Lw_seal_b0  h x0 x1 x2 x3
theorem f_Lw_seal_ok {l : Launch} {X : Nat × (Nat → Int32)} (hst : l.stackTraces = false) {h : Hp} {x0 : Nat} {x1 : Int32} {x2 : Int32} {x3 : Nat} {r : Int32 × Hp} (E : f_Lw_seal h x0 x1 x2 x3 = some r) : MC l X yL_seal mL_seal 2 [.ref x0, .int x1, .int x2, .ref x3] h (eI r) r.2 :=
  MC.body (by decide +kernel) rfl (by decide) hst (Nat.le_of_ble_eq_true rfl) (f_Lw_seal_b0_ok hst (Nat.le_refl _) E)
abbrev mX11_seal : MI := (RX11, cX11_seal, 4, (some Jvm.ClassFile.FieldType.boolean), [], false)
theorem ws_X11_seal : ∀ w ∈ wsM yX11_seal mX11_seal, w ∈ gw := List.forall_mem_cons.mpr ⟨gw_at 1828 (by decide +kernel) (by decide +kernel), fun _ h => h⟩
def f_Model_seal_b48   (h : Hp) (x2 : Int32) (x3 : Int32) (s0 : Nat) (s1 : Int32) (s2 : Int32) (s3 : Int32) : Option (Int32 × Hp) :=
if hS h s0 = 11 then (
bV (f_Model_setsCistern h s0 s1 s2 s3) fun h3 =>
if x3 = x2 then (
some ((0 : Int32), h3)

) else (
some ((1 : Int32), h3)

)
) else none
set_option maxRecDepth 20000 in
set_option maxHeartbeats 4000000 in
theorem f_Model_seal_b48_ok {l : Launch} {X : Nat × (Nat → Int32)} (hst : l.stackTraces = false) {d : Nat} (hd : 2 ≤ d)     {h : Hp} {x2 : Int32} {x3 : Int32} {s0 : Nat} {s1 : Int32} {s2 : Int32} {s3 : Int32} {r : Int32 × Hp} (E : f_Model_seal_b48   h x2 x3 s0 s1 s2 s3 = some r) : Rn l X mX11_seal d 48 [(2, .int x2), (3, .int x3)] [.int s3, .int s2, .int s1, .ref s0] h (eI r) r.2 := by
  unfold f_Model_seal_b48 at E
  obtain ⟨g1, E⟩ := gd_of E
  obtain ⟨h3, e4, E⟩ := bV_of E
  refine Rn.callV1 (pc' := 51) (As := [.int s1, .int s2, .int s3]) (rest := []) (f_Model_setsCistern_ok hst e4) (Nat.le_trans (by decide) hd) rfl kb_X11_124 ki_X11_setsCistern rfl g1 rfl rfl (Nat.le_of_ble_eq_true rfl) dX11_seal_48 rfl rfl ?_
  refine Rn.iload_n (pc' := 52) dX11_seal_51 rfl 1 rfl rfl ?_
  refine Rn.iload_n (pc' := 53) dX11_seal_52 rfl 0 rfl rfl ?_
  refine Rn.icmp_eq (pc' := 56) (tgt := 60) dX11_seal_53 (by decide) rfl (fun c5 => ?_) (fun c5 => ?_)
  · replace E := (if_of E).1 c5
    refine Rn.iconst (pc' := 61) (v := (0 : Int32)) (hv := by decide) dX11_seal_60 rfl ?_
    cases E
    exact Rn.zret rfl rfl dX11_seal_61
  · replace E := (if_of E).2 c5
    refine Rn.iconst (pc' := 57) (v := (1 : Int32)) (hv := by decide) dX11_seal_56 rfl ?_
    refine Rn.goto (pc' := 61) dX11_seal_57 (by decide) ?_
    cases E
    exact Rn.zret rfl rfl dX11_seal_61
def f_Model_seal_b35   (h : Hp) (x0 : Nat) (x1 : Int32) (x2 : Int32) (s0 : Int32) : Option (Int32 × Hp) :=
if x2 = 0 then (
f_Model_seal_b48   h x2 s0 x0 x1 (2 : Int32) (0 : Int32)

) else (
f_Model_seal_b48   h x2 s0 x0 x1 (2 : Int32) (1 : Int32)

)

set_option maxRecDepth 20000 in
set_option maxHeartbeats 4000000 in
theorem f_Model_seal_b35_ok {l : Launch} {X : Nat × (Nat → Int32)} (hst : l.stackTraces = false) {d : Nat} (hd : 2 ≤ d)     {h : Hp} {x0 : Nat} {x1 : Int32} {x2 : Int32} {s0 : Int32} {r : Int32 × Hp} (E : f_Model_seal_b35   h x0 x1 x2 s0 = some r) : Rn l X mX11_seal d 35 [(0, .ref x0), (1, .int x1), (2, .int x2)] [.int s0] h (eI r) r.2 := by
  unfold f_Model_seal_b35 at E
  refine Rn.istore_n (pc' := 36) (L' := [(3, .int s0), (0, .ref x0), (1, .int x1), (2, .int x2)]) dX11_seal_35 rfl (by decide) rfl rfl ?_
  refine Rn.aload_n (pc' := 37) dX11_seal_36 rfl 1 rfl rfl ?_
  refine Rn.iload_n (pc' := 38) dX11_seal_37 rfl 2 rfl rfl ?_
  refine Rn.iconst (pc' := 39) (v := (2 : Int32)) (hv := by decide) dX11_seal_38 rfl ?_
  refine Rn.iload_n (pc' := 40) dX11_seal_39 rfl 3 rfl rfl ?_
  refine Rn.if_eq (pc' := 43) (tgt := 47) dX11_seal_40 (by decide) rfl (fun c1 => ?_) (fun c1 => ?_)
  · replace E := (if_of E).1 c1
    refine Rn.iconst (pc' := 48) (v := (0 : Int32)) (hv := by decide) dX11_seal_47 rfl ?_
    refine Rn.sub [3, 0] rfl ?_
    exact f_Model_seal_b48_ok hst hd   E
  · replace E := (if_of E).2 c1
    refine Rn.iconst (pc' := 44) (v := (1 : Int32)) (hv := by decide) dX11_seal_43 rfl ?_
    refine Rn.goto (pc' := 48) dX11_seal_44 (by decide) ?_
    refine Rn.sub [3, 0] rfl ?_
    exact f_Model_seal_b48_ok hst hd   E
def f_Model_seal_b0   (h : Hp) (x0 : Nat) (x1 : Int32) (x2 : Int32)  : Option (Int32 × Hp) :=
if hS h x0 = 11 then (
wr (sI h x0 0 (0 : Int32)) fun h2 =>
bI (f_Model_noCistern h2 x0 x1) fun v4 h5 =>
if hS h5 x0 = 11 then (
bI (f_Model_throwsIf h5 x0 v4 (1 : Int32)) fun v8 h9 =>
if v8 = 0 then (
if hS h9 x0 = 11 then (
bI (f_Model_ofCistern h9 x0 x1 (2 : Int32)) fun v13 h14 =>
if v13 = (1 : Int32) then (
f_Model_seal_b35   h14 x0 x1 x2 (1 : Int32)

) else (
f_Model_seal_b35   h14 x0 x1 x2 (0 : Int32)

)
) else none
) else (
some ((0 : Int32), h9)

)
) else none) else none
set_option maxRecDepth 20000 in
set_option maxHeartbeats 4000000 in
theorem f_Model_seal_b0_ok {l : Launch} {X : Nat × (Nat → Int32)} (hst : l.stackTraces = false) {d : Nat} (hd : 2 ≤ d)     {h : Hp} {x0 : Nat} {x1 : Int32} {x2 : Int32}  {r : Int32 × Hp} (E : f_Model_seal_b0   h x0 x1 x2 = some r) : Rn l X mX11_seal d 0 [(0, .ref x0), (1, .int x1), (2, .int x2)] [] h (eI r) r.2 := by
  unfold f_Model_seal_b0 at E
  refine Rn.aload_n (pc' := 1) dX11_seal_0 rfl 0 rfl rfl ?_
  refine Rn.iconst (pc' := 2) (v := (0 : Int32)) (hv := by decide) dX11_seal_1 rfl ?_
  obtain ⟨g1, E⟩ := gd_of E
  refine Rn.putI (pc' := 5) fl_X11_3_10 (fun q hq => by cases hq; decide) g1 rfl rfl rfl dX11_seal_2 rfl ?_
  replace E := wr_of E
  generalize eh3 : sI h x0 0 (0 : Int32) = h2 at E ⊢
  refine Rn.aload_n (pc' := 6) dX11_seal_5 rfl 0 rfl rfl ?_
  refine Rn.aload_n (pc' := 7) dX11_seal_6 rfl 0 rfl rfl ?_
  refine Rn.iload_n (pc' := 8) dX11_seal_7 rfl 1 rfl rfl ?_
  obtain ⟨v4, h5, e6, E⟩ := bI_of E
  refine Rn.callV1 (pc' := 11) (As := [.int x1]) (rest := [.ref x0]) (f_Model_noCistern_ok hst e6) (Nat.le_trans (by decide) hd) rfl kb_X11_284 ki_X11_noCistern rfl (kp_sI eh3 g1) rfl rfl (Nat.le_of_ble_eq_true rfl) dX11_seal_8 rfl rfl ?_
  refine Rn.iconst (pc' := 12) (v := (1 : Int32)) (hv := by decide) dX11_seal_11 rfl ?_
  obtain ⟨g7, E⟩ := gd_of E
  obtain ⟨v8, h9, e10, E⟩ := bI_of E
  refine Rn.callV1 (pc' := 15) (As := [.int v4, .int (1 : Int32)]) (rest := []) (f_Model_throwsIf_ok hst e10) (Nat.le_trans (by decide) hd) rfl kb_X11_265 ki_X11_throwsIf rfl g7 rfl rfl (Nat.le_of_ble_eq_true rfl) dX11_seal_12 rfl rfl ?_
  refine Rn.if_eq (pc' := 18) (tgt := 20) dX11_seal_15 (by decide) rfl (fun c11 => ?_) (fun c11 => ?_)
  · replace E := (if_of E).1 c11
    refine Rn.aload_n (pc' := 21) dX11_seal_20 rfl 0 rfl rfl ?_
    refine Rn.iload_n (pc' := 22) dX11_seal_21 rfl 1 rfl rfl ?_
    refine Rn.iconst (pc' := 23) (v := (2 : Int32)) (hv := by decide) dX11_seal_22 rfl ?_
    obtain ⟨g12, E⟩ := gd_of E
    obtain ⟨v13, h14, e15, E⟩ := bI_of E
    refine Rn.callV1 (pc' := 26) (As := [.int x1, .int (2 : Int32)]) (rest := []) (f_Model_ofCistern_ok hst e15) (Nat.le_trans (by decide) hd) rfl kb_X11_69 ki_X11_ofCistern rfl g12 rfl rfl (Nat.le_of_ble_eq_true rfl) dX11_seal_23 rfl rfl ?_
    refine Rn.iconst (pc' := 27) (v := (1 : Int32)) (hv := by decide) dX11_seal_26 rfl ?_
    refine Rn.icmp_ne (pc' := 30) (tgt := 34) dX11_seal_27 (by decide) rfl (fun c16 => ?_) (fun c16 => ?_)
    · replace E := (if_of E).2 c16
      refine Rn.iconst (pc' := 35) (v := (0 : Int32)) (hv := by decide) dX11_seal_34 rfl ?_
      exact f_Model_seal_b35_ok hst hd   E
    · replace E := (if_of E).1 c16
      refine Rn.iconst (pc' := 31) (v := (1 : Int32)) (hv := by decide) dX11_seal_30 rfl ?_
      refine Rn.goto (pc' := 35) dX11_seal_31 (by decide) ?_
      exact f_Model_seal_b35_ok hst hd   E
  · replace E := (if_of E).2 c11
    refine Rn.iconst (pc' := 19) (v := (0 : Int32)) (hv := by decide) dX11_seal_18 rfl ?_
    cases E
    exact Rn.zret rfl rfl dX11_seal_19
def f_Model_seal (h : Hp) (x0 : Nat) (x1 : Int32) (x2 : Int32) : Option (Int32 × Hp) := f_Model_seal_b0  h x0 x1 x2
theorem f_Model_seal_ok {l : Launch} {X : Nat × (Nat → Int32)} (hst : l.stackTraces = false) {h : Hp} {x0 : Nat} {x1 : Int32} {x2 : Int32} {r : Int32 × Hp} (E : f_Model_seal h x0 x1 x2 = some r) : MC l X yX11_seal mX11_seal 2 [.ref x0, .int x1, .int x2] h (eI r) r.2 :=
  MC.body (by decide +kernel) rfl (by decide) hst (Nat.le_of_ble_eq_true rfl) (f_Model_seal_b0_ok hst (Nat.le_refl _) E)
abbrev mX10_winter : MI := (RX10, cX10_winter, 2, (some Jvm.ClassFile.FieldType.int), [], false)
theorem ws_X10_winter : ∀ w ∈ wsM yX10_winter mX10_winter, w ∈ gw := List.forall_mem_cons.mpr ⟨gw_at 1247 (by decide +kernel) (by decide +kernel), fun _ h => h⟩
def f_Water_winter_b12   (h : Hp)   : Option ((Int32 ⊕ Nat) × Hp) :=
some (.inr 2, hA h 0 0 6)

set_option maxRecDepth 20000 in
set_option maxHeartbeats 4000000 in
theorem f_Water_winter_b12_ok {l : Launch} {X : Nat × (Nat → Int32)} (hst : l.stackTraces = false) {d : Nat} (hd : 3 ≤ d)     {h : Hp}   {r : (Int32 ⊕ Nat) × Hp} (E : f_Water_winter_b12   h  = some r) : Rn l X mX10_winter d 12 [] [] h (xI r) r.2 := by
  unfold f_Water_winter_b12 at E
  cases E
  exact Rn.throwS (x := 2) (i := 10) kt_X10_88_92 rfl rfl dX10_winter_12 dX10_winter_15 dX10_winter_16 dX10_winter_18 dX10_winter_21 (Nat.le_of_ble_eq_true rfl)
theorem kb_X10_235 : KB RX10 235 yX3_draw mX3_draw 0 := ⟨gw_at 1249 (by decide +kernel) (by decide +kernel), gw_at 113 (by decide +kernel) (by decide +kernel), trivial, ws_X3_draw, by decide +kernel, by decide +kernel, by decide +kernel, by decide⟩
def f_Water_winter_b0   (h : Hp) (x0 : Nat) (x1 : Int32)  : Option ((Int32 ⊕ Nat) × Hp) :=
if x1 < (1 : Int32) then (
f_Water_winter_b12   h

) else (
if x1 ≤ (999 : Int32) then (
if hS h x0 = 10 then (
if hS h (hR h x0 4) = 4 then (
bI (f_Land_draw h (hR h x0 4)) fun v5 h6 =>
if ¬ x1 = 0 then (
if hS h6 (hR h x0 4) = 4 then (
bI (f_Land_fillFirstEmpty h6 (hR h x0 4) ((jrem v5 x1) + (1 : Int32))) fun v10 h11 =>
some (.inl v10, h11)
) else none) else none) else none) else none
) else (
f_Water_winter_b12   h

)

)

set_option maxRecDepth 20000 in
set_option maxHeartbeats 4000000 in
theorem f_Water_winter_b0_ok {l : Launch} {X : Nat × (Nat → Int32)} (hst : l.stackTraces = false) {d : Nat} (hd : 3 ≤ d)     {h : Hp} {x0 : Nat} {x1 : Int32}  {r : (Int32 ⊕ Nat) × Hp} (E : f_Water_winter_b0   h x0 x1 = some r) : Rn l X mX10_winter d 0 [(0, .ref x0), (1, .int x1)] [] h (xI r) r.2 := by
  unfold f_Water_winter_b0 at E
  refine Rn.iload_n (pc' := 1) dX10_winter_0 rfl 1 rfl rfl ?_
  refine Rn.iconst (pc' := 2) (v := (1 : Int32)) (hv := by decide) dX10_winter_1 rfl ?_
  refine Rn.icmp_lt (pc' := 5) (tgt := 12) dX10_winter_2 (by decide) rfl (fun c1 => ?_) (fun c1 => ?_)
  · replace E := (if_of E).1 c1
    refine Rn.sub [] rfl ?_
    exact f_Water_winter_b12_ok hst hd   E
  · replace E := (if_of E).2 c1
    refine Rn.iload_n (pc' := 6) dX10_winter_5 rfl 1 rfl rfl ?_
    refine Rn.sipush (pc' := 9) (v := (999 : Int32)) (hv := by decide) dX10_winter_6 rfl ?_
    refine Rn.icmp_le (pc' := 12) (tgt := 22) dX10_winter_9 (by decide) rfl (fun c2 => ?_) (fun c2 => ?_)
    · replace E := (if_of E).1 c2
      refine Rn.aload_n (pc' := 23) dX10_winter_22 rfl 0 rfl rfl ?_
      obtain ⟨g3, E⟩ := gd_of E
      refine Rn.getR (pc' := 26) fl_X10_42_9 g3 rfl dX10_winter_23 rfl ?_
      refine Rn.aload_n (pc' := 27) dX10_winter_26 rfl 0 rfl rfl ?_
      refine Rn.getR (pc' := 30) fl_X10_42_9 g3 rfl dX10_winter_27 rfl ?_
      obtain ⟨g4, E⟩ := gd_of E
      obtain ⟨v5, h6, e7, E⟩ := bI_of E
      refine Rn.callV1 (pc' := 33) (As := []) (rest := [.ref (hR h x0 4)]) (f_Land_draw_ok hst e7) (Nat.le_trans (by decide) hd) rfl kb_X10_235 ki_X3_draw rfl g4 rfl rfl (Nat.le_of_ble_eq_true rfl) dX10_winter_30 rfl rfl ?_
      refine Rn.iload_n (pc' := 34) dX10_winter_33 rfl 1 rfl rfl ?_
      obtain ⟨g8, E⟩ := gd_of E
      refine Rn.irem (pc' := 35) (hne := g8) dX10_winter_34 rfl ?_
      refine Rn.iconst (pc' := 36) (v := (1 : Int32)) (hv := by decide) dX10_winter_35 rfl ?_
      refine Rn.iadd (pc' := 37) dX10_winter_36 rfl ?_
      obtain ⟨g9, E⟩ := gd_of E
      obtain ⟨v10, h11, e12, E⟩ := bI_of E
      refine Rn.callV1 (pc' := 40) (As := [.int ((jrem v5 x1) + (1 : Int32))]) (rest := []) (f_Land_fillFirstEmpty_ok hst e12) (Nat.le_trans (by decide) hd) rfl kb_X10_238 ki_X3_fillFirstEmpty rfl g9 rfl rfl (Nat.le_of_ble_eq_true rfl) dX10_winter_37 rfl rfl ?_
      cases E
      exact Rn.zret rfl rfl dX10_winter_40
    · replace E := (if_of E).2 c2
      refine Rn.sub [] rfl ?_
      exact f_Water_winter_b12_ok hst hd   E
def f_Water_winter (h : Hp) (x0 : Nat) (x1 : Int32) : Option ((Int32 ⊕ Nat) × Hp) := f_Water_winter_b0  h x0 x1
theorem f_Water_winter_ok {l : Launch} {X : Nat × (Nat → Int32)} (hst : l.stackTraces = false) {h : Hp} {x0 : Nat} {x1 : Int32} {r : (Int32 ⊕ Nat) × Hp} (E : f_Water_winter h x0 x1 = some r) : MC l X yX10_winter mX10_winter 3 [.ref x0, .int x1] h (xI r) r.2 :=
  MC.body (by decide +kernel) rfl (by decide) hst (Nat.le_of_ble_eq_true rfl) (f_Water_winter_b0_ok hst (Nat.le_refl _) E)
abbrev mL_winter : MI := (RL, cL_winter, 4, (some Jvm.ClassFile.FieldType.int), [(0, 9, 12, 13)], false)
theorem ws_L_winter : ∀ w ∈ wsM yL_winter mL_winter, w ∈ gw := List.forall_mem_cons.mpr ⟨gw_at 1243 (by decide +kernel) (by decide +kernel), fun _ h => h⟩
theorem kb_L_53 : KB RL 53 yX10_winter mX10_winter 1 := ⟨gw_at 1244 (by decide +kernel) (by decide +kernel), gw_at 107 (by decide +kernel) (by decide +kernel), trivial, ws_X10_winter, by decide +kernel, by decide +kernel, by decide +kernel, by decide⟩
theorem ki_X10_winter : Cond.instanceMethod yX10_winter ∈ gw ∧ Cond.selects yX10_winter.cls yX10_winter yX10_winter ∈ gw := ⟨gw_at 1245 (by decide +kernel) (by decide +kernel), gw_at 1246 (by decide +kernel) (by decide +kernel)⟩
def f_Lw_winter_b0   (h : Hp) (x0 : Nat) (x1 : Int32) (x2 : Nat)  : Option (Int32 × Hp) :=
if hS h x0 = 10 then (
bC (f_Water_winter h x0 x1) (fun v2 h3 =>
if hS h3 x2 = 22 then (
if ib (0 : Int32) (hL h3 x2) = true then (
wr (sJ h3 x2 (ix (0 : Int32)) (Int32.toInt64 v2)) fun h7 =>
some ((0 : Int32), h7)
) else none) else none
) (fun x_ h3 =>
if x_ = 2 then (
some ((1 : Int32), h3)

) else (
none))
) else none
set_option maxRecDepth 20000 in
set_option maxHeartbeats 4000000 in
theorem f_Lw_winter_b0_ok {l : Launch} {X : Nat × (Nat → Int32)} (hst : l.stackTraces = false) {d : Nat} (hd : 4 ≤ d)     {h : Hp} {x0 : Nat} {x1 : Int32} {x2 : Nat}  {r : Int32 × Hp} (E : f_Lw_winter_b0   h x0 x1 x2 = some r) : Rn l X mL_winter d 0 [(0, .ref x0), (1, .int x1), (2, .ref x2)] [] h (eI r) r.2 := by
  unfold f_Lw_winter_b0 at E
  refine Rn.aload_n (pc' := 1) dL_winter_0 rfl 2 rfl rfl ?_
  refine Rn.iconst (pc' := 2) (v := (0 : Int32)) (hv := by decide) dL_winter_1 rfl ?_
  refine Rn.aload_n (pc' := 3) dL_winter_2 rfl 0 rfl rfl ?_
  refine Rn.iload_n (pc' := 4) dL_winter_3 rfl 1 rfl rfl ?_
  obtain ⟨g1, E⟩ := gd_of E
  rcases bC_of E with ⟨v2, h3, e4, E⟩ | ⟨x_, h3, e4, E⟩
  · refine Rn.callV1 (pc' := 7) (As := [.int x1]) (rest := [.int (0 : Int32), .ref x2]) (f_Water_winter_ok hst e4) (Nat.le_trans (by decide) hd) rfl kb_L_53 ki_X10_winter rfl g1 rfl rfl (Nat.le_of_ble_eq_true rfl) dL_winter_4 rfl rfl ?_
    refine Rn.i2l (pc' := 8) dL_winter_7 rfl ?_
    obtain ⟨g5, E⟩ := gd_of E
    obtain ⟨g6, E⟩ := gd_of E
    refine Rn.last (pc' := 9) g5 g6 dL_winter_8 rfl ?_
    replace E := wr_of E
    generalize eh8 : sJ h3 x2 (ix (0 : Int32)) (Int32.toInt64 v2) = h7 at E ⊢
    refine Rn.goto (pc' := 15) dL_winter_9 (by decide) ?_
    refine Rn.iconst (pc' := 16) (v := (0 : Int32)) (hv := by decide) dL_winter_15 rfl ?_
    cases E
    exact Rn.zret rfl rfl dL_winter_16
  · refine Rn.callVX (As := [.int x1]) (rest := [.int (0 : Int32), .ref x2]) (f_Water_winter_ok hst e4) (Nat.le_trans (by decide) hd) rfl kb_L_53 ki_X10_winter rfl g1 rfl rfl (Nat.le_of_ble_eq_true rfl) dL_winter_4 ?_
    by_cases c9 : x_ = 2
    · replace E := (if_of E).1 c9
      subst c9
      refine RnX.catch (x := 2) (i := 3) (pch := 13) 0 rfl (pre0) (by decide) (by decide) kk_L_13 (by decide) (Or.inl ⟨3, rfl, dL_winter_12, rfl⟩) (by decide) ?_
      change Rn _ _ _ _ _ [(0, .ref x0), (1, .int x1), (2, .ref x2)] _ _ _ _
      refine Rn.iconst (pc' := 14) (v := (1 : Int32)) (hv := by decide) dL_winter_13 rfl ?_
      cases E
      exact Rn.zret rfl rfl dL_winter_14
    replace E := (if_of E).2 c9
    cases E
def f_Lw_winter (h : Hp) (x0 : Nat) (x1 : Int32) (x2 : Nat) : Option (Int32 × Hp) := f_Lw_winter_b0  h x0 x1 x2
theorem f_Lw_winter_ok {l : Launch} {X : Nat × (Nat → Int32)} (hst : l.stackTraces = false) {h : Hp} {x0 : Nat} {x1 : Int32} {x2 : Nat} {r : Int32 × Hp} (E : f_Lw_winter h x0 x1 x2 = some r) : MC l X yL_winter mL_winter 4 [.ref x0, .int x1, .ref x2] h (eI r) r.2 :=
  MC.body (by decide +kernel) rfl (by decide) hst (Nat.le_of_ble_eq_true rfl) (f_Lw_winter_b0_ok hst (Nat.le_refl _) E)
abbrev mX11_winter : MI := (RX11, cX11_winter, 2, (some Jvm.ClassFile.FieldType.int), [], false)
theorem ws_X11_winter : ∀ w ∈ wsM yX11_winter mX11_winter, w ∈ gw := List.forall_mem_cons.mpr ⟨gw_at 1820 (by decide +kernel) (by decide +kernel), fun _ h => h⟩
def f_Model_winter_b22   (h : Hp) (x0 : Nat) (x1 : Int32) (s0 : Nat) (s1 : Int32) : Option (Int32 × Hp) :=
if hS h s0 = 11 then (
bI (f_Model_throwsIf h s0 s1 (1 : Int32)) fun v2 h3 =>
if v2 = 0 then (
if hS h3 x0 = 11 then (
bI (f_Model_draw h3 x0 x1) fun v7 h8 =>
if hS h8 x0 = 11 then (
bI (f_Model_winters h8 x0 (v7 + (1 : Int32))) fun v11 h12 =>
some (v11, h12)
) else none) else none
) else (
some ((0 : Int32), h3)

)
) else none
set_option maxRecDepth 20000 in
set_option maxHeartbeats 4000000 in
theorem f_Model_winter_b22_ok {l : Launch} {X : Nat × (Nat → Int32)} (hst : l.stackTraces = false) {d : Nat} (hd : 5 ≤ d)     {h : Hp} {x0 : Nat} {x1 : Int32} {s0 : Nat} {s1 : Int32} {r : Int32 × Hp} (E : f_Model_winter_b22   h x0 x1 s0 s1 = some r) : Rn l X mX11_winter d 22 [(0, .ref x0), (1, .int x1)] [.int s1, .ref s0] h (eI r) r.2 := by
  unfold f_Model_winter_b22 at E
  refine Rn.iconst (pc' := 23) (v := (1 : Int32)) (hv := by decide) dX11_winter_22 rfl ?_
  obtain ⟨g1, E⟩ := gd_of E
  obtain ⟨v2, h3, e4, E⟩ := bI_of E
  refine Rn.callV1 (pc' := 26) (As := [.int s1, .int (1 : Int32)]) (rest := []) (f_Model_throwsIf_ok hst e4) (Nat.le_trans (by decide) hd) rfl kb_X11_265 ki_X11_throwsIf rfl g1 rfl rfl (Nat.le_of_ble_eq_true rfl) dX11_winter_23 rfl rfl ?_
  refine Rn.if_eq (pc' := 29) (tgt := 31) dX11_winter_26 (by decide) rfl (fun c5 => ?_) (fun c5 => ?_)
  · replace E := (if_of E).1 c5
    refine Rn.aload_n (pc' := 32) dX11_winter_31 rfl 0 rfl rfl ?_
    refine Rn.aload_n (pc' := 33) dX11_winter_32 rfl 0 rfl rfl ?_
    refine Rn.iload_n (pc' := 34) dX11_winter_33 rfl 1 rfl rfl ?_
    obtain ⟨g6, E⟩ := gd_of E
    obtain ⟨v7, h8, e9, E⟩ := bI_of E
    refine Rn.callV1 (pc' := 37) (As := [.int x1]) (rest := [.ref x0]) (f_Model_draw_ok hst e9) (Nat.le_trans (by decide) hd) rfl kb_X11_309 ki_X11_draw rfl g6 rfl rfl (Nat.le_of_ble_eq_true rfl) dX11_winter_34 rfl rfl ?_
    refine Rn.iconst (pc' := 38) (v := (1 : Int32)) (hv := by decide) dX11_winter_37 rfl ?_
    refine Rn.iadd (pc' := 39) dX11_winter_38 rfl ?_
    obtain ⟨g10, E⟩ := gd_of E
    obtain ⟨v11, h12, e13, E⟩ := bI_of E
    refine Rn.callV1 (pc' := 42) (As := [.int (v7 + (1 : Int32))]) (rest := []) (f_Model_winters_ok hst e13) (Nat.le_trans (by decide) hd) rfl kb_X11_329 ki_X11_winters rfl g10 rfl rfl (Nat.le_of_ble_eq_true rfl) dX11_winter_39 rfl rfl ?_
    cases E
    exact Rn.zret rfl rfl dX11_winter_42
  · replace E := (if_of E).2 c5
    refine Rn.iconst (pc' := 30) (v := (0 : Int32)) (hv := by decide) dX11_winter_29 rfl ?_
    cases E
    exact Rn.zret rfl rfl dX11_winter_30
def f_Model_winter_b0   (h : Hp) (x0 : Nat) (x1 : Int32)  : Option (Int32 × Hp) :=
if hS h x0 = 11 then (
wr (sI h x0 0 (0 : Int32)) fun h2 =>
bI (f_Model_in h2 x1 (1 : Int32) (999 : Int32)) fun v4 h5 =>
if v4 = 0 then (
f_Model_winter_b22   h5 x0 x1 x0 (1 : Int32)

) else (
f_Model_winter_b22   h5 x0 x1 x0 (0 : Int32)

)
) else none
set_option maxRecDepth 20000 in
set_option maxHeartbeats 4000000 in
theorem f_Model_winter_b0_ok {l : Launch} {X : Nat × (Nat → Int32)} (hst : l.stackTraces = false) {d : Nat} (hd : 5 ≤ d)     {h : Hp} {x0 : Nat} {x1 : Int32}  {r : Int32 × Hp} (E : f_Model_winter_b0   h x0 x1 = some r) : Rn l X mX11_winter d 0 [(0, .ref x0), (1, .int x1)] [] h (eI r) r.2 := by
  unfold f_Model_winter_b0 at E
  refine Rn.aload_n (pc' := 1) dX11_winter_0 rfl 0 rfl rfl ?_
  refine Rn.iconst (pc' := 2) (v := (0 : Int32)) (hv := by decide) dX11_winter_1 rfl ?_
  obtain ⟨g1, E⟩ := gd_of E
  refine Rn.putI (pc' := 5) fl_X11_3_10 (fun q hq => by cases hq; decide) g1 rfl rfl rfl dX11_winter_2 rfl ?_
  replace E := wr_of E
  generalize eh3 : sI h x0 0 (0 : Int32) = h2 at E ⊢
  refine Rn.aload_n (pc' := 6) dX11_winter_5 rfl 0 rfl rfl ?_
  refine Rn.iload_n (pc' := 7) dX11_winter_6 rfl 1 rfl rfl ?_
  refine Rn.iconst (pc' := 8) (v := (1 : Int32)) (hv := by decide) dX11_winter_7 rfl ?_
  refine Rn.sipush (pc' := 11) (v := (999 : Int32)) (hv := by decide) dX11_winter_8 rfl ?_
  obtain ⟨v4, h5, e6, E⟩ := bI_of E
  refine Rn.callS1 (pc' := 14) (As := [.int x1, .int (1 : Int32), .int (999 : Int32)]) (rest := [.ref x0]) (f_Model_in_ok hst e6) (Nat.le_trans (by decide) hd) rfl kb_X11_56 ks_X11_in rfl rfl (Nat.le_of_ble_eq_true rfl) dX11_winter_11 rfl rfl ?_
  refine Rn.if_ne (pc' := 17) (tgt := 21) dX11_winter_14 (by decide) rfl (fun c7 => ?_) (fun c7 => ?_)
  · replace E := (if_of E).2 c7
    refine Rn.iconst (pc' := 22) (v := (0 : Int32)) (hv := by decide) dX11_winter_21 rfl ?_
    exact f_Model_winter_b22_ok hst hd   E
  · replace E := (if_of E).1 c7
    refine Rn.iconst (pc' := 18) (v := (1 : Int32)) (hv := by decide) dX11_winter_17 rfl ?_
    refine Rn.goto (pc' := 22) dX11_winter_18 (by decide) ?_
    exact f_Model_winter_b22_ok hst hd   E
def f_Model_winter (h : Hp) (x0 : Nat) (x1 : Int32) : Option (Int32 × Hp) := f_Model_winter_b0  h x0 x1
theorem f_Model_winter_ok {l : Launch} {X : Nat × (Nat → Int32)} (hst : l.stackTraces = false) {h : Hp} {x0 : Nat} {x1 : Int32} {r : Int32 × Hp} (E : f_Model_winter h x0 x1 = some r) : MC l X yX11_winter mX11_winter 5 [.ref x0, .int x1] h (eI r) r.2 :=
  MC.body (by decide +kernel) rfl (by decide) hst (Nat.le_of_ble_eq_true rfl) (f_Model_winter_b0_ok hst (Nat.le_refl _) E)
abbrev mX3_takeOldest : MI := (RX3, cX3_takeOldest, 7, (some Jvm.ClassFile.FieldType.int), [], false)
theorem ws_X3_takeOldest : ∀ w ∈ wsM yX3_takeOldest mX3_takeOldest, w ∈ gw := List.forall_mem_cons.mpr ⟨gw_at 1240 (by decide +kernel) (by decide +kernel), fun _ h => h⟩
def f_Land_takeOldest_b15  (k15 : Hp → Nat → Nat → Int32 → Int32 → Int32 → Option (Int32 × Hp)) (h : Hp) (x0 : Nat) (x1 : Nat) (x3 : Int32) (x4 : Int32) (x5 : Int32)  : Option (Int32 × Hp) :=
if (30 : Int32) ≤ x5 then (
if hS h x0 = 4 then (
wr (sI h x0 15 ((hI h x0 15) + x3)) fun h3 =>
some (x3, h3)
) else none
) else (
if hS h x1 = 1 then (
if hS h (hR h x1 6) = 20 then (
if ib x5 (hL h (hR h x1 6)) = true then (
bI (f_Math_min h x4 (hI h (hR h x1 6) (ix x5))) fun v8 h9 =>
if hS h9 x1 = 1 then (
bV (f_Cistern_take h9 x1 x5 v8) fun h13 =>
k15 h13 x0 x1 x3 (x4 - v8) (x5 + (1 : Int32))
) else none) else none) else none) else none
)

set_option maxRecDepth 20000 in
set_option maxHeartbeats 4000000 in
theorem f_Land_takeOldest_b15_ok {l : Launch} {X : Nat × (Nat → Int32)} (hst : l.stackTraces = false) {d : Nat} (hd : 2 ≤ d)   {k15 : Hp → Nat → Nat → Int32 → Int32 → Int32 → Option (Int32 × Hp)} (hk15 : ∀ (h : Hp) (x0 : Nat) (x1 : Nat) (x3 : Int32) (x4 : Int32) (x5 : Int32)  (r : Int32 × Hp), k15 h x0 x1 x3 x4 x5 = some r → Rn l X mX3_takeOldest d 15 [(0, .ref x0), (1, .ref x1), (3, .int x3), (4, .int x4), (5, .int x5)] [] h (eI r) r.2) {h : Hp} {x0 : Nat} {x1 : Nat} {x3 : Int32} {x4 : Int32} {x5 : Int32}  {r : Int32 × Hp} (E : f_Land_takeOldest_b15  k15 h x0 x1 x3 x4 x5 = some r) : Rn l X mX3_takeOldest d 15 [(0, .ref x0), (1, .ref x1), (3, .int x3), (4, .int x4), (5, .int x5)] [] h (eI r) r.2 := by
  unfold f_Land_takeOldest_b15 at E
  refine Rn.iload (pc' := 17) dX3_takeOldest_15 4 rfl rfl ?_
  refine Rn.bipush (pc' := 19) (v := (30 : Int32)) (hv := by decide) dX3_takeOldest_17 rfl ?_
  refine Rn.icmp_ge (pc' := 22) (tgt := 57) dX3_takeOldest_19 (by decide) rfl (fun c1 => ?_) (fun c1 => ?_)
  · replace E := (if_of E).1 c1
    refine Rn.aload_n (pc' := 58) dX3_takeOldest_57 rfl 0 rfl rfl ?_
    refine Rn.dup (pc' := 59) (hc := rfl) dX3_takeOldest_58 rfl ?_
    obtain ⟨g2, E⟩ := gd_of E
    refine Rn.getI (pc' := 62) fl_X3_87_3 g2 rfl dX3_takeOldest_59 rfl ?_
    refine Rn.iload_n (pc' := 63) dX3_takeOldest_62 rfl 2 rfl rfl ?_
    refine Rn.iadd (pc' := 64) dX3_takeOldest_63 rfl ?_
    refine Rn.putI (pc' := 67) fl_X3_87_3 (fun q hq => by cases hq; decide) g2 rfl rfl rfl dX3_takeOldest_64 rfl ?_
    replace E := wr_of E
    generalize eh4 : sI h x0 15 ((hI h x0 15) + x3) = h3 at E ⊢
    refine Rn.iload_n (pc' := 68) dX3_takeOldest_67 rfl 2 rfl rfl ?_
    cases E
    exact Rn.zret rfl rfl dX3_takeOldest_68
  · replace E := (if_of E).2 c1
    refine Rn.iload (pc' := 24) dX3_takeOldest_22 3 rfl rfl ?_
    refine Rn.aload_n (pc' := 25) dX3_takeOldest_24 rfl 1 rfl rfl ?_
    obtain ⟨g5, E⟩ := gd_of E
    refine Rn.getR (pc' := 28) fl_X3_190_0 g5 rfl dX3_takeOldest_25 rfl ?_
    refine Rn.iload (pc' := 30) dX3_takeOldest_28 4 rfl rfl ?_
    obtain ⟨g6, E⟩ := gd_of E
    obtain ⟨g7, E⟩ := gd_of E
    refine Rn.iald (pc' := 31) g6 g7 dX3_takeOldest_30 rfl ?_
    obtain ⟨v8, h9, e10, E⟩ := bI_of E
    refine Rn.callS1 (pc' := 34) (As := [.int x4, .int (hI h (hR h x1 6) (ix x5))]) (rest := []) (f_Math_min_ok hst e10) (Nat.le_trans (by decide) hd) rfl kb_X3_114 ks_J9_min_7cf53 rfl rfl (Nat.le_of_ble_eq_true rfl) dX3_takeOldest_31 rfl rfl ?_
    refine Rn.istore (pc' := 36) (L' := [(6, .int v8), (0, .ref x0), (1, .ref x1), (3, .int x3), (4, .int x4), (5, .int x5)]) dX3_takeOldest_34 (by decide) rfl rfl ?_
    refine Rn.aload_n (pc' := 37) dX3_takeOldest_36 rfl 2 rfl rfl ?_
    refine Rn.iload (pc' := 39) dX3_takeOldest_37 5 rfl rfl ?_
    refine Rn.iload (pc' := 41) dX3_takeOldest_39 0 rfl rfl ?_
    obtain ⟨g11, E⟩ := gd_of E
    obtain ⟨h13, e14, E⟩ := bV_of E
    refine Rn.callV1 (pc' := 44) (As := [.int x5, .int v8]) (rest := []) (f_Cistern_take_ok hst e14) (Nat.le_trans (by decide) hd) rfl kb_X3_193 ki_X0_take rfl g11 rfl rfl (Nat.le_of_ble_eq_true rfl) dX3_takeOldest_41 rfl rfl ?_
    refine Rn.iload (pc' := 46) dX3_takeOldest_44 4 rfl rfl ?_
    refine Rn.iload (pc' := 48) dX3_takeOldest_46 0 rfl rfl ?_
    refine Rn.isub (pc' := 49) dX3_takeOldest_48 rfl ?_
    refine Rn.istore (pc' := 51) (L' := [(4, .int (x4 - v8)), (6, .int v8), (0, .ref x0), (1, .ref x1), (3, .int x3), (5, .int x5)]) dX3_takeOldest_49 (by decide) rfl rfl ?_
    refine Rn.iinc (pc' := 54) (v := (x5 + (1 : Int32))) (L' := [(5, .int (x5 + (1 : Int32))), (4, .int (x4 - v8)), (6, .int v8), (0, .ref x0), (1, .ref x1), (3, .int x3)]) dX3_takeOldest_51 5 rfl rfl (by decide) rfl rfl ?_
    refine Rn.goto (pc' := 15) dX3_takeOldest_54 (by decide) ?_
    refine Rn.sub [3, 4, 5, 1, 0] rfl ?_
    exact hk15 _ _ _ _ _ _ _ E
def f_Land_takeOldest_L15   (n : Nat) : Hp → Nat → Nat → Int32 → Int32 → Int32 → Option (Int32 × Hp) := Nat.rec (motive := fun _ => Hp → Nat → Nat → Int32 → Int32 → Int32 → Option (Int32 × Hp)) (fun _ _ _ _ _ _ => none) (fun _ rec => f_Land_takeOldest_b15   rec) n
theorem f_Land_takeOldest_L15_ok {l : Launch} {X : Nat × (Nat → Int32)} (hst : l.stackTraces = false) {d : Nat} (hd : 2 ≤ d)     : ∀ (n : Nat) (h : Hp) (x0 : Nat) (x1 : Nat) (x3 : Int32) (x4 : Int32) (x5 : Int32)  (r : Int32 × Hp), f_Land_takeOldest_L15   n h x0 x1 x3 x4 x5 = some r → Rn l X mX3_takeOldest d 15 [(0, .ref x0), (1, .ref x1), (3, .int x3), (4, .int x4), (5, .int x5)] [] h (eI r) r.2 := by
  intro n
  induction n with
  | zero => intro h x0 x1 x3 x4 x5 r E; cases E
  | succ n ih => intro h x0 x1 x3 x4 x5 r E; exact f_Land_takeOldest_b15_ok hst hd   ih E
def f_Land_takeOldest_b0   (h : Hp) (x0 : Nat) (x1 : Nat) (x2 : Int32)  : Option (Int32 × Hp) :=
if hS h x1 = 1 then (
bI (f_Math_min h x2 (hI h x1 5)) fun v2 h3 =>
f_Land_takeOldest_L15   FU h3 x0 x1 v2 v2 (0 : Int32)
) else none
set_option maxRecDepth 20000 in
set_option maxHeartbeats 4000000 in
theorem f_Land_takeOldest_b0_ok {l : Launch} {X : Nat × (Nat → Int32)} (hst : l.stackTraces = false) {d : Nat} (hd : 2 ≤ d)     {h : Hp} {x0 : Nat} {x1 : Nat} {x2 : Int32}  {r : Int32 × Hp} (E : f_Land_takeOldest_b0   h x0 x1 x2 = some r) : Rn l X mX3_takeOldest d 0 [(0, .ref x0), (1, .ref x1), (2, .int x2)] [] h (eI r) r.2 := by
  unfold f_Land_takeOldest_b0 at E
  refine Rn.iload_n (pc' := 1) dX3_takeOldest_0 rfl 2 rfl rfl ?_
  refine Rn.aload_n (pc' := 2) dX3_takeOldest_1 rfl 1 rfl rfl ?_
  obtain ⟨g1, E⟩ := gd_of E
  refine Rn.getI (pc' := 5) fl_X3_160_0 g1 rfl dX3_takeOldest_2 rfl ?_
  obtain ⟨v2, h3, e4, E⟩ := bI_of E
  refine Rn.callS1 (pc' := 8) (As := [.int x2, .int (hI h x1 5)]) (rest := []) (f_Math_min_ok hst e4) (Nat.le_trans (by decide) hd) rfl kb_X3_114 ks_J9_min_7cf53 rfl rfl (Nat.le_of_ble_eq_true rfl) dX3_takeOldest_5 rfl rfl ?_
  refine Rn.istore_n (pc' := 9) (L' := [(3, .int v2), (0, .ref x0), (1, .ref x1), (2, .int x2)]) dX3_takeOldest_8 rfl (by decide) rfl rfl ?_
  refine Rn.iload_n (pc' := 10) dX3_takeOldest_9 rfl 0 rfl rfl ?_
  refine Rn.istore (pc' := 12) (L' := [(4, .int v2), (3, .int v2), (0, .ref x0), (1, .ref x1), (2, .int x2)]) dX3_takeOldest_10 (by decide) rfl rfl ?_
  refine Rn.iconst (pc' := 13) (v := (0 : Int32)) (hv := by decide) dX3_takeOldest_12 rfl ?_
  refine Rn.istore (pc' := 15) (L' := [(5, .int (0 : Int32)), (4, .int v2), (3, .int v2), (0, .ref x0), (1, .ref x1), (2, .int x2)]) dX3_takeOldest_13 (by decide) rfl rfl ?_
  refine Rn.sub [3, 4, 2, 1, 0] rfl ?_
  exact f_Land_takeOldest_L15_ok hst hd   FU _ _ _ _ _ _ _ E
def f_Land_takeOldest (h : Hp) (x0 : Nat) (x1 : Nat) (x2 : Int32) : Option (Int32 × Hp) := f_Land_takeOldest_b0  h x0 x1 x2
theorem f_Land_takeOldest_ok {l : Launch} {X : Nat × (Nat → Int32)} (hst : l.stackTraces = false) {h : Hp} {x0 : Nat} {x1 : Nat} {x2 : Int32} {r : Int32 × Hp} (E : f_Land_takeOldest h x0 x1 x2 = some r) : MC l X yX3_takeOldest mX3_takeOldest 2 [.ref x0, .ref x1, .int x2] h (eI r) r.2 :=
  MC.body (by decide +kernel) rfl (by decide) hst (Nat.le_of_ble_eq_true rfl) (f_Land_takeOldest_b0_ok hst (Nat.le_refl _) E)
abbrev mX10_oath : MI := (RX10, cX10_oath, 3, (some Jvm.ClassFile.FieldType.int), [], false)
theorem ws_X10_oath : ∀ w ∈ wsM yX10_oath mX10_oath, w ∈ gw := List.forall_mem_cons.mpr ⟨gw_at 1235 (by decide +kernel) (by decide +kernel), fun _ h => h⟩
theorem kb_X10_230 : KB RX10 230 yX3_takeOldest mX3_takeOldest 2 := ⟨gw_at 1237 (by decide +kernel) (by decide +kernel), gw_at 113 (by decide +kernel) (by decide +kernel), trivial, ws_X3_takeOldest, by decide +kernel, by decide +kernel, by decide +kernel, by decide⟩
theorem ki_X3_takeOldest : Cond.instanceMethod yX3_takeOldest ∈ gw ∧ Cond.selects yX3_takeOldest.cls yX3_takeOldest yX3_takeOldest ∈ gw := ⟨gw_at 1238 (by decide +kernel) (by decide +kernel), gw_at 1239 (by decide +kernel) (by decide +kernel)⟩
def f_Water_oath_b0   (h : Hp) (x0 : Nat) (x1 : Int32) (x2 : Int32)  : Option ((Int32 ⊕ Nat) × Hp) :=
if hS h x0 = 10 then (
bX (f_Water_needCistern h x0 x1) fun _ h3 =>
if 0 ≤ x2 then (
if hS h3 x0 = 10 then (
if hS h3 (hR h3 x0 4) = 4 then (
if hS h3 (hR h3 (hR h3 x0 4) 3) = 23 then (
if ib x1 (hL h3 (hR h3 (hR h3 x0 4) 3)) = true then (
bI (f_Land_takeOldest h3 (hR h3 x0 4) (hR h3 (hR h3 (hR h3 x0 4) 3) (ix x1)) x2) fun v10 h11 =>
some (.inl v10, h11)
) else none) else none) else none) else none
) else (
some (.inr 2, hA h3 0 0 6)

)
) else none
set_option maxRecDepth 20000 in
set_option maxHeartbeats 4000000 in
theorem f_Water_oath_b0_ok {l : Launch} {X : Nat × (Nat → Int32)} (hst : l.stackTraces = false) {d : Nat} (hd : 3 ≤ d)     {h : Hp} {x0 : Nat} {x1 : Int32} {x2 : Int32}  {r : (Int32 ⊕ Nat) × Hp} (E : f_Water_oath_b0   h x0 x1 x2 = some r) : Rn l X mX10_oath d 0 [(0, .ref x0), (1, .int x1), (2, .int x2)] [] h (xI r) r.2 := by
  unfold f_Water_oath_b0 at E
  refine Rn.aload_n (pc' := 1) dX10_oath_0 rfl 0 rfl rfl ?_
  refine Rn.iload_n (pc' := 2) dX10_oath_1 rfl 1 rfl rfl ?_
  obtain ⟨g1, E⟩ := gd_of E
  rcases bX_of E with ⟨u_, h3, e4, E⟩ | ⟨x_, h3, e4, rfl⟩
  rotate_left
  · exact Rn.callVX (As := [.int x1]) (rest := []) (f_Water_needCistern_ok hst e4) (Nat.le_trans (by decide) hd) rfl kb_X10_123 ki_X10_needCistern rfl g1 rfl rfl (Nat.le_of_ble_eq_true rfl) dX10_oath_2 (RnX.out (by decide))
  refine Rn.callV1 (pc' := 5) (As := [.int x1]) (rest := []) (f_Water_needCistern_ok hst e4) (Nat.le_trans (by decide) hd) rfl kb_X10_123 ki_X10_needCistern rfl g1 rfl rfl (Nat.le_of_ble_eq_true rfl) dX10_oath_2 rfl rfl ?_
  refine Rn.iload_n (pc' := 6) dX10_oath_5 rfl 2 rfl rfl ?_
  refine Rn.if_ge (pc' := 9) (tgt := 19) dX10_oath_6 (by decide) rfl (fun c5 => ?_) (fun c5 => ?_)
  · replace E := (if_of E).1 c5
    refine Rn.aload_n (pc' := 20) dX10_oath_19 rfl 0 rfl rfl ?_
    obtain ⟨g6, E⟩ := gd_of E
    refine Rn.getR (pc' := 23) fl_X10_42_9 g6 rfl dX10_oath_20 rfl ?_
    refine Rn.aload_n (pc' := 24) dX10_oath_23 rfl 0 rfl rfl ?_
    refine Rn.getR (pc' := 27) fl_X10_42_9 g6 rfl dX10_oath_24 rfl ?_
    obtain ⟨g7, E⟩ := gd_of E
    refine Rn.getR (pc' := 30) fl_X10_126_3 g7 rfl dX10_oath_27 rfl ?_
    refine Rn.iload_n (pc' := 31) dX10_oath_30 rfl 1 rfl rfl ?_
    obtain ⟨g8, E⟩ := gd_of E
    obtain ⟨g9, E⟩ := gd_of E
    refine Rn.aald (pc' := 32) g8 (by decide) (by decide) g9 dX10_oath_31 rfl ?_
    refine Rn.iload_n (pc' := 33) dX10_oath_32 rfl 2 rfl rfl ?_
    obtain ⟨v10, h11, e12, E⟩ := bI_of E
    refine Rn.callV1 (pc' := 36) (As := [.ref (hR h3 (hR h3 (hR h3 x0 4) 3) (ix x1)), .int x2]) (rest := []) (f_Land_takeOldest_ok hst e12) (Nat.le_trans (by decide) hd) rfl kb_X10_230 ki_X3_takeOldest rfl g7 rfl rfl (Nat.le_of_ble_eq_true rfl) dX10_oath_33 rfl rfl ?_
    cases E
    exact Rn.zret rfl rfl dX10_oath_36
  · replace E := (if_of E).2 c5
    cases E
    exact Rn.throwS (x := 2) (i := 9) kt_X10_88_92 rfl rfl dX10_oath_9 dX10_oath_12 dX10_oath_13 dX10_oath_15 dX10_oath_18 (Nat.le_of_ble_eq_true rfl)
def f_Water_oath (h : Hp) (x0 : Nat) (x1 : Int32) (x2 : Int32) : Option ((Int32 ⊕ Nat) × Hp) := f_Water_oath_b0  h x0 x1 x2
theorem f_Water_oath_ok {l : Launch} {X : Nat × (Nat → Int32)} (hst : l.stackTraces = false) {h : Hp} {x0 : Nat} {x1 : Int32} {x2 : Int32} {r : (Int32 ⊕ Nat) × Hp} (E : f_Water_oath h x0 x1 x2 = some r) : MC l X yX10_oath mX10_oath 3 [.ref x0, .int x1, .int x2] h (xI r) r.2 :=
  MC.body (by decide +kernel) rfl (by decide) hst (Nat.le_of_ble_eq_true rfl) (f_Water_oath_b0_ok hst (Nat.le_refl _) E)
abbrev mL_oath : MI := (RL, cL_oath, 5, (some Jvm.ClassFile.FieldType.int), [(0, 10, 13, 24), (0, 10, 17, 13)], false)
theorem ws_L_oath : ∀ w ∈ wsM yL_oath mL_oath, w ∈ gw := List.forall_mem_cons.mpr ⟨gw_at 1231 (by decide +kernel) (by decide +kernel), fun _ h => h⟩
theorem kb_L_50 : KB RL 50 yX10_oath mX10_oath 2 := ⟨gw_at 1232 (by decide +kernel) (by decide +kernel), gw_at 107 (by decide +kernel) (by decide +kernel), trivial, ws_X10_oath, by decide +kernel, by decide +kernel, by decide +kernel, by decide⟩
theorem ki_X10_oath : Cond.instanceMethod yX10_oath ∈ gw ∧ Cond.selects yX10_oath.cls yX10_oath yX10_oath ∈ gw := ⟨gw_at 1233 (by decide +kernel) (by decide +kernel), gw_at 1234 (by decide +kernel) (by decide +kernel)⟩
def f_Lw_oath_b0   (h : Hp) (x0 : Nat) (x1 : Int32) (x2 : Int32) (x3 : Nat)  : Option (Int32 × Hp) :=
if hS h x0 = 10 then (
bC (f_Water_oath h x0 x1 x2) (fun v2 h3 =>
if hS h3 x3 = 22 then (
if ib (0 : Int32) (hL h3 x3) = true then (
wr (sJ h3 x3 (ix (0 : Int32)) (Int32.toInt64 v2)) fun h7 =>
some ((0 : Int32), h7)
) else none) else none
) (fun x_ h3 =>
if x_ = 1 then (
some ((1 : Int32), h3)

) else (
if x_ = 2 then (
some ((2 : Int32), h3)

) else (
none)))
) else none
set_option maxRecDepth 20000 in
set_option maxHeartbeats 4000000 in
theorem f_Lw_oath_b0_ok {l : Launch} {X : Nat × (Nat → Int32)} (hst : l.stackTraces = false) {d : Nat} (hd : 4 ≤ d)     {h : Hp} {x0 : Nat} {x1 : Int32} {x2 : Int32} {x3 : Nat}  {r : Int32 × Hp} (E : f_Lw_oath_b0   h x0 x1 x2 x3 = some r) : Rn l X mL_oath d 0 [(0, .ref x0), (1, .int x1), (2, .int x2), (3, .ref x3)] [] h (eI r) r.2 := by
  unfold f_Lw_oath_b0 at E
  refine Rn.aload_n (pc' := 1) dL_oath_0 rfl 3 rfl rfl ?_
  refine Rn.iconst (pc' := 2) (v := (0 : Int32)) (hv := by decide) dL_oath_1 rfl ?_
  refine Rn.aload_n (pc' := 3) dL_oath_2 rfl 0 rfl rfl ?_
  refine Rn.iload_n (pc' := 4) dL_oath_3 rfl 1 rfl rfl ?_
  refine Rn.iload_n (pc' := 5) dL_oath_4 rfl 2 rfl rfl ?_
  obtain ⟨g1, E⟩ := gd_of E
  rcases bC_of E with ⟨v2, h3, e4, E⟩ | ⟨x_, h3, e4, E⟩
  · refine Rn.callV1 (pc' := 8) (As := [.int x1, .int x2]) (rest := [.int (0 : Int32), .ref x3]) (f_Water_oath_ok hst e4) (Nat.le_trans (by decide) hd) rfl kb_L_50 ki_X10_oath rfl g1 rfl rfl (Nat.le_of_ble_eq_true rfl) dL_oath_5 rfl rfl ?_
    refine Rn.i2l (pc' := 9) dL_oath_8 rfl ?_
    obtain ⟨g5, E⟩ := gd_of E
    obtain ⟨g6, E⟩ := gd_of E
    refine Rn.last (pc' := 10) g5 g6 dL_oath_9 rfl ?_
    replace E := wr_of E
    generalize eh8 : sJ h3 x3 (ix (0 : Int32)) (Int32.toInt64 v2) = h7 at E ⊢
    refine Rn.goto (pc' := 21) dL_oath_10 (by decide) ?_
    refine Rn.iconst (pc' := 22) (v := (0 : Int32)) (hv := by decide) dL_oath_21 rfl ?_
    cases E
    exact Rn.zret rfl rfl dL_oath_22
  · refine Rn.callVX (As := [.int x1, .int x2]) (rest := [.int (0 : Int32), .ref x3]) (f_Water_oath_ok hst e4) (Nat.le_trans (by decide) hd) rfl kb_L_50 ki_X10_oath rfl g1 rfl rfl (Nat.le_of_ble_eq_true rfl) dL_oath_5 ?_
    by_cases c9 : x_ = 1
    · replace E := (if_of E).1 c9
      subst c9
      refine RnX.catch (x := 1) (i := 4) (pch := 15) 0 rfl (pre0) (by decide) (by decide) kk_L_24 (by decide) (Or.inr ⟨dL_oath_13, rfl⟩) (by decide) ?_
      change Rn _ _ _ _ _ [(0, .ref x0), (1, .int x1), (2, .int x2), (3, .ref x3)] _ _ _ _
      refine Rn.iconst (pc' := 16) (v := (1 : Int32)) (hv := by decide) dL_oath_15 rfl ?_
      cases E
      exact Rn.zret rfl rfl dL_oath_16
    replace E := (if_of E).2 c9
    by_cases c10 : x_ = 2
    · replace E := (if_of E).1 c10
      subst c10
      refine RnX.catch (x := 2) (i := 4) (pch := 19) 1 rfl (pre1 (Or.inr ⟨by decide, _, kk_L_24, by decide⟩)) (by decide) (by decide) kk_L_13 (by decide) (Or.inr ⟨dL_oath_17, rfl⟩) (by decide) ?_
      change Rn _ _ _ _ _ [(0, .ref x0), (1, .int x1), (2, .int x2), (3, .ref x3)] _ _ _ _
      refine Rn.iconst (pc' := 20) (v := (2 : Int32)) (hv := by decide) dL_oath_19 rfl ?_
      cases E
      exact Rn.zret rfl rfl dL_oath_20
    replace E := (if_of E).2 c10
    cases E
def f_Lw_oath (h : Hp) (x0 : Nat) (x1 : Int32) (x2 : Int32) (x3 : Nat) : Option (Int32 × Hp) := f_Lw_oath_b0  h x0 x1 x2 x3
theorem f_Lw_oath_ok {l : Launch} {X : Nat × (Nat → Int32)} (hst : l.stackTraces = false) {h : Hp} {x0 : Nat} {x1 : Int32} {x2 : Int32} {x3 : Nat} {r : Int32 × Hp} (E : f_Lw_oath h x0 x1 x2 x3 = some r) : MC l X yL_oath mL_oath 4 [.ref x0, .int x1, .int x2, .ref x3] h (eI r) r.2 :=
  MC.body (by decide +kernel) rfl (by decide) hst (Nat.le_of_ble_eq_true rfl) (f_Lw_oath_b0_ok hst (Nat.le_refl _) E)
abbrev mX11_oath : MI := (RX11, cX11_oath, 6, (some Jvm.ClassFile.FieldType.int), [], false)
theorem ws_X11_oath : ∀ w ∈ wsM yX11_oath mX11_oath, w ∈ gw := List.forall_mem_cons.mpr ⟨gw_at 1816 (by decide +kernel) (by decide +kernel), fun _ h => h⟩
def f_Model_oath_b42  (k42 : Hp → Nat → Int32 → Int32 → Int32 → Int32 → Option (Int32 × Hp)) (h : Hp) (x0 : Nat) (x1 : Int32) (x2 : Int32) (x3 : Int32) (x4 : Int32)  : Option (Int32 × Hp) :=
if (30 : Int32) ≤ x4 then (
if hS h x0 = 11 then (
if hS h (hR h x0 1) = 20 then (
if ib (9 : Int32) (hL h (hR h x0 1)) = true then (
if ib (9 : Int32) (hL h (hR h x0 1)) = true then (
wr (sI h (hR h x0 1) (ix (9 : Int32)) ((hI h (hR h x0 1) (ix (9 : Int32))) + (x2 - x3))) fun h6 =>
some ((x2 - x3), h6)
) else none) else none) else none) else none
) else (
if hS h x0 = 11 then (
bI (f_Model_layerOf h x0 x1 x4) fun v9 h10 =>
bI (f_Math_min h10 x3 v9) fun v12 h13 =>
if hS h13 x0 = 11 then (
bV (f_Model_adds h13 x0 x1 x4 (-v12)) fun h17 =>
k42 h17 x0 x1 x2 (x3 - v12) (x4 + (1 : Int32))
) else none) else none
)

set_option maxRecDepth 20000 in
set_option maxHeartbeats 4000000 in
theorem f_Model_oath_b42_ok {l : Launch} {X : Nat × (Nat → Int32)} (hst : l.stackTraces = false) {d : Nat} (hd : 2 ≤ d)   {k42 : Hp → Nat → Int32 → Int32 → Int32 → Int32 → Option (Int32 × Hp)} (hk42 : ∀ (h : Hp) (x0 : Nat) (x1 : Int32) (x2 : Int32) (x3 : Int32) (x4 : Int32)  (r : Int32 × Hp), k42 h x0 x1 x2 x3 x4 = some r → Rn l X mX11_oath d 42 [(0, .ref x0), (1, .int x1), (2, .int x2), (3, .int x3), (4, .int x4)] [] h (eI r) r.2) {h : Hp} {x0 : Nat} {x1 : Int32} {x2 : Int32} {x3 : Int32} {x4 : Int32}  {r : Int32 × Hp} (E : f_Model_oath_b42  k42 h x0 x1 x2 x3 x4 = some r) : Rn l X mX11_oath d 42 [(0, .ref x0), (1, .int x1), (2, .int x2), (3, .int x3), (4, .int x4)] [] h (eI r) r.2 := by
  unfold f_Model_oath_b42 at E
  refine Rn.iload (pc' := 44) dX11_oath_42 4 rfl rfl ?_
  refine Rn.bipush (pc' := 46) (v := (30 : Int32)) (hv := by decide) dX11_oath_44 rfl ?_
  refine Rn.icmp_ge (pc' := 49) (tgt := 83) dX11_oath_46 (by decide) rfl (fun c1 => ?_) (fun c1 => ?_)
  · replace E := (if_of E).1 c1
    refine Rn.aload_n (pc' := 84) dX11_oath_83 rfl 0 rfl rfl ?_
    obtain ⟨g2, E⟩ := gd_of E
    refine Rn.getR (pc' := 87) fl_X11_13_10 g2 rfl dX11_oath_84 rfl ?_
    refine Rn.bipush (pc' := 89) (v := (9 : Int32)) (hv := by decide) dX11_oath_87 rfl ?_
    refine Rn.dup2 (pc' := 90) (hc := rfl) (hd := rfl) dX11_oath_89 rfl ?_
    obtain ⟨g3, E⟩ := gd_of E
    obtain ⟨g4, E⟩ := gd_of E
    refine Rn.iald (pc' := 91) g3 g4 dX11_oath_90 rfl ?_
    refine Rn.iload_n (pc' := 92) dX11_oath_91 rfl 2 rfl rfl ?_
    refine Rn.iload_n (pc' := 93) dX11_oath_92 rfl 3 rfl rfl ?_
    refine Rn.isub (pc' := 94) dX11_oath_93 rfl ?_
    refine Rn.iadd (pc' := 95) dX11_oath_94 rfl ?_
    obtain ⟨g5, E⟩ := gd_of E
    refine Rn.iast (pc' := 96) g3 g5 dX11_oath_95 rfl ?_
    replace E := wr_of E
    generalize eh7 : sI h (hR h x0 1) (ix (9 : Int32)) ((hI h (hR h x0 1) (ix (9 : Int32))) + (x2 - x3)) = h6 at E ⊢
    refine Rn.iload_n (pc' := 97) dX11_oath_96 rfl 2 rfl rfl ?_
    refine Rn.iload_n (pc' := 98) dX11_oath_97 rfl 3 rfl rfl ?_
    refine Rn.isub (pc' := 99) dX11_oath_98 rfl ?_
    cases E
    exact Rn.zret rfl rfl dX11_oath_99
  · replace E := (if_of E).2 c1
    refine Rn.iload_n (pc' := 50) dX11_oath_49 rfl 3 rfl rfl ?_
    refine Rn.aload_n (pc' := 51) dX11_oath_50 rfl 0 rfl rfl ?_
    refine Rn.iload_n (pc' := 52) dX11_oath_51 rfl 1 rfl rfl ?_
    refine Rn.iload (pc' := 54) dX11_oath_52 4 rfl rfl ?_
    obtain ⟨g8, E⟩ := gd_of E
    obtain ⟨v9, h10, e11, E⟩ := bI_of E
    refine Rn.callV1 (pc' := 57) (As := [.int x1, .int x4]) (rest := [.int x3]) (f_Model_layerOf_ok hst e11) (Nat.le_trans (by decide) hd) rfl kb_X11_72 ki_X11_layerOf rfl g8 rfl rfl (Nat.le_of_ble_eq_true rfl) dX11_oath_54 rfl rfl ?_
    obtain ⟨v12, h13, e14, E⟩ := bI_of E
    refine Rn.callS1 (pc' := 60) (As := [.int x3, .int v9]) (rest := []) (f_Math_min_ok hst e14) (Nat.le_trans (by decide) hd) rfl kb_X11_63 ks_J9_min_7cf53 rfl rfl (Nat.le_of_ble_eq_true rfl) dX11_oath_57 rfl rfl ?_
    refine Rn.istore (pc' := 62) (L' := [(5, .int v12), (0, .ref x0), (1, .int x1), (2, .int x2), (3, .int x3), (4, .int x4)]) dX11_oath_60 (by decide) rfl rfl ?_
    refine Rn.aload_n (pc' := 63) dX11_oath_62 rfl 1 rfl rfl ?_
    refine Rn.iload_n (pc' := 64) dX11_oath_63 rfl 2 rfl rfl ?_
    refine Rn.iload (pc' := 66) dX11_oath_64 5 rfl rfl ?_
    refine Rn.iload (pc' := 68) dX11_oath_66 0 rfl rfl ?_
    refine Rn.ineg (pc' := 69) dX11_oath_68 rfl ?_
    obtain ⟨g15, E⟩ := gd_of E
    obtain ⟨h17, e18, E⟩ := bV_of E
    refine Rn.callV1 (pc' := 72) (As := [.int x1, .int x4, .int (-v12)]) (rest := []) (f_Model_adds_ok hst e18) (Nat.le_trans (by decide) hd) rfl kb_X11_82 ki_X11_adds rfl g15 rfl rfl (Nat.le_of_ble_eq_true rfl) dX11_oath_69 rfl rfl ?_
    refine Rn.iload_n (pc' := 73) dX11_oath_72 rfl 4 rfl rfl ?_
    refine Rn.iload (pc' := 75) dX11_oath_73 0 rfl rfl ?_
    refine Rn.isub (pc' := 76) dX11_oath_75 rfl ?_
    refine Rn.istore_n (pc' := 77) (L' := [(3, .int (x3 - v12)), (5, .int v12), (0, .ref x0), (1, .int x1), (2, .int x2), (4, .int x4)]) dX11_oath_76 rfl (by decide) rfl rfl ?_
    refine Rn.iinc (pc' := 80) (v := (x4 + (1 : Int32))) (L' := [(4, .int (x4 + (1 : Int32))), (3, .int (x3 - v12)), (5, .int v12), (0, .ref x0), (1, .int x1), (2, .int x2)]) dX11_oath_77 5 rfl rfl (by decide) rfl rfl ?_
    refine Rn.goto (pc' := 42) dX11_oath_80 (by decide) ?_
    refine Rn.sub [3, 4, 5, 1, 0] rfl ?_
    exact hk42 _ _ _ _ _ _ _ E
def f_Model_oath_L42   (n : Nat) : Hp → Nat → Int32 → Int32 → Int32 → Int32 → Option (Int32 × Hp) := Nat.rec (motive := fun _ => Hp → Nat → Int32 → Int32 → Int32 → Int32 → Option (Int32 × Hp)) (fun _ _ _ _ _ _ => none) (fun _ rec => f_Model_oath_b42   rec) n
theorem f_Model_oath_L42_ok {l : Launch} {X : Nat × (Nat → Int32)} (hst : l.stackTraces = false) {d : Nat} (hd : 2 ≤ d)     : ∀ (n : Nat) (h : Hp) (x0 : Nat) (x1 : Int32) (x2 : Int32) (x3 : Int32) (x4 : Int32)  (r : Int32 × Hp), f_Model_oath_L42   n h x0 x1 x2 x3 x4 = some r → Rn l X mX11_oath d 42 [(0, .ref x0), (1, .int x1), (2, .int x2), (3, .int x3), (4, .int x4)] [] h (eI r) r.2 := by
  intro n
  induction n with
  | zero => intro h x0 x1 x2 x3 x4 r E; cases E
  | succ n ih => intro h x0 x1 x2 x3 x4 r E; exact f_Model_oath_b42_ok hst hd   ih E
def f_Model_oath_b28   (h : Hp) (x0 : Nat) (x1 : Int32) (x2 : Int32) (s0 : Nat) (s1 : Int32) : Option (Int32 × Hp) :=
if hS h s0 = 11 then (
bI (f_Model_throwsIf h s0 s1 (2 : Int32)) fun v2 h3 =>
if v2 = 0 then (
f_Model_oath_L42   FU h3 x0 x1 x2 x2 (0 : Int32)

) else (
some ((0 : Int32), h3)

)
) else none
set_option maxRecDepth 20000 in
set_option maxHeartbeats 4000000 in
theorem f_Model_oath_b28_ok {l : Launch} {X : Nat × (Nat → Int32)} (hst : l.stackTraces = false) {d : Nat} (hd : 2 ≤ d)     {h : Hp} {x0 : Nat} {x1 : Int32} {x2 : Int32} {s0 : Nat} {s1 : Int32} {r : Int32 × Hp} (E : f_Model_oath_b28   h x0 x1 x2 s0 s1 = some r) : Rn l X mX11_oath d 28 [(0, .ref x0), (1, .int x1), (2, .int x2)] [.int s1, .ref s0] h (eI r) r.2 := by
  unfold f_Model_oath_b28 at E
  refine Rn.iconst (pc' := 29) (v := (2 : Int32)) (hv := by decide) dX11_oath_28 rfl ?_
  obtain ⟨g1, E⟩ := gd_of E
  obtain ⟨v2, h3, e4, E⟩ := bI_of E
  refine Rn.callV1 (pc' := 32) (As := [.int s1, .int (2 : Int32)]) (rest := []) (f_Model_throwsIf_ok hst e4) (Nat.le_trans (by decide) hd) rfl kb_X11_265 ki_X11_throwsIf rfl g1 rfl rfl (Nat.le_of_ble_eq_true rfl) dX11_oath_29 rfl rfl ?_
  refine Rn.if_eq (pc' := 35) (tgt := 37) dX11_oath_32 (by decide) rfl (fun c5 => ?_) (fun c5 => ?_)
  · replace E := (if_of E).1 c5
    refine Rn.iload_n (pc' := 38) dX11_oath_37 rfl 2 rfl rfl ?_
    refine Rn.istore_n (pc' := 39) (L' := [(3, .int x2), (0, .ref x0), (1, .int x1), (2, .int x2)]) dX11_oath_38 rfl (by decide) rfl rfl ?_
    refine Rn.iconst (pc' := 40) (v := (0 : Int32)) (hv := by decide) dX11_oath_39 rfl ?_
    refine Rn.istore (pc' := 42) (L' := [(4, .int (0 : Int32)), (3, .int x2), (0, .ref x0), (1, .int x1), (2, .int x2)]) dX11_oath_40 (by decide) rfl rfl ?_
    refine Rn.sub [2, 3, 4, 1, 0] rfl ?_
    exact f_Model_oath_L42_ok hst hd   FU _ _ _ _ _ _ _ E
  · replace E := (if_of E).2 c5
    refine Rn.iconst (pc' := 36) (v := (0 : Int32)) (hv := by decide) dX11_oath_35 rfl ?_
    cases E
    exact Rn.zret rfl rfl dX11_oath_36
def f_Model_oath_b0   (h : Hp) (x0 : Nat) (x1 : Int32) (x2 : Int32)  : Option (Int32 × Hp) :=
if hS h x0 = 11 then (
wr (sI h x0 0 (0 : Int32)) fun h2 =>
bI (f_Model_noCistern h2 x0 x1) fun v4 h5 =>
if hS h5 x0 = 11 then (
bI (f_Model_throwsIf h5 x0 v4 (1 : Int32)) fun v8 h9 =>
if v8 = 0 then (
if 0 ≤ x2 then (
f_Model_oath_b28   h9 x0 x1 x2 x0 (0 : Int32)

) else (
f_Model_oath_b28   h9 x0 x1 x2 x0 (1 : Int32)

)

) else (
some ((0 : Int32), h9)

)
) else none) else none
set_option maxRecDepth 20000 in
set_option maxHeartbeats 4000000 in
theorem f_Model_oath_b0_ok {l : Launch} {X : Nat × (Nat → Int32)} (hst : l.stackTraces = false) {d : Nat} (hd : 2 ≤ d)     {h : Hp} {x0 : Nat} {x1 : Int32} {x2 : Int32}  {r : Int32 × Hp} (E : f_Model_oath_b0   h x0 x1 x2 = some r) : Rn l X mX11_oath d 0 [(0, .ref x0), (1, .int x1), (2, .int x2)] [] h (eI r) r.2 := by
  unfold f_Model_oath_b0 at E
  refine Rn.aload_n (pc' := 1) dX11_oath_0 rfl 0 rfl rfl ?_
  refine Rn.iconst (pc' := 2) (v := (0 : Int32)) (hv := by decide) dX11_oath_1 rfl ?_
  obtain ⟨g1, E⟩ := gd_of E
  refine Rn.putI (pc' := 5) fl_X11_3_10 (fun q hq => by cases hq; decide) g1 rfl rfl rfl dX11_oath_2 rfl ?_
  replace E := wr_of E
  generalize eh3 : sI h x0 0 (0 : Int32) = h2 at E ⊢
  refine Rn.aload_n (pc' := 6) dX11_oath_5 rfl 0 rfl rfl ?_
  refine Rn.aload_n (pc' := 7) dX11_oath_6 rfl 0 rfl rfl ?_
  refine Rn.iload_n (pc' := 8) dX11_oath_7 rfl 1 rfl rfl ?_
  obtain ⟨v4, h5, e6, E⟩ := bI_of E
  refine Rn.callV1 (pc' := 11) (As := [.int x1]) (rest := [.ref x0]) (f_Model_noCistern_ok hst e6) (Nat.le_trans (by decide) hd) rfl kb_X11_284 ki_X11_noCistern rfl (kp_sI eh3 g1) rfl rfl (Nat.le_of_ble_eq_true rfl) dX11_oath_8 rfl rfl ?_
  refine Rn.iconst (pc' := 12) (v := (1 : Int32)) (hv := by decide) dX11_oath_11 rfl ?_
  obtain ⟨g7, E⟩ := gd_of E
  obtain ⟨v8, h9, e10, E⟩ := bI_of E
  refine Rn.callV1 (pc' := 15) (As := [.int v4, .int (1 : Int32)]) (rest := []) (f_Model_throwsIf_ok hst e10) (Nat.le_trans (by decide) hd) rfl kb_X11_265 ki_X11_throwsIf rfl g7 rfl rfl (Nat.le_of_ble_eq_true rfl) dX11_oath_12 rfl rfl ?_
  refine Rn.if_ne (pc' := 18) (tgt := 35) dX11_oath_15 (by decide) rfl (fun c11 => ?_) (fun c11 => ?_)
  · replace E := (if_of E).2 c11
    refine Rn.iconst (pc' := 36) (v := (0 : Int32)) (hv := by decide) dX11_oath_35 rfl ?_
    cases E
    exact Rn.zret rfl rfl dX11_oath_36
  · replace E := (if_of E).1 c11
    refine Rn.aload_n (pc' := 19) dX11_oath_18 rfl 0 rfl rfl ?_
    refine Rn.iload_n (pc' := 20) dX11_oath_19 rfl 2 rfl rfl ?_
    refine Rn.if_ge (pc' := 23) (tgt := 27) dX11_oath_20 (by decide) rfl (fun c12 => ?_) (fun c12 => ?_)
    · replace E := (if_of E).1 c12
      refine Rn.iconst (pc' := 28) (v := (0 : Int32)) (hv := by decide) dX11_oath_27 rfl ?_
      exact f_Model_oath_b28_ok hst hd   E
    · replace E := (if_of E).2 c12
      refine Rn.iconst (pc' := 24) (v := (1 : Int32)) (hv := by decide) dX11_oath_23 rfl ?_
      refine Rn.goto (pc' := 28) dX11_oath_24 (by decide) ?_
      exact f_Model_oath_b28_ok hst hd   E
def f_Model_oath (h : Hp) (x0 : Nat) (x1 : Int32) (x2 : Int32) : Option (Int32 × Hp) := f_Model_oath_b0  h x0 x1 x2
theorem f_Model_oath_ok {l : Launch} {X : Nat × (Nat → Int32)} (hst : l.stackTraces = false) {h : Hp} {x0 : Nat} {x1 : Int32} {x2 : Int32} {r : Int32 × Hp} (E : f_Model_oath h x0 x1 x2 = some r) : MC l X yX11_oath mX11_oath 2 [.ref x0, .int x1, .int x2] h (eI r) r.2 :=
  MC.body (by decide +kernel) rfl (by decide) hst (Nat.le_of_ble_eq_true rfl) (f_Model_oath_b0_ok hst (Nat.le_refl _) E)
abbrev mX8_forgetLatest : MI := (RX8, cX8_forgetLatest, 1, none, [], false)
theorem ws_X8_forgetLatest : ∀ w ∈ wsM yX8_forgetLatest mX8_forgetLatest, w ∈ gw := List.forall_mem_cons.mpr ⟨gw_at 523 (by decide +kernel) (by decide +kernel), fun _ h => h⟩
theorem fl_X8_28_7 : FL RX8 28 7 2 := ⟨_, rfl, by decide, "VintageWater$Memory", gw_at 424 (by decide +kernel) (by decide +kernel), Or.inl rfl⟩
theorem kb_X8_42 : KB RX8 42 yJ9_max_7cf53 mJ9_max_7cf53 2 := ⟨gw_at 524 (by decide +kernel) (by decide +kernel), gw_at 128 (by decide +kernel) (by decide +kernel), trivial, ws_J9_max_7cf53, by decide +kernel, by decide +kernel, by decide +kernel, by decide⟩
def f_Memory_forgetLatest_b0   (h : Hp) (x0 : Nat)  : Option (Hp) :=
if hS h x0 = 8 then (
wr (sI h x0 1 (jrem (((hI h x0 1) + (12 : Int32)) - (1 : Int32)) (12 : Int32))) fun h2 =>
bI (f_Math_max h2 (0 : Int32) ((hI h2 x0 2) - (1 : Int32))) fun v4 h5 =>
if hS h5 x0 = 8 then (
wr (sI h5 x0 2 v4) fun h8 =>
some h8
) else none) else none
set_option maxRecDepth 20000 in
set_option maxHeartbeats 4000000 in
theorem f_Memory_forgetLatest_b0_ok {l : Launch} {X : Nat × (Nat → Int32)} (hst : l.stackTraces = false) {d : Nat} (hd : 1 ≤ d)     {h : Hp} {x0 : Nat}  {r : Hp} (E : f_Memory_forgetLatest_b0   h x0 = some r) : Rn l X mX8_forgetLatest d 0 [(0, .ref x0)] [] h (eV r) r := by
  unfold f_Memory_forgetLatest_b0 at E
  refine Rn.aload_n (pc' := 1) dX8_forgetLatest_0 rfl 0 rfl rfl ?_
  refine Rn.aload_n (pc' := 2) dX8_forgetLatest_1 rfl 0 rfl rfl ?_
  obtain ⟨g1, E⟩ := gd_of E
  refine Rn.getI (pc' := 5) fl_X8_18_7 g1 rfl dX8_forgetLatest_2 rfl ?_
  refine Rn.bipush (pc' := 7) (v := (12 : Int32)) (hv := by decide) dX8_forgetLatest_5 rfl ?_
  refine Rn.iadd (pc' := 8) dX8_forgetLatest_7 rfl ?_
  refine Rn.iconst (pc' := 9) (v := (1 : Int32)) (hv := by decide) dX8_forgetLatest_8 rfl ?_
  refine Rn.isub (pc' := 10) dX8_forgetLatest_9 rfl ?_
  refine Rn.bipush (pc' := 12) (v := (12 : Int32)) (hv := by decide) dX8_forgetLatest_10 rfl ?_
  refine Rn.irem (pc' := 13) (hne := (by decide)) dX8_forgetLatest_12 rfl ?_
  refine Rn.putI (pc' := 16) fl_X8_18_7 (fun q hq => by cases hq; decide) g1 rfl rfl rfl dX8_forgetLatest_13 rfl ?_
  replace E := wr_of E
  generalize eh3 : sI h x0 1 (jrem (((hI h x0 1) + (12 : Int32)) - (1 : Int32)) (12 : Int32)) = h2 at E ⊢
  refine Rn.aload_n (pc' := 17) dX8_forgetLatest_16 rfl 0 rfl rfl ?_
  refine Rn.iconst (pc' := 18) (v := (0 : Int32)) (hv := by decide) dX8_forgetLatest_17 rfl ?_
  refine Rn.aload_n (pc' := 19) dX8_forgetLatest_18 rfl 0 rfl rfl ?_
  refine Rn.getI (pc' := 22) fl_X8_28_7 (kp_sI eh3 g1) rfl dX8_forgetLatest_19 rfl ?_
  refine Rn.iconst (pc' := 23) (v := (1 : Int32)) (hv := by decide) dX8_forgetLatest_22 rfl ?_
  refine Rn.isub (pc' := 24) dX8_forgetLatest_23 rfl ?_
  obtain ⟨v4, h5, e6, E⟩ := bI_of E
  refine Rn.callS1 (pc' := 27) (As := [.int (0 : Int32), .int ((hI h2 x0 2) - (1 : Int32))]) (rest := [.ref x0]) (f_Math_max_ok hst e6) (Nat.le_trans (by decide) hd) rfl kb_X8_42 ks_J9_max_7cf53 rfl rfl (Nat.le_of_ble_eq_true rfl) dX8_forgetLatest_24 rfl rfl ?_
  obtain ⟨g7, E⟩ := gd_of E
  refine Rn.putI (pc' := 30) fl_X8_28_7 (fun q hq => by cases hq; decide) g7 rfl rfl rfl dX8_forgetLatest_27 rfl ?_
  replace E := wr_of E
  generalize eh9 : sI h5 x0 2 v4 = h8 at E ⊢
  cases E
  exact Rn.vret rfl dX8_forgetLatest_30
def f_Memory_forgetLatest (h : Hp) (x0 : Nat) : Option (Hp) := f_Memory_forgetLatest_b0  h x0
theorem f_Memory_forgetLatest_ok {l : Launch} {X : Nat × (Nat → Int32)} (hst : l.stackTraces = false) {h : Hp} {x0 : Nat} {r : Hp} (E : f_Memory_forgetLatest h x0 = some r) : MC l X yX8_forgetLatest mX8_forgetLatest 1 [.ref x0] h (eV r) r :=
  MC.body (by decide +kernel) rfl (by decide) hst (Nat.le_of_ble_eq_true rfl) (f_Memory_forgetLatest_b0_ok hst (Nat.le_refl _) E)
abbrev mX10_undo : MI := (RX10, cX10_undo, 1, (some Jvm.ClassFile.FieldType.int), [], false)
theorem ws_X10_undo : ∀ w ∈ wsM yX10_undo mX10_undo, w ∈ gw := List.forall_mem_cons.mpr ⟨gw_at 491 (by decide +kernel) (by decide +kernel), fun _ h => h⟩
theorem kb_X10_222 : KB RX10 222 yX8_forgetLatest mX8_forgetLatest 0 := ⟨gw_at 520 (by decide +kernel) (by decide +kernel), gw_at 112 (by decide +kernel) (by decide +kernel), trivial, ws_X8_forgetLatest, by decide +kernel, by decide +kernel, by decide +kernel, by decide⟩
theorem ki_X8_forgetLatest : Cond.instanceMethod yX8_forgetLatest ∈ gw ∧ Cond.selects yX8_forgetLatest.cls yX8_forgetLatest yX8_forgetLatest ∈ gw := ⟨gw_at 521 (by decide +kernel) (by decide +kernel), gw_at 522 (by decide +kernel) (by decide +kernel)⟩
def f_Water_undo_b0   (h : Hp) (x0 : Nat)  : Option (Int32 × Hp) :=
if hS h x0 = 10 then (
if hS h (hR h x0 3) = 8 then (
if (hI h (hR h x0 3) 2) = 0 then (
some ((-1 : Int32), h)

) else (
bI (f_Memory_latestLand h (hR h x0 3)) fun v4 h5 =>
if hS h5 (hR h x0 4) = 4 then (
bV (f_Land_copyFrom h5 (hR h x0 4) v4) fun h9 =>
if hS h9 x0 = 10 then (
if hS h9 (hR h9 x0 3) = 8 then (
bV (f_Memory_forgetLatest h9 (hR h9 x0 3)) fun h14 =>
if hS h14 x0 = 10 then (
if hS h14 (hR h14 x0 4) = 4 then (
some ((hI h14 (hR h14 x0 4) 10), h14)
) else none) else none) else none) else none) else none
)
) else none) else none
set_option maxRecDepth 20000 in
set_option maxHeartbeats 4000000 in
theorem f_Water_undo_b0_ok {l : Launch} {X : Nat × (Nat → Int32)} (hst : l.stackTraces = false) {d : Nat} (hd : 3 ≤ d)     {h : Hp} {x0 : Nat}  {r : Int32 × Hp} (E : f_Water_undo_b0   h x0 = some r) : Rn l X mX10_undo d 0 [(0, .ref x0)] [] h (eI r) r.2 := by
  unfold f_Water_undo_b0 at E
  refine Rn.aload_n (pc' := 1) dX10_undo_0 rfl 0 rfl rfl ?_
  obtain ⟨g1, E⟩ := gd_of E
  refine Rn.getR (pc' := 4) fl_X10_35_9 g1 rfl dX10_undo_1 rfl ?_
  obtain ⟨g2, E⟩ := gd_of E
  refine Rn.getI (pc' := 7) fl_X10_214_7 g2 rfl dX10_undo_4 rfl ?_
  refine Rn.if_ne (pc' := 10) (tgt := 12) dX10_undo_7 (by decide) rfl (fun c3 => ?_) (fun c3 => ?_)
  · replace E := (if_of E).2 c3
    refine Rn.aload_n (pc' := 13) dX10_undo_12 rfl 0 rfl rfl ?_
    refine Rn.getR (pc' := 16) fl_X10_42_9 g1 rfl dX10_undo_13 rfl ?_
    refine Rn.aload_n (pc' := 17) dX10_undo_16 rfl 0 rfl rfl ?_
    refine Rn.getR (pc' := 20) fl_X10_35_9 g1 rfl dX10_undo_17 rfl ?_
    obtain ⟨v4, h5, e6, E⟩ := bI_of E
    refine Rn.callV1 (pc' := 23) (As := []) (rest := [.ref (hR h x0 4)]) (f_Memory_latestLand_ok hst e6) (Nat.le_trans (by decide) hd) rfl kb_X10_215 ki_X8_latestLand rfl g2 rfl rfl (Nat.le_of_ble_eq_true rfl) dX10_undo_20 rfl rfl ?_
    obtain ⟨g7, E⟩ := gd_of E
    obtain ⟨h9, e10, E⟩ := bV_of E
    refine Rn.callV1 (pc' := 26) (As := [.ref v4]) (rest := []) (f_Land_copyFrom_ok hst e10) (Nat.le_trans (by decide) hd) rfl kb_X10_219 ki_X3_copyFrom rfl g7 rfl rfl (Nat.le_of_ble_eq_true rfl) dX10_undo_23 rfl rfl ?_
    refine Rn.aload_n (pc' := 27) dX10_undo_26 rfl 0 rfl rfl ?_
    obtain ⟨g11, E⟩ := gd_of E
    refine Rn.getR (pc' := 30) fl_X10_35_9 g11 rfl dX10_undo_27 rfl ?_
    obtain ⟨g12, E⟩ := gd_of E
    obtain ⟨h14, e15, E⟩ := bV_of E
    refine Rn.callV1 (pc' := 33) (As := []) (rest := []) (f_Memory_forgetLatest_ok hst e15) (Nat.le_trans (by decide) hd) rfl kb_X10_222 ki_X8_forgetLatest rfl g12 rfl rfl (Nat.le_of_ble_eq_true rfl) dX10_undo_30 rfl rfl ?_
    refine Rn.aload_n (pc' := 34) dX10_undo_33 rfl 0 rfl rfl ?_
    obtain ⟨g16, E⟩ := gd_of E
    refine Rn.getR (pc' := 37) fl_X10_42_9 g16 rfl dX10_undo_34 rfl ?_
    obtain ⟨g17, E⟩ := gd_of E
    refine Rn.getI (pc' := 40) fl_X10_225_3 g17 rfl dX10_undo_37 rfl ?_
    cases E
    exact Rn.zret rfl rfl dX10_undo_40
  · replace E := (if_of E).1 c3
    refine Rn.iconst (pc' := 11) (v := (-1 : Int32)) (hv := by decide) dX10_undo_10 rfl ?_
    cases E
    exact Rn.zret rfl rfl dX10_undo_11
def f_Water_undo (h : Hp) (x0 : Nat) : Option (Int32 × Hp) := f_Water_undo_b0  h x0
theorem f_Water_undo_ok {l : Launch} {X : Nat × (Nat → Int32)} (hst : l.stackTraces = false) {h : Hp} {x0 : Nat} {r : Int32 × Hp} (E : f_Water_undo h x0 = some r) : MC l X yX10_undo mX10_undo 3 [.ref x0] h (eI r) r.2 :=
  MC.body (by decide +kernel) rfl (by decide) hst (Nat.le_of_ble_eq_true rfl) (f_Water_undo_b0_ok hst (Nat.le_refl _) E)
abbrev mX11_undo : MI := (RX11, cX11_undo, 2, (some Jvm.ClassFile.FieldType.int), [], false)
theorem ws_X11_undo : ∀ w ∈ wsM yX11_undo mX11_undo, w ∈ gw := List.forall_mem_cons.mpr ⟨gw_at 1812 (by decide +kernel) (by decide +kernel), fun _ h => h⟩
def f_Model_undo_b26  (k26 : Hp → Nat → Int32 → Option (Int32 × Hp)) (h : Hp) (x0 : Nat) (x1 : Int32)  : Option (Int32 × Hp) :=
if (1454 : Int32) ≤ x1 then (
if hS h x0 = 11 then (
if hS h (hR h x0 1) = 20 then (
if ib (4 : Int32) (hL h (hR h x0 1)) = true then (
some ((hI h (hR h x0 1) (ix (4 : Int32))), h)
) else none) else none) else none
) else (
if hS h x0 = 11 then (
if hS h (hR h x0 5) = 20 then (
if ib (((1454 : Int32) * (hI h x0 7)) + x1) (hL h (hR h x0 5)) = true then (
if hS h (hR h x0 1) = 20 then (
if ib x1 (hL h (hR h x0 1)) = true then (
wr (sI h (hR h x0 1) (ix x1) (hI h (hR h x0 5) (ix (((1454 : Int32) * (hI h x0 7)) + x1)))) fun h10 =>
k26 h10 x0 (x1 + (1 : Int32))
) else none) else none) else none) else none) else none
)

set_option maxRecDepth 20000 in
set_option maxHeartbeats 4000000 in
theorem f_Model_undo_b26_ok {l : Launch} {X : Nat × (Nat → Int32)} (hst : l.stackTraces = false) {d : Nat} (hd : 0 ≤ d)   {k26 : Hp → Nat → Int32 → Option (Int32 × Hp)} (hk26 : ∀ (h : Hp) (x0 : Nat) (x1 : Int32)  (r : Int32 × Hp), k26 h x0 x1 = some r → Rn l X mX11_undo d 26 [(0, .ref x0), (1, .int x1)] [] h (eI r) r.2) {h : Hp} {x0 : Nat} {x1 : Int32}  {r : Int32 × Hp} (E : f_Model_undo_b26  k26 h x0 x1 = some r) : Rn l X mX11_undo d 26 [(0, .ref x0), (1, .int x1)] [] h (eI r) r.2 := by
  unfold f_Model_undo_b26 at E
  refine Rn.iload_n (pc' := 27) dX11_undo_26 rfl 1 rfl rfl ?_
  refine Rn.sipush (pc' := 30) (v := (1454 : Int32)) (hv := by decide) dX11_undo_27 rfl ?_
  refine Rn.icmp_ge (pc' := 33) (tgt := 60) dX11_undo_30 (by decide) rfl (fun c1 => ?_) (fun c1 => ?_)
  · replace E := (if_of E).1 c1
    refine Rn.aload_n (pc' := 61) dX11_undo_60 rfl 0 rfl rfl ?_
    obtain ⟨g2, E⟩ := gd_of E
    refine Rn.getR (pc' := 64) fl_X11_13_10 g2 rfl dX11_undo_61 rfl ?_
    refine Rn.iconst (pc' := 65) (v := (4 : Int32)) (hv := by decide) dX11_undo_64 rfl ?_
    obtain ⟨g3, E⟩ := gd_of E
    obtain ⟨g4, E⟩ := gd_of E
    refine Rn.iald (pc' := 66) g3 g4 dX11_undo_65 rfl ?_
    cases E
    exact Rn.zret rfl rfl dX11_undo_66
  · replace E := (if_of E).2 c1
    refine Rn.aload_n (pc' := 34) dX11_undo_33 rfl 0 rfl rfl ?_
    obtain ⟨g5, E⟩ := gd_of E
    refine Rn.getR (pc' := 37) fl_X11_13_10 g5 rfl dX11_undo_34 rfl ?_
    refine Rn.iload_n (pc' := 38) dX11_undo_37 rfl 1 rfl rfl ?_
    refine Rn.aload_n (pc' := 39) dX11_undo_38 rfl 0 rfl rfl ?_
    refine Rn.getR (pc' := 42) fl_X11_26_10 g5 rfl dX11_undo_39 rfl ?_
    refine Rn.sipush (pc' := 45) (v := (1454 : Int32)) (hv := by decide) dX11_undo_42 rfl ?_
    refine Rn.aload_n (pc' := 46) dX11_undo_45 rfl 0 rfl rfl ?_
    refine Rn.getI (pc' := 49) fl_X11_49_10 g5 rfl dX11_undo_46 rfl ?_
    refine Rn.imul (pc' := 50) dX11_undo_49 rfl ?_
    refine Rn.iload_n (pc' := 51) dX11_undo_50 rfl 1 rfl rfl ?_
    refine Rn.iadd (pc' := 52) dX11_undo_51 rfl ?_
    obtain ⟨g6, E⟩ := gd_of E
    obtain ⟨g7, E⟩ := gd_of E
    refine Rn.iald (pc' := 53) g6 g7 dX11_undo_52 rfl ?_
    obtain ⟨g8, E⟩ := gd_of E
    obtain ⟨g9, E⟩ := gd_of E
    refine Rn.iast (pc' := 54) g8 g9 dX11_undo_53 rfl ?_
    replace E := wr_of E
    generalize eh11 : sI h (hR h x0 1) (ix x1) (hI h (hR h x0 5) (ix (((1454 : Int32) * (hI h x0 7)) + x1))) = h10 at E ⊢
    refine Rn.iinc (pc' := 57) (v := (x1 + (1 : Int32))) (L' := [(1, .int (x1 + (1 : Int32))), (0, .ref x0)]) dX11_undo_54 1 rfl rfl (by decide) rfl rfl ?_
    refine Rn.goto (pc' := 26) dX11_undo_57 (by decide) ?_
    refine Rn.sub [1, 0] rfl ?_
    exact hk26 _ _ _ _ E
def f_Model_undo_L26   (n : Nat) : Hp → Nat → Int32 → Option (Int32 × Hp) := Nat.rec (motive := fun _ => Hp → Nat → Int32 → Option (Int32 × Hp)) (fun _ _ _ => none) (fun _ rec => f_Model_undo_b26   rec) n
theorem f_Model_undo_L26_ok {l : Launch} {X : Nat × (Nat → Int32)} (hst : l.stackTraces = false) {d : Nat} (hd : 0 ≤ d)     : ∀ (n : Nat) (h : Hp) (x0 : Nat) (x1 : Int32)  (r : Int32 × Hp), f_Model_undo_L26   n h x0 x1 = some r → Rn l X mX11_undo d 26 [(0, .ref x0), (1, .int x1)] [] h (eI r) r.2 := by
  intro n
  induction n with
  | zero => intro h x0 x1 r E; cases E
  | succ n ih => intro h x0 x1 r E; exact f_Model_undo_b26_ok hst hd   ih E
def f_Model_undo_b0   (h : Hp) (x0 : Nat)  : Option (Int32 × Hp) :=
if hS h x0 = 11 then (
wr (sI h x0 0 (0 : Int32)) fun h2 =>
if (hI h2 x0 7) = 0 then (
some ((-1 : Int32), h2)

) else (
wr (sI h2 x0 7 ((hI h2 x0 7) - (1 : Int32))) fun h5 =>
f_Model_undo_L26   FU h5 x0 (0 : Int32)

)
) else none
set_option maxRecDepth 20000 in
set_option maxHeartbeats 4000000 in
theorem f_Model_undo_b0_ok {l : Launch} {X : Nat × (Nat → Int32)} (hst : l.stackTraces = false) {d : Nat} (hd : 0 ≤ d)     {h : Hp} {x0 : Nat}  {r : Int32 × Hp} (E : f_Model_undo_b0   h x0 = some r) : Rn l X mX11_undo d 0 [(0, .ref x0)] [] h (eI r) r.2 := by
  unfold f_Model_undo_b0 at E
  refine Rn.aload_n (pc' := 1) dX11_undo_0 rfl 0 rfl rfl ?_
  refine Rn.iconst (pc' := 2) (v := (0 : Int32)) (hv := by decide) dX11_undo_1 rfl ?_
  obtain ⟨g1, E⟩ := gd_of E
  refine Rn.putI (pc' := 5) fl_X11_3_10 (fun q hq => by cases hq; decide) g1 rfl rfl rfl dX11_undo_2 rfl ?_
  replace E := wr_of E
  generalize eh3 : sI h x0 0 (0 : Int32) = h2 at E ⊢
  refine Rn.aload_n (pc' := 6) dX11_undo_5 rfl 0 rfl rfl ?_
  refine Rn.getI (pc' := 9) fl_X11_49_10 (kp_sI eh3 g1) rfl dX11_undo_6 rfl ?_
  refine Rn.if_ne (pc' := 12) (tgt := 14) dX11_undo_9 (by decide) rfl (fun c4 => ?_) (fun c4 => ?_)
  · replace E := (if_of E).2 c4
    refine Rn.aload_n (pc' := 15) dX11_undo_14 rfl 0 rfl rfl ?_
    refine Rn.dup (pc' := 16) (hc := rfl) dX11_undo_15 rfl ?_
    refine Rn.getI (pc' := 19) fl_X11_49_10 (kp_sI eh3 g1) rfl dX11_undo_16 rfl ?_
    refine Rn.iconst (pc' := 20) (v := (1 : Int32)) (hv := by decide) dX11_undo_19 rfl ?_
    refine Rn.isub (pc' := 21) dX11_undo_20 rfl ?_
    refine Rn.putI (pc' := 24) fl_X11_49_10 (fun q hq => by cases hq; decide) (kp_sI eh3 g1) rfl rfl rfl dX11_undo_21 rfl ?_
    replace E := wr_of E
    generalize eh6 : sI h2 x0 7 ((hI h2 x0 7) - (1 : Int32)) = h5 at E ⊢
    refine Rn.iconst (pc' := 25) (v := (0 : Int32)) (hv := by decide) dX11_undo_24 rfl ?_
    refine Rn.istore_n (pc' := 26) (L' := [(1, .int (0 : Int32)), (0, .ref x0)]) dX11_undo_25 rfl (by decide) rfl rfl ?_
    refine Rn.sub [1, 0] rfl ?_
    exact f_Model_undo_L26_ok hst hd   FU _ _ _ _ E
  · replace E := (if_of E).1 c4
    refine Rn.iconst (pc' := 13) (v := (-1 : Int32)) (hv := by decide) dX11_undo_12 rfl ?_
    cases E
    exact Rn.zret rfl rfl dX11_undo_13
def f_Model_undo (h : Hp) (x0 : Nat) : Option (Int32 × Hp) := f_Model_undo_b0  h x0
theorem f_Model_undo_ok {l : Launch} {X : Nat × (Nat → Int32)} (hst : l.stackTraces = false) {h : Hp} {x0 : Nat} {r : Int32 × Hp} (E : f_Model_undo h x0 = some r) : MC l X yX11_undo mX11_undo 0 [.ref x0] h (eI r) r.2 :=
  MC.body (by decide +kernel) rfl (by decide) hst (Nat.le_of_ble_eq_true rfl) (f_Model_undo_b0_ok hst (Nat.le_refl _) E)
abbrev mX8_remember : MI := (RX8, cX8_remember, 2, none, [], false)
theorem ws_X8_remember : ∀ w ∈ wsM yX8_remember mX8_remember, w ∈ gw := List.forall_mem_cons.mpr ⟨gw_at 1224 (by decide +kernel) (by decide +kernel), fun _ h => h⟩
theorem kb_X8_31 : KB RX8 31 yJ9_min_7cf53 mJ9_min_7cf53 2 := ⟨gw_at 1225 (by decide +kernel) (by decide +kernel), gw_at 128 (by decide +kernel) (by decide +kernel), trivial, ws_J9_min_7cf53, by decide +kernel, by decide +kernel, by decide +kernel, by decide⟩
theorem kb_X8_34 : KB RX8 34 yX8_latestLand mX8_latestLand 0 := ⟨gw_at 1226 (by decide +kernel) (by decide +kernel), gw_at 112 (by decide +kernel) (by decide +kernel), trivial, ws_X8_latestLand, by decide +kernel, by decide +kernel, by decide +kernel, by decide⟩
theorem kb_X8_38 : KB RX8 38 yX3_copyFrom mX3_copyFrom 1 := ⟨gw_at 1227 (by decide +kernel) (by decide +kernel), gw_at 113 (by decide +kernel) (by decide +kernel), trivial, ws_X3_copyFrom, by decide +kernel, by decide +kernel, by decide +kernel, by decide⟩
def f_Memory_remember_b0   (h : Hp) (x0 : Nat) (x1 : Nat)  : Option (Hp) :=
if hS h x0 = 8 then (
wr (sI h x0 1 (jrem ((hI h x0 1) + (1 : Int32)) (12 : Int32))) fun h2 =>
bI (f_Math_min h2 (12 : Int32) ((hI h2 x0 2) + (1 : Int32))) fun v4 h5 =>
if hS h5 x0 = 8 then (
wr (sI h5 x0 2 v4) fun h8 =>
bI (f_Memory_latestLand h8 x0) fun v10 h11 =>
if hS h11 v10 = 4 then (
bV (f_Land_copyFrom h11 v10 x1) fun h15 =>
some h15
) else none) else none) else none
set_option maxRecDepth 20000 in
set_option maxHeartbeats 4000000 in
theorem f_Memory_remember_b0_ok {l : Launch} {X : Nat × (Nat → Int32)} (hst : l.stackTraces = false) {d : Nat} (hd : 3 ≤ d)     {h : Hp} {x0 : Nat} {x1 : Nat}  {r : Hp} (E : f_Memory_remember_b0   h x0 x1 = some r) : Rn l X mX8_remember d 0 [(0, .ref x0), (1, .ref x1)] [] h (eV r) r := by
  unfold f_Memory_remember_b0 at E
  refine Rn.aload_n (pc' := 1) dX8_remember_0 rfl 0 rfl rfl ?_
  refine Rn.aload_n (pc' := 2) dX8_remember_1 rfl 0 rfl rfl ?_
  obtain ⟨g1, E⟩ := gd_of E
  refine Rn.getI (pc' := 5) fl_X8_18_7 g1 rfl dX8_remember_2 rfl ?_
  refine Rn.iconst (pc' := 6) (v := (1 : Int32)) (hv := by decide) dX8_remember_5 rfl ?_
  refine Rn.iadd (pc' := 7) dX8_remember_6 rfl ?_
  refine Rn.bipush (pc' := 9) (v := (12 : Int32)) (hv := by decide) dX8_remember_7 rfl ?_
  refine Rn.irem (pc' := 10) (hne := (by decide)) dX8_remember_9 rfl ?_
  refine Rn.putI (pc' := 13) fl_X8_18_7 (fun q hq => by cases hq; decide) g1 rfl rfl rfl dX8_remember_10 rfl ?_
  replace E := wr_of E
  generalize eh3 : sI h x0 1 (jrem ((hI h x0 1) + (1 : Int32)) (12 : Int32)) = h2 at E ⊢
  refine Rn.aload_n (pc' := 14) dX8_remember_13 rfl 0 rfl rfl ?_
  refine Rn.bipush (pc' := 16) (v := (12 : Int32)) (hv := by decide) dX8_remember_14 rfl ?_
  refine Rn.aload_n (pc' := 17) dX8_remember_16 rfl 0 rfl rfl ?_
  refine Rn.getI (pc' := 20) fl_X8_28_7 (kp_sI eh3 g1) rfl dX8_remember_17 rfl ?_
  refine Rn.iconst (pc' := 21) (v := (1 : Int32)) (hv := by decide) dX8_remember_20 rfl ?_
  refine Rn.iadd (pc' := 22) dX8_remember_21 rfl ?_
  obtain ⟨v4, h5, e6, E⟩ := bI_of E
  refine Rn.callS1 (pc' := 25) (As := [.int (12 : Int32), .int ((hI h2 x0 2) + (1 : Int32))]) (rest := [.ref x0]) (f_Math_min_ok hst e6) (Nat.le_trans (by decide) hd) rfl kb_X8_31 ks_J9_min_7cf53 rfl rfl (Nat.le_of_ble_eq_true rfl) dX8_remember_22 rfl rfl ?_
  obtain ⟨g7, E⟩ := gd_of E
  refine Rn.putI (pc' := 28) fl_X8_28_7 (fun q hq => by cases hq; decide) g7 rfl rfl rfl dX8_remember_25 rfl ?_
  replace E := wr_of E
  generalize eh9 : sI h5 x0 2 v4 = h8 at E ⊢
  refine Rn.aload_n (pc' := 29) dX8_remember_28 rfl 0 rfl rfl ?_
  obtain ⟨v10, h11, e12, E⟩ := bI_of E
  refine Rn.callV1 (pc' := 32) (As := []) (rest := []) (f_Memory_latestLand_ok hst e12) (Nat.le_trans (by decide) hd) rfl kb_X8_34 ki_X8_latestLand rfl (kp_sI eh9 g7) rfl rfl (Nat.le_of_ble_eq_true rfl) dX8_remember_29 rfl rfl ?_
  refine Rn.aload_n (pc' := 33) dX8_remember_32 rfl 1 rfl rfl ?_
  obtain ⟨g13, E⟩ := gd_of E
  obtain ⟨h15, e16, E⟩ := bV_of E
  refine Rn.callV1 (pc' := 36) (As := [.ref x1]) (rest := []) (f_Land_copyFrom_ok hst e16) (Nat.le_trans (by decide) hd) rfl kb_X8_38 ki_X3_copyFrom rfl g13 rfl rfl (Nat.le_of_ble_eq_true rfl) dX8_remember_33 rfl rfl ?_
  cases E
  exact Rn.vret rfl dX8_remember_36
def f_Memory_remember (h : Hp) (x0 : Nat) (x1 : Nat) : Option (Hp) := f_Memory_remember_b0  h x0 x1
theorem f_Memory_remember_ok {l : Launch} {X : Nat × (Nat → Int32)} (hst : l.stackTraces = false) {h : Hp} {x0 : Nat} {x1 : Nat} {r : Hp} (E : f_Memory_remember h x0 x1 = some r) : MC l X yX8_remember mX8_remember 3 [.ref x0, .ref x1] h (eV r) r :=
  MC.body (by decide +kernel) rfl (by decide) hst (Nat.le_of_ble_eq_true rfl) (f_Memory_remember_b0_ok hst (Nat.le_refl _) E)
abbrev mX10_months : MI := (RX10, cX10_months, 4, (some Jvm.ClassFile.FieldType.int), [], false)
theorem ws_X10_months : ∀ w ∈ wsM yX10_months mX10_months, w ∈ gw := List.forall_mem_cons.mpr ⟨gw_at 1219 (by decide +kernel) (by decide +kernel), fun _ h => h⟩
def f_Water_months_b11   (h : Hp)   : Option ((Int32 ⊕ Nat) × Hp) :=
some (.inr 2, hA h 0 0 6)

set_option maxRecDepth 20000 in
set_option maxHeartbeats 4000000 in
theorem f_Water_months_b11_ok {l : Launch} {X : Nat × (Nat → Int32)} (hst : l.stackTraces = false) {d : Nat} (hd : 6 ≤ d)     {h : Hp}   {r : (Int32 ⊕ Nat) × Hp} (E : f_Water_months_b11   h  = some r) : Rn l X mX10_months d 11 [] [] h (xI r) r.2 := by
  unfold f_Water_months_b11 at E
  cases E
  exact Rn.throwS (x := 2) (i := 8) kt_X10_88_92 rfl rfl dX10_months_11 dX10_months_14 dX10_months_15 dX10_months_17 dX10_months_20 (Nat.le_of_ble_eq_true rfl)
theorem kb_X10_211 : KB RX10 211 yX3_passMonth mX3_passMonth 0 := ⟨gw_at 1228 (by decide +kernel) (by decide +kernel), gw_at 113 (by decide +kernel) (by decide +kernel), trivial, ws_X3_passMonth, by decide +kernel, by decide +kernel, by decide +kernel, by decide⟩
def f_Water_months_b49  (k25 : Hp → Nat → Int32 → Int32 → Int32 → Option ((Int32 ⊕ Nat) × Hp)) (h : Hp) (x0 : Nat) (x1 : Int32) (x2 : Int32) (x3 : Int32)  : Option ((Int32 ⊕ Nat) × Hp) :=
if hS h x0 = 10 then (
if hS h (hR h x0 4) = 4 then (
bI (f_Land_passMonth h (hR h x0 4)) fun v3 h4 =>
k25 h4 x0 x1 (x2 + v3) (x3 + (1 : Int32))
) else none) else none
set_option maxRecDepth 20000 in
set_option maxHeartbeats 4000000 in
theorem f_Water_months_b49_ok {l : Launch} {X : Nat × (Nat → Int32)} (hst : l.stackTraces = false) {d : Nat} (hd : 6 ≤ d)   {k25 : Hp → Nat → Int32 → Int32 → Int32 → Option ((Int32 ⊕ Nat) × Hp)} (hk25 : ∀ (h : Hp) (x0 : Nat) (x1 : Int32) (x2 : Int32) (x3 : Int32)  (r : (Int32 ⊕ Nat) × Hp), k25 h x0 x1 x2 x3 = some r → Rn l X mX10_months d 25 [(0, .ref x0), (1, .int x1), (2, .int x2), (3, .int x3)] [] h (xI r) r.2) {h : Hp} {x0 : Nat} {x1 : Int32} {x2 : Int32} {x3 : Int32}  {r : (Int32 ⊕ Nat) × Hp} (E : f_Water_months_b49  k25 h x0 x1 x2 x3 = some r) : Rn l X mX10_months d 49 [(0, .ref x0), (1, .int x1), (2, .int x2), (3, .int x3)] [] h (xI r) r.2 := by
  unfold f_Water_months_b49 at E
  refine Rn.iload_n (pc' := 50) dX10_months_49 rfl 2 rfl rfl ?_
  refine Rn.aload_n (pc' := 51) dX10_months_50 rfl 0 rfl rfl ?_
  obtain ⟨g1, E⟩ := gd_of E
  refine Rn.getR (pc' := 54) fl_X10_42_9 g1 rfl dX10_months_51 rfl ?_
  obtain ⟨g2, E⟩ := gd_of E
  obtain ⟨v3, h4, e5, E⟩ := bI_of E
  refine Rn.callV1 (pc' := 57) (As := []) (rest := [.int x2]) (f_Land_passMonth_ok hst e5) (Nat.le_trans (by decide) hd) rfl kb_X10_211 ki_X3_passMonth rfl g2 rfl rfl (Nat.le_of_ble_eq_true rfl) dX10_months_54 rfl rfl ?_
  refine Rn.iadd (pc' := 58) dX10_months_57 rfl ?_
  refine Rn.istore_n (pc' := 59) (L' := [(2, .int (x2 + v3)), (0, .ref x0), (1, .int x1), (3, .int x3)]) dX10_months_58 rfl (by decide) rfl rfl ?_
  refine Rn.iinc (pc' := 62) (v := (x3 + (1 : Int32))) (L' := [(3, .int (x3 + (1 : Int32))), (2, .int (x2 + v3)), (0, .ref x0), (1, .int x1)]) dX10_months_59 3 rfl rfl (by decide) rfl rfl ?_
  refine Rn.goto (pc' := 25) dX10_months_62 (by decide) ?_
  refine Rn.sub [2, 3, 1, 0] rfl ?_
  exact hk25 _ _ _ _ _ _ E
theorem kb_X10_208 : KB RX10 208 yX8_remember mX8_remember 1 := ⟨gw_at 1221 (by decide +kernel) (by decide +kernel), gw_at 112 (by decide +kernel) (by decide +kernel), trivial, ws_X8_remember, by decide +kernel, by decide +kernel, by decide +kernel, by decide⟩
theorem ki_X8_remember : Cond.instanceMethod yX8_remember ∈ gw ∧ Cond.selects yX8_remember.cls yX8_remember yX8_remember ∈ gw := ⟨gw_at 1222 (by decide +kernel) (by decide +kernel), gw_at 1223 (by decide +kernel) (by decide +kernel)⟩
def f_Water_months_b25  (k25 : Hp → Nat → Int32 → Int32 → Int32 → Option ((Int32 ⊕ Nat) × Hp)) (h : Hp) (x0 : Nat) (x1 : Int32) (x2 : Int32) (x3 : Int32)  : Option ((Int32 ⊕ Nat) × Hp) :=
if x1 ≤ x3 then (
some (.inl x2, h)

) else (
if (12 : Int32) < (x1 - x3) then (
f_Water_months_b49  k25 h x0 x1 x2 x3

) else (
if hS h x0 = 10 then (
if hS h (hR h x0 3) = 8 then (
bV (f_Memory_remember h (hR h x0 3) (hR h x0 4)) fun h6 =>
f_Water_months_b49  k25 h6 x0 x1 x2 x3
) else none) else none
)

)

set_option maxRecDepth 20000 in
set_option maxHeartbeats 4000000 in
theorem f_Water_months_b25_ok {l : Launch} {X : Nat × (Nat → Int32)} (hst : l.stackTraces = false) {d : Nat} (hd : 6 ≤ d)   {k25 : Hp → Nat → Int32 → Int32 → Int32 → Option ((Int32 ⊕ Nat) × Hp)} (hk25 : ∀ (h : Hp) (x0 : Nat) (x1 : Int32) (x2 : Int32) (x3 : Int32)  (r : (Int32 ⊕ Nat) × Hp), k25 h x0 x1 x2 x3 = some r → Rn l X mX10_months d 25 [(0, .ref x0), (1, .int x1), (2, .int x2), (3, .int x3)] [] h (xI r) r.2) {h : Hp} {x0 : Nat} {x1 : Int32} {x2 : Int32} {x3 : Int32}  {r : (Int32 ⊕ Nat) × Hp} (E : f_Water_months_b25  k25 h x0 x1 x2 x3 = some r) : Rn l X mX10_months d 25 [(0, .ref x0), (1, .int x1), (2, .int x2), (3, .int x3)] [] h (xI r) r.2 := by
  unfold f_Water_months_b25 at E
  refine Rn.iload_n (pc' := 26) dX10_months_25 rfl 3 rfl rfl ?_
  refine Rn.iload_n (pc' := 27) dX10_months_26 rfl 1 rfl rfl ?_
  refine Rn.icmp_ge (pc' := 30) (tgt := 65) dX10_months_27 (by decide) rfl (fun c1 => ?_) (fun c1 => ?_)
  · replace E := (if_of E).1 c1
    refine Rn.iload_n (pc' := 66) dX10_months_65 rfl 2 rfl rfl ?_
    cases E
    exact Rn.zret rfl rfl dX10_months_66
  · replace E := (if_of E).2 c1
    refine Rn.iload_n (pc' := 31) dX10_months_30 rfl 1 rfl rfl ?_
    refine Rn.iload_n (pc' := 32) dX10_months_31 rfl 3 rfl rfl ?_
    refine Rn.isub (pc' := 33) dX10_months_32 rfl ?_
    refine Rn.bipush (pc' := 35) (v := (12 : Int32)) (hv := by decide) dX10_months_33 rfl ?_
    refine Rn.icmp_gt (pc' := 38) (tgt := 49) dX10_months_35 (by decide) rfl (fun c2 => ?_) (fun c2 => ?_)
    · replace E := (if_of E).1 c2
      exact f_Water_months_b49_ok hst hd  hk25 E
    · replace E := (if_of E).2 c2
      refine Rn.aload_n (pc' := 39) dX10_months_38 rfl 0 rfl rfl ?_
      obtain ⟨g3, E⟩ := gd_of E
      refine Rn.getR (pc' := 42) fl_X10_35_9 g3 rfl dX10_months_39 rfl ?_
      refine Rn.aload_n (pc' := 43) dX10_months_42 rfl 0 rfl rfl ?_
      refine Rn.getR (pc' := 46) fl_X10_42_9 g3 rfl dX10_months_43 rfl ?_
      obtain ⟨g4, E⟩ := gd_of E
      obtain ⟨h6, e7, E⟩ := bV_of E
      refine Rn.callV1 (pc' := 49) (As := [.ref (hR h x0 4)]) (rest := []) (f_Memory_remember_ok hst e7) (Nat.le_trans (by decide) hd) rfl kb_X10_208 ki_X8_remember rfl g4 rfl rfl (Nat.le_of_ble_eq_true rfl) dX10_months_46 rfl rfl ?_
      exact f_Water_months_b49_ok hst hd  hk25 E
def f_Water_months_L25   (n : Nat) : Hp → Nat → Int32 → Int32 → Int32 → Option ((Int32 ⊕ Nat) × Hp) := Nat.rec (motive := fun _ => Hp → Nat → Int32 → Int32 → Int32 → Option ((Int32 ⊕ Nat) × Hp)) (fun _ _ _ _ _ => none) (fun _ rec => f_Water_months_b25   rec) n
theorem f_Water_months_L25_ok {l : Launch} {X : Nat × (Nat → Int32)} (hst : l.stackTraces = false) {d : Nat} (hd : 6 ≤ d)     : ∀ (n : Nat) (h : Hp) (x0 : Nat) (x1 : Int32) (x2 : Int32) (x3 : Int32)  (r : (Int32 ⊕ Nat) × Hp), f_Water_months_L25   n h x0 x1 x2 x3 = some r → Rn l X mX10_months d 25 [(0, .ref x0), (1, .int x1), (2, .int x2), (3, .int x3)] [] h (xI r) r.2 := by
  intro n
  induction n with
  | zero => intro h x0 x1 x2 x3 r E; cases E
  | succ n ih => intro h x0 x1 x2 x3 r E; exact f_Water_months_b25_ok hst hd   ih E
def f_Water_months_b0   (h : Hp) (x0 : Nat) (x1 : Int32)  : Option ((Int32 ⊕ Nat) × Hp) :=
if x1 < (1 : Int32) then (
f_Water_months_b11   h

) else (
if x1 ≤ (60 : Int32) then (
f_Water_months_L25   FU h x0 x1 (0 : Int32) (0 : Int32)

) else (
f_Water_months_b11   h

)

)

set_option maxRecDepth 20000 in
set_option maxHeartbeats 4000000 in
theorem f_Water_months_b0_ok {l : Launch} {X : Nat × (Nat → Int32)} (hst : l.stackTraces = false) {d : Nat} (hd : 6 ≤ d)     {h : Hp} {x0 : Nat} {x1 : Int32}  {r : (Int32 ⊕ Nat) × Hp} (E : f_Water_months_b0   h x0 x1 = some r) : Rn l X mX10_months d 0 [(0, .ref x0), (1, .int x1)] [] h (xI r) r.2 := by
  unfold f_Water_months_b0 at E
  refine Rn.iload_n (pc' := 1) dX10_months_0 rfl 1 rfl rfl ?_
  refine Rn.iconst (pc' := 2) (v := (1 : Int32)) (hv := by decide) dX10_months_1 rfl ?_
  refine Rn.icmp_lt (pc' := 5) (tgt := 11) dX10_months_2 (by decide) rfl (fun c1 => ?_) (fun c1 => ?_)
  · replace E := (if_of E).1 c1
    refine Rn.sub [] rfl ?_
    exact f_Water_months_b11_ok hst hd   E
  · replace E := (if_of E).2 c1
    refine Rn.iload_n (pc' := 6) dX10_months_5 rfl 1 rfl rfl ?_
    refine Rn.bipush (pc' := 8) (v := (60 : Int32)) (hv := by decide) dX10_months_6 rfl ?_
    refine Rn.icmp_le (pc' := 11) (tgt := 21) dX10_months_8 (by decide) rfl (fun c2 => ?_) (fun c2 => ?_)
    · replace E := (if_of E).1 c2
      refine Rn.iconst (pc' := 22) (v := (0 : Int32)) (hv := by decide) dX10_months_21 rfl ?_
      refine Rn.istore_n (pc' := 23) (L' := [(2, .int (0 : Int32)), (0, .ref x0), (1, .int x1)]) dX10_months_22 rfl (by decide) rfl rfl ?_
      refine Rn.iconst (pc' := 24) (v := (0 : Int32)) (hv := by decide) dX10_months_23 rfl ?_
      refine Rn.istore_n (pc' := 25) (L' := [(3, .int (0 : Int32)), (2, .int (0 : Int32)), (0, .ref x0), (1, .int x1)]) dX10_months_24 rfl (by decide) rfl rfl ?_
      refine Rn.sub [2, 3, 1, 0] rfl ?_
      exact f_Water_months_L25_ok hst hd   FU _ _ _ _ _ _ E
    · replace E := (if_of E).2 c2
      refine Rn.sub [] rfl ?_
      exact f_Water_months_b11_ok hst hd   E
def f_Water_months (h : Hp) (x0 : Nat) (x1 : Int32) : Option ((Int32 ⊕ Nat) × Hp) := f_Water_months_b0  h x0 x1
theorem f_Water_months_ok {l : Launch} {X : Nat × (Nat → Int32)} (hst : l.stackTraces = false) {h : Hp} {x0 : Nat} {x1 : Int32} {r : (Int32 ⊕ Nat) × Hp} (E : f_Water_months h x0 x1 = some r) : MC l X yX10_months mX10_months 6 [.ref x0, .int x1] h (xI r) r.2 :=
  MC.body (by decide +kernel) rfl (by decide) hst (Nat.le_of_ble_eq_true rfl) (f_Water_months_b0_ok hst (Nat.le_refl _) E)
abbrev mL_months : MI := (RL, cL_months, 4, (some Jvm.ClassFile.FieldType.int), [(0, 9, 12, 13)], false)
theorem ws_L_months : ∀ w ∈ wsM yL_months mL_months, w ∈ gw := List.forall_mem_cons.mpr ⟨gw_at 1215 (by decide +kernel) (by decide +kernel), fun _ h => h⟩
theorem kb_L_47 : KB RL 47 yX10_months mX10_months 1 := ⟨gw_at 1216 (by decide +kernel) (by decide +kernel), gw_at 107 (by decide +kernel) (by decide +kernel), trivial, ws_X10_months, by decide +kernel, by decide +kernel, by decide +kernel, by decide⟩
theorem ki_X10_months : Cond.instanceMethod yX10_months ∈ gw ∧ Cond.selects yX10_months.cls yX10_months yX10_months ∈ gw := ⟨gw_at 1217 (by decide +kernel) (by decide +kernel), gw_at 1218 (by decide +kernel) (by decide +kernel)⟩
def f_Lw_months_b0   (h : Hp) (x0 : Nat) (x1 : Int32) (x2 : Nat)  : Option (Int32 × Hp) :=
if hS h x0 = 10 then (
bC (f_Water_months h x0 x1) (fun v2 h3 =>
if hS h3 x2 = 22 then (
if ib (0 : Int32) (hL h3 x2) = true then (
wr (sJ h3 x2 (ix (0 : Int32)) (Int32.toInt64 v2)) fun h7 =>
some ((0 : Int32), h7)
) else none) else none
) (fun x_ h3 =>
if x_ = 2 then (
some ((1 : Int32), h3)

) else (
none))
) else none
set_option maxRecDepth 20000 in
set_option maxHeartbeats 4000000 in
theorem f_Lw_months_b0_ok {l : Launch} {X : Nat × (Nat → Int32)} (hst : l.stackTraces = false) {d : Nat} (hd : 7 ≤ d)     {h : Hp} {x0 : Nat} {x1 : Int32} {x2 : Nat}  {r : Int32 × Hp} (E : f_Lw_months_b0   h x0 x1 x2 = some r) : Rn l X mL_months d 0 [(0, .ref x0), (1, .int x1), (2, .ref x2)] [] h (eI r) r.2 := by
  unfold f_Lw_months_b0 at E
  refine Rn.aload_n (pc' := 1) dL_months_0 rfl 2 rfl rfl ?_
  refine Rn.iconst (pc' := 2) (v := (0 : Int32)) (hv := by decide) dL_months_1 rfl ?_
  refine Rn.aload_n (pc' := 3) dL_months_2 rfl 0 rfl rfl ?_
  refine Rn.iload_n (pc' := 4) dL_months_3 rfl 1 rfl rfl ?_
  obtain ⟨g1, E⟩ := gd_of E
  rcases bC_of E with ⟨v2, h3, e4, E⟩ | ⟨x_, h3, e4, E⟩
  · refine Rn.callV1 (pc' := 7) (As := [.int x1]) (rest := [.int (0 : Int32), .ref x2]) (f_Water_months_ok hst e4) (Nat.le_trans (by decide) hd) rfl kb_L_47 ki_X10_months rfl g1 rfl rfl (Nat.le_of_ble_eq_true rfl) dL_months_4 rfl rfl ?_
    refine Rn.i2l (pc' := 8) dL_months_7 rfl ?_
    obtain ⟨g5, E⟩ := gd_of E
    obtain ⟨g6, E⟩ := gd_of E
    refine Rn.last (pc' := 9) g5 g6 dL_months_8 rfl ?_
    replace E := wr_of E
    generalize eh8 : sJ h3 x2 (ix (0 : Int32)) (Int32.toInt64 v2) = h7 at E ⊢
    refine Rn.goto (pc' := 15) dL_months_9 (by decide) ?_
    refine Rn.iconst (pc' := 16) (v := (0 : Int32)) (hv := by decide) dL_months_15 rfl ?_
    cases E
    exact Rn.zret rfl rfl dL_months_16
  · refine Rn.callVX (As := [.int x1]) (rest := [.int (0 : Int32), .ref x2]) (f_Water_months_ok hst e4) (Nat.le_trans (by decide) hd) rfl kb_L_47 ki_X10_months rfl g1 rfl rfl (Nat.le_of_ble_eq_true rfl) dL_months_4 ?_
    by_cases c9 : x_ = 2
    · replace E := (if_of E).1 c9
      subst c9
      refine RnX.catch (x := 2) (i := 3) (pch := 13) 0 rfl (pre0) (by decide) (by decide) kk_L_13 (by decide) (Or.inl ⟨3, rfl, dL_months_12, rfl⟩) (by decide) ?_
      change Rn _ _ _ _ _ [(0, .ref x0), (1, .int x1), (2, .ref x2)] _ _ _ _
      refine Rn.iconst (pc' := 14) (v := (1 : Int32)) (hv := by decide) dL_months_13 rfl ?_
      cases E
      exact Rn.zret rfl rfl dL_months_14
    replace E := (if_of E).2 c9
    cases E
def f_Lw_months (h : Hp) (x0 : Nat) (x1 : Int32) (x2 : Nat) : Option (Int32 × Hp) := f_Lw_months_b0  h x0 x1 x2
theorem f_Lw_months_ok {l : Launch} {X : Nat × (Nat → Int32)} (hst : l.stackTraces = false) {h : Hp} {x0 : Nat} {x1 : Int32} {x2 : Nat} {r : Int32 × Hp} (E : f_Lw_months h x0 x1 x2 = some r) : MC l X yL_months mL_months 7 [.ref x0, .int x1, .ref x2] h (eI r) r.2 :=
  MC.body (by decide +kernel) rfl (by decide) hst (Nat.le_of_ble_eq_true rfl) (f_Lw_months_b0_ok hst (Nat.le_refl _) E)
abbrev mX11_remembers : MI := (RX11, cX11_remembers, 2, none, [], false)
theorem ws_X11_remembers : ∀ w ∈ wsM yX11_remembers mX11_remembers, w ∈ gw := List.forall_mem_cons.mpr ⟨gw_at 1779 (by decide +kernel) (by decide +kernel), fun _ h => h⟩
def f_Model_remembers_b55  (k55 : Hp → Nat → Int32 → Option (Hp)) (h : Hp) (x0 : Nat) (x1 : Int32)  : Option (Hp) :=
if (1454 : Int32) ≤ x1 then (
some h

) else (
if hS h x0 = 11 then (
if hS h (hR h x0 1) = 20 then (
if ib x1 (hL h (hR h x0 1)) = true then (
if hS h (hR h x0 5) = 20 then (
if ib (((1454 : Int32) * ((hI h x0 7) - (1 : Int32))) + x1) (hL h (hR h x0 5)) = true then (
wr (sI h (hR h x0 5) (ix (((1454 : Int32) * ((hI h x0 7) - (1 : Int32))) + x1)) (hI h (hR h x0 1) (ix x1))) fun h7 =>
k55 h7 x0 (x1 + (1 : Int32))
) else none) else none) else none) else none) else none
)

set_option maxRecDepth 20000 in
set_option maxHeartbeats 4000000 in
theorem f_Model_remembers_b55_ok {l : Launch} {X : Nat × (Nat → Int32)} (hst : l.stackTraces = false) {d : Nat} (hd : 0 ≤ d)   {k55 : Hp → Nat → Int32 → Option (Hp)} (hk55 : ∀ (h : Hp) (x0 : Nat) (x1 : Int32)  (r : Hp), k55 h x0 x1 = some r → Rn l X mX11_remembers d 55 [(0, .ref x0), (1, .int x1)] [] h (eV r) r) {h : Hp} {x0 : Nat} {x1 : Int32}  {r : Hp} (E : f_Model_remembers_b55  k55 h x0 x1 = some r) : Rn l X mX11_remembers d 55 [(0, .ref x0), (1, .int x1)] [] h (eV r) r := by
  unfold f_Model_remembers_b55 at E
  refine Rn.iload_n (pc' := 56) dX11_remembers_55 rfl 1 rfl rfl ?_
  refine Rn.sipush (pc' := 59) (v := (1454 : Int32)) (hv := by decide) dX11_remembers_56 rfl ?_
  refine Rn.icmp_ge (pc' := 62) (tgt := 91) dX11_remembers_59 (by decide) rfl (fun c1 => ?_) (fun c1 => ?_)
  · replace E := (if_of E).1 c1
    cases E
    exact Rn.vret rfl dX11_remembers_91
  · replace E := (if_of E).2 c1
    refine Rn.aload_n (pc' := 63) dX11_remembers_62 rfl 0 rfl rfl ?_
    obtain ⟨g2, E⟩ := gd_of E
    refine Rn.getR (pc' := 66) fl_X11_26_10 g2 rfl dX11_remembers_63 rfl ?_
    refine Rn.sipush (pc' := 69) (v := (1454 : Int32)) (hv := by decide) dX11_remembers_66 rfl ?_
    refine Rn.aload_n (pc' := 70) dX11_remembers_69 rfl 0 rfl rfl ?_
    refine Rn.getI (pc' := 73) fl_X11_49_10 g2 rfl dX11_remembers_70 rfl ?_
    refine Rn.iconst (pc' := 74) (v := (1 : Int32)) (hv := by decide) dX11_remembers_73 rfl ?_
    refine Rn.isub (pc' := 75) dX11_remembers_74 rfl ?_
    refine Rn.imul (pc' := 76) dX11_remembers_75 rfl ?_
    refine Rn.iload_n (pc' := 77) dX11_remembers_76 rfl 1 rfl rfl ?_
    refine Rn.iadd (pc' := 78) dX11_remembers_77 rfl ?_
    refine Rn.aload_n (pc' := 79) dX11_remembers_78 rfl 0 rfl rfl ?_
    refine Rn.getR (pc' := 82) fl_X11_13_10 g2 rfl dX11_remembers_79 rfl ?_
    refine Rn.iload_n (pc' := 83) dX11_remembers_82 rfl 1 rfl rfl ?_
    obtain ⟨g3, E⟩ := gd_of E
    obtain ⟨g4, E⟩ := gd_of E
    refine Rn.iald (pc' := 84) g3 g4 dX11_remembers_83 rfl ?_
    obtain ⟨g5, E⟩ := gd_of E
    obtain ⟨g6, E⟩ := gd_of E
    refine Rn.iast (pc' := 85) g5 g6 dX11_remembers_84 rfl ?_
    replace E := wr_of E
    generalize eh8 : sI h (hR h x0 5) (ix (((1454 : Int32) * ((hI h x0 7) - (1 : Int32))) + x1)) (hI h (hR h x0 1) (ix x1)) = h7 at E ⊢
    refine Rn.iinc (pc' := 88) (v := (x1 + (1 : Int32))) (L' := [(1, .int (x1 + (1 : Int32))), (0, .ref x0)]) dX11_remembers_85 1 rfl rfl (by decide) rfl rfl ?_
    refine Rn.goto (pc' := 55) dX11_remembers_88 (by decide) ?_
    refine Rn.sub [1, 0] rfl ?_
    exact hk55 _ _ _ _ E
def f_Model_remembers_L55   (n : Nat) : Hp → Nat → Int32 → Option (Hp) := Nat.rec (motive := fun _ => Hp → Nat → Int32 → Option (Hp)) (fun _ _ _ => none) (fun _ rec => f_Model_remembers_b55   rec) n
theorem f_Model_remembers_L55_ok {l : Launch} {X : Nat × (Nat → Int32)} (hst : l.stackTraces = false) {d : Nat} (hd : 0 ≤ d)     : ∀ (n : Nat) (h : Hp) (x0 : Nat) (x1 : Int32)  (r : Hp), f_Model_remembers_L55   n h x0 x1 = some r → Rn l X mX11_remembers d 55 [(0, .ref x0), (1, .int x1)] [] h (eV r) r := by
  intro n
  induction n with
  | zero => intro h x0 x1 r E; cases E
  | succ n ih => intro h x0 x1 r E; exact f_Model_remembers_b55_ok hst hd   ih E
def f_Model_remembers_b53   (h : Hp) (x0 : Nat)  : Option (Hp) :=
f_Model_remembers_L55   FU h x0 (0 : Int32)

set_option maxRecDepth 20000 in
set_option maxHeartbeats 4000000 in
theorem f_Model_remembers_b53_ok {l : Launch} {X : Nat × (Nat → Int32)} (hst : l.stackTraces = false) {d : Nat} (hd : 0 ≤ d)     {h : Hp} {x0 : Nat}  {r : Hp} (E : f_Model_remembers_b53   h x0 = some r) : Rn l X mX11_remembers d 53 [(0, .ref x0)] [] h (eV r) r := by
  unfold f_Model_remembers_b53 at E
  refine Rn.iconst (pc' := 54) (v := (0 : Int32)) (hv := by decide) dX11_remembers_53 rfl ?_
  refine Rn.istore_n (pc' := 55) (L' := [(1, .int (0 : Int32)), (0, .ref x0)]) dX11_remembers_54 rfl (by decide) rfl rfl ?_
  refine Rn.sub [1, 0] rfl ?_
  exact f_Model_remembers_L55_ok hst hd   FU _ _ _ _ E
def f_Model_remembers_b11  (k11 : Hp → Nat → Int32 → Option (Hp)) (h : Hp) (x0 : Nat) (x1 : Int32)  : Option (Hp) :=
if (15994 : Int32) ≤ x1 then (
f_Model_remembers_b53   h x0

) else (
if hS h x0 = 11 then (
if hS h (hR h x0 5) = 20 then (
if ib (x1 + (1454 : Int32)) (hL h (hR h x0 5)) = true then (
if ib x1 (hL h (hR h x0 5)) = true then (
wr (sI h (hR h x0 5) (ix x1) (hI h (hR h x0 5) (ix (x1 + (1454 : Int32))))) fun h6 =>
k11 h6 x0 (x1 + (1 : Int32))
) else none) else none) else none) else none
)

set_option maxRecDepth 20000 in
set_option maxHeartbeats 4000000 in
theorem f_Model_remembers_b11_ok {l : Launch} {X : Nat × (Nat → Int32)} (hst : l.stackTraces = false) {d : Nat} (hd : 0 ≤ d)   {k11 : Hp → Nat → Int32 → Option (Hp)} (hk11 : ∀ (h : Hp) (x0 : Nat) (x1 : Int32)  (r : Hp), k11 h x0 x1 = some r → Rn l X mX11_remembers d 11 [(0, .ref x0), (1, .int x1)] [] h (eV r) r) {h : Hp} {x0 : Nat} {x1 : Int32}  {r : Hp} (E : f_Model_remembers_b11  k11 h x0 x1 = some r) : Rn l X mX11_remembers d 11 [(0, .ref x0), (1, .int x1)] [] h (eV r) r := by
  unfold f_Model_remembers_b11 at E
  refine Rn.iload_n (pc' := 12) dX11_remembers_11 rfl 1 rfl rfl ?_
  refine Rn.sipush (pc' := 15) (v := (15994 : Int32)) (hv := by decide) dX11_remembers_12 rfl ?_
  refine Rn.icmp_ge (pc' := 18) (tgt := 40) dX11_remembers_15 (by decide) rfl (fun c1 => ?_) (fun c1 => ?_)
  · replace E := (if_of E).1 c1
    refine Rn.goto (pc' := 53) dX11_remembers_40 (by decide) ?_
    refine Rn.sub [0] rfl ?_
    exact f_Model_remembers_b53_ok hst hd   E
  · replace E := (if_of E).2 c1
    refine Rn.aload_n (pc' := 19) dX11_remembers_18 rfl 0 rfl rfl ?_
    obtain ⟨g2, E⟩ := gd_of E
    refine Rn.getR (pc' := 22) fl_X11_26_10 g2 rfl dX11_remembers_19 rfl ?_
    refine Rn.iload_n (pc' := 23) dX11_remembers_22 rfl 1 rfl rfl ?_
    refine Rn.aload_n (pc' := 24) dX11_remembers_23 rfl 0 rfl rfl ?_
    refine Rn.getR (pc' := 27) fl_X11_26_10 g2 rfl dX11_remembers_24 rfl ?_
    refine Rn.iload_n (pc' := 28) dX11_remembers_27 rfl 1 rfl rfl ?_
    refine Rn.sipush (pc' := 31) (v := (1454 : Int32)) (hv := by decide) dX11_remembers_28 rfl ?_
    refine Rn.iadd (pc' := 32) dX11_remembers_31 rfl ?_
    obtain ⟨g3, E⟩ := gd_of E
    obtain ⟨g4, E⟩ := gd_of E
    refine Rn.iald (pc' := 33) g3 g4 dX11_remembers_32 rfl ?_
    obtain ⟨g5, E⟩ := gd_of E
    refine Rn.iast (pc' := 34) g3 g5 dX11_remembers_33 rfl ?_
    replace E := wr_of E
    generalize eh7 : sI h (hR h x0 5) (ix x1) (hI h (hR h x0 5) (ix (x1 + (1454 : Int32)))) = h6 at E ⊢
    refine Rn.iinc (pc' := 37) (v := (x1 + (1 : Int32))) (L' := [(1, .int (x1 + (1 : Int32))), (0, .ref x0)]) dX11_remembers_34 1 rfl rfl (by decide) rfl rfl ?_
    refine Rn.goto (pc' := 11) dX11_remembers_37 (by decide) ?_
    refine Rn.sub [1, 0] rfl ?_
    exact hk11 _ _ _ _ E
def f_Model_remembers_L11   (n : Nat) : Hp → Nat → Int32 → Option (Hp) := Nat.rec (motive := fun _ => Hp → Nat → Int32 → Option (Hp)) (fun _ _ _ => none) (fun _ rec => f_Model_remembers_b11   rec) n
theorem f_Model_remembers_L11_ok {l : Launch} {X : Nat × (Nat → Int32)} (hst : l.stackTraces = false) {d : Nat} (hd : 0 ≤ d)     : ∀ (n : Nat) (h : Hp) (x0 : Nat) (x1 : Int32)  (r : Hp), f_Model_remembers_L11   n h x0 x1 = some r → Rn l X mX11_remembers d 11 [(0, .ref x0), (1, .int x1)] [] h (eV r) r := by
  intro n
  induction n with
  | zero => intro h x0 x1 r E; cases E
  | succ n ih => intro h x0 x1 r E; exact f_Model_remembers_b11_ok hst hd   ih E
def f_Model_remembers_b0   (h : Hp) (x0 : Nat)  : Option (Hp) :=
if hS h x0 = 11 then (
if (hI h x0 7) = (12 : Int32) then (
f_Model_remembers_L11   FU h x0 (0 : Int32)

) else (
wr (sI h x0 7 ((hI h x0 7) + (1 : Int32))) fun h3 =>
f_Model_remembers_b53   h3 x0

)
) else none
set_option maxRecDepth 20000 in
set_option maxHeartbeats 4000000 in
theorem f_Model_remembers_b0_ok {l : Launch} {X : Nat × (Nat → Int32)} (hst : l.stackTraces = false) {d : Nat} (hd : 0 ≤ d)     {h : Hp} {x0 : Nat}  {r : Hp} (E : f_Model_remembers_b0   h x0 = some r) : Rn l X mX11_remembers d 0 [(0, .ref x0)] [] h (eV r) r := by
  unfold f_Model_remembers_b0 at E
  refine Rn.aload_n (pc' := 1) dX11_remembers_0 rfl 0 rfl rfl ?_
  obtain ⟨g1, E⟩ := gd_of E
  refine Rn.getI (pc' := 4) fl_X11_49_10 g1 rfl dX11_remembers_1 rfl ?_
  refine Rn.bipush (pc' := 6) (v := (12 : Int32)) (hv := by decide) dX11_remembers_4 rfl ?_
  refine Rn.icmp_ne (pc' := 9) (tgt := 43) dX11_remembers_6 (by decide) rfl (fun c2 => ?_) (fun c2 => ?_)
  · replace E := (if_of E).2 c2
    refine Rn.aload_n (pc' := 44) dX11_remembers_43 rfl 0 rfl rfl ?_
    refine Rn.dup (pc' := 45) (hc := rfl) dX11_remembers_44 rfl ?_
    refine Rn.getI (pc' := 48) fl_X11_49_10 g1 rfl dX11_remembers_45 rfl ?_
    refine Rn.iconst (pc' := 49) (v := (1 : Int32)) (hv := by decide) dX11_remembers_48 rfl ?_
    refine Rn.iadd (pc' := 50) dX11_remembers_49 rfl ?_
    refine Rn.putI (pc' := 53) fl_X11_49_10 (fun q hq => by cases hq; decide) g1 rfl rfl rfl dX11_remembers_50 rfl ?_
    replace E := wr_of E
    generalize eh4 : sI h x0 7 ((hI h x0 7) + (1 : Int32)) = h3 at E ⊢
    exact f_Model_remembers_b53_ok hst hd   E
  · replace E := (if_of E).1 c2
    refine Rn.iconst (pc' := 10) (v := (0 : Int32)) (hv := by decide) dX11_remembers_9 rfl ?_
    refine Rn.istore_n (pc' := 11) (L' := [(1, .int (0 : Int32)), (0, .ref x0)]) dX11_remembers_10 rfl (by decide) rfl rfl ?_
    refine Rn.sub [1, 0] rfl ?_
    exact f_Model_remembers_L11_ok hst hd   FU _ _ _ _ E
def f_Model_remembers (h : Hp) (x0 : Nat) : Option (Hp) := f_Model_remembers_b0  h x0
theorem f_Model_remembers_ok {l : Launch} {X : Nat × (Nat → Int32)} (hst : l.stackTraces = false) {h : Hp} {x0 : Nat} {r : Hp} (E : f_Model_remembers h x0 = some r) : MC l X yX11_remembers mX11_remembers 0 [.ref x0] h (eV r) r :=
  MC.body (by decide +kernel) rfl (by decide) hst (Nat.le_of_ble_eq_true rfl) (f_Model_remembers_b0_ok hst (Nat.le_refl _) E)
abbrev mX11_months : MI := (RX11, cX11_months, 4, (some Jvm.ClassFile.FieldType.int), [], false)
theorem ws_X11_months : ∀ w ∈ wsM yX11_months mX11_months, w ∈ gw := List.forall_mem_cons.mpr ⟨gw_at 1775 (by decide +kernel) (by decide +kernel), fun _ h => h⟩
theorem kb_X11_324 : KB RX11 324 yX11_remembers mX11_remembers 0 := ⟨gw_at 1776 (by decide +kernel) (by decide +kernel), gw_at 117 (by decide +kernel) (by decide +kernel), trivial, ws_X11_remembers, by decide +kernel, by decide +kernel, by decide +kernel, by decide⟩
theorem ki_X11_remembers : Cond.instanceMethod yX11_remembers ∈ gw ∧ Cond.selects yX11_remembers.cls yX11_remembers yX11_remembers ∈ gw := ⟨gw_at 1778 (by decide +kernel) (by decide +kernel), gw_at 88 (by decide +kernel) (by decide +kernel)⟩
def f_Model_months_b34  (k34 : Hp → Nat → Int32 → Int32 → Int32 → Option (Int32 × Hp)) (h : Hp) (x0 : Nat) (x1 : Int32) (x2 : Int32) (x3 : Int32)  : Option (Int32 × Hp) :=
if x1 ≤ x3 then (
some (x2, h)

) else (
if hS h x0 = 11 then (
bV (f_Model_remembers h x0) fun h4 =>
if hS h4 x0 = 11 then (
bI (f_Model_month h4 x0) fun v7 h8 =>
k34 h8 x0 x1 (x2 + v7) (x3 + (1 : Int32))
) else none) else none
)

set_option maxRecDepth 20000 in
set_option maxHeartbeats 4000000 in
theorem f_Model_months_b34_ok {l : Launch} {X : Nat × (Nat → Int32)} (hst : l.stackTraces = false) {d : Nat} (hd : 8 ≤ d)   {k34 : Hp → Nat → Int32 → Int32 → Int32 → Option (Int32 × Hp)} (hk34 : ∀ (h : Hp) (x0 : Nat) (x1 : Int32) (x2 : Int32) (x3 : Int32)  (r : Int32 × Hp), k34 h x0 x1 x2 x3 = some r → Rn l X mX11_months d 34 [(0, .ref x0), (1, .int x1), (2, .int x2), (3, .int x3)] [] h (eI r) r.2) {h : Hp} {x0 : Nat} {x1 : Int32} {x2 : Int32} {x3 : Int32}  {r : Int32 × Hp} (E : f_Model_months_b34  k34 h x0 x1 x2 x3 = some r) : Rn l X mX11_months d 34 [(0, .ref x0), (1, .int x1), (2, .int x2), (3, .int x3)] [] h (eI r) r.2 := by
  unfold f_Model_months_b34 at E
  refine Rn.iload_n (pc' := 35) dX11_months_34 rfl 3 rfl rfl ?_
  refine Rn.iload_n (pc' := 36) dX11_months_35 rfl 1 rfl rfl ?_
  refine Rn.icmp_ge (pc' := 39) (tgt := 56) dX11_months_36 (by decide) rfl (fun c1 => ?_) (fun c1 => ?_)
  · replace E := (if_of E).1 c1
    refine Rn.iload_n (pc' := 57) dX11_months_56 rfl 2 rfl rfl ?_
    cases E
    exact Rn.zret rfl rfl dX11_months_57
  · replace E := (if_of E).2 c1
    refine Rn.aload_n (pc' := 40) dX11_months_39 rfl 0 rfl rfl ?_
    obtain ⟨g2, E⟩ := gd_of E
    obtain ⟨h4, e5, E⟩ := bV_of E
    refine Rn.callV1 (pc' := 43) (As := []) (rest := []) (f_Model_remembers_ok hst e5) (Nat.le_trans (by decide) hd) rfl kb_X11_324 ki_X11_remembers rfl g2 rfl rfl (Nat.le_of_ble_eq_true rfl) dX11_months_40 rfl rfl ?_
    refine Rn.iload_n (pc' := 44) dX11_months_43 rfl 2 rfl rfl ?_
    refine Rn.aload_n (pc' := 45) dX11_months_44 rfl 0 rfl rfl ?_
    obtain ⟨g6, E⟩ := gd_of E
    obtain ⟨v7, h8, e9, E⟩ := bI_of E
    refine Rn.callV1 (pc' := 48) (As := []) (rest := [.int x2]) (f_Model_month_ok hst e9) (Nat.le_trans (by decide) hd) rfl kb_X11_327 ki_X11_month rfl g6 rfl rfl (Nat.le_of_ble_eq_true rfl) dX11_months_45 rfl rfl ?_
    refine Rn.iadd (pc' := 49) dX11_months_48 rfl ?_
    refine Rn.istore_n (pc' := 50) (L' := [(2, .int (x2 + v7)), (0, .ref x0), (1, .int x1), (3, .int x3)]) dX11_months_49 rfl (by decide) rfl rfl ?_
    refine Rn.iinc (pc' := 53) (v := (x3 + (1 : Int32))) (L' := [(3, .int (x3 + (1 : Int32))), (2, .int (x2 + v7)), (0, .ref x0), (1, .int x1)]) dX11_months_50 3 rfl rfl (by decide) rfl rfl ?_
    refine Rn.goto (pc' := 34) dX11_months_53 (by decide) ?_
    refine Rn.sub [2, 3, 1, 0] rfl ?_
    exact hk34 _ _ _ _ _ _ E
def f_Model_months_L34   (n : Nat) : Hp → Nat → Int32 → Int32 → Int32 → Option (Int32 × Hp) := Nat.rec (motive := fun _ => Hp → Nat → Int32 → Int32 → Int32 → Option (Int32 × Hp)) (fun _ _ _ _ _ => none) (fun _ rec => f_Model_months_b34   rec) n
theorem f_Model_months_L34_ok {l : Launch} {X : Nat × (Nat → Int32)} (hst : l.stackTraces = false) {d : Nat} (hd : 8 ≤ d)     : ∀ (n : Nat) (h : Hp) (x0 : Nat) (x1 : Int32) (x2 : Int32) (x3 : Int32)  (r : Int32 × Hp), f_Model_months_L34   n h x0 x1 x2 x3 = some r → Rn l X mX11_months d 34 [(0, .ref x0), (1, .int x1), (2, .int x2), (3, .int x3)] [] h (eI r) r.2 := by
  intro n
  induction n with
  | zero => intro h x0 x1 x2 x3 r E; cases E
  | succ n ih => intro h x0 x1 x2 x3 r E; exact f_Model_months_b34_ok hst hd   ih E
def f_Model_months_b21   (h : Hp) (x0 : Nat) (x1 : Int32) (s0 : Nat) (s1 : Int32) : Option (Int32 × Hp) :=
if hS h s0 = 11 then (
bI (f_Model_throwsIf h s0 s1 (1 : Int32)) fun v2 h3 =>
if v2 = 0 then (
f_Model_months_L34   FU h3 x0 x1 (0 : Int32) (0 : Int32)

) else (
some ((0 : Int32), h3)

)
) else none
set_option maxRecDepth 20000 in
set_option maxHeartbeats 4000000 in
theorem f_Model_months_b21_ok {l : Launch} {X : Nat × (Nat → Int32)} (hst : l.stackTraces = false) {d : Nat} (hd : 8 ≤ d)     {h : Hp} {x0 : Nat} {x1 : Int32} {s0 : Nat} {s1 : Int32} {r : Int32 × Hp} (E : f_Model_months_b21   h x0 x1 s0 s1 = some r) : Rn l X mX11_months d 21 [(0, .ref x0), (1, .int x1)] [.int s1, .ref s0] h (eI r) r.2 := by
  unfold f_Model_months_b21 at E
  refine Rn.iconst (pc' := 22) (v := (1 : Int32)) (hv := by decide) dX11_months_21 rfl ?_
  obtain ⟨g1, E⟩ := gd_of E
  obtain ⟨v2, h3, e4, E⟩ := bI_of E
  refine Rn.callV1 (pc' := 25) (As := [.int s1, .int (1 : Int32)]) (rest := []) (f_Model_throwsIf_ok hst e4) (Nat.le_trans (by decide) hd) rfl kb_X11_265 ki_X11_throwsIf rfl g1 rfl rfl (Nat.le_of_ble_eq_true rfl) dX11_months_22 rfl rfl ?_
  refine Rn.if_eq (pc' := 28) (tgt := 30) dX11_months_25 (by decide) rfl (fun c5 => ?_) (fun c5 => ?_)
  · replace E := (if_of E).1 c5
    refine Rn.iconst (pc' := 31) (v := (0 : Int32)) (hv := by decide) dX11_months_30 rfl ?_
    refine Rn.istore_n (pc' := 32) (L' := [(2, .int (0 : Int32)), (0, .ref x0), (1, .int x1)]) dX11_months_31 rfl (by decide) rfl rfl ?_
    refine Rn.iconst (pc' := 33) (v := (0 : Int32)) (hv := by decide) dX11_months_32 rfl ?_
    refine Rn.istore_n (pc' := 34) (L' := [(3, .int (0 : Int32)), (2, .int (0 : Int32)), (0, .ref x0), (1, .int x1)]) dX11_months_33 rfl (by decide) rfl rfl ?_
    refine Rn.sub [2, 3, 1, 0] rfl ?_
    exact f_Model_months_L34_ok hst hd   FU _ _ _ _ _ _ E
  · replace E := (if_of E).2 c5
    refine Rn.iconst (pc' := 29) (v := (0 : Int32)) (hv := by decide) dX11_months_28 rfl ?_
    cases E
    exact Rn.zret rfl rfl dX11_months_29
def f_Model_months_b0   (h : Hp) (x0 : Nat) (x1 : Int32)  : Option (Int32 × Hp) :=
if hS h x0 = 11 then (
wr (sI h x0 0 (0 : Int32)) fun h2 =>
bI (f_Model_in h2 x1 (1 : Int32) (60 : Int32)) fun v4 h5 =>
if v4 = 0 then (
f_Model_months_b21   h5 x0 x1 x0 (1 : Int32)

) else (
f_Model_months_b21   h5 x0 x1 x0 (0 : Int32)

)
) else none
set_option maxRecDepth 20000 in
set_option maxHeartbeats 4000000 in
theorem f_Model_months_b0_ok {l : Launch} {X : Nat × (Nat → Int32)} (hst : l.stackTraces = false) {d : Nat} (hd : 8 ≤ d)     {h : Hp} {x0 : Nat} {x1 : Int32}  {r : Int32 × Hp} (E : f_Model_months_b0   h x0 x1 = some r) : Rn l X mX11_months d 0 [(0, .ref x0), (1, .int x1)] [] h (eI r) r.2 := by
  unfold f_Model_months_b0 at E
  refine Rn.aload_n (pc' := 1) dX11_months_0 rfl 0 rfl rfl ?_
  refine Rn.iconst (pc' := 2) (v := (0 : Int32)) (hv := by decide) dX11_months_1 rfl ?_
  obtain ⟨g1, E⟩ := gd_of E
  refine Rn.putI (pc' := 5) fl_X11_3_10 (fun q hq => by cases hq; decide) g1 rfl rfl rfl dX11_months_2 rfl ?_
  replace E := wr_of E
  generalize eh3 : sI h x0 0 (0 : Int32) = h2 at E ⊢
  refine Rn.aload_n (pc' := 6) dX11_months_5 rfl 0 rfl rfl ?_
  refine Rn.iload_n (pc' := 7) dX11_months_6 rfl 1 rfl rfl ?_
  refine Rn.iconst (pc' := 8) (v := (1 : Int32)) (hv := by decide) dX11_months_7 rfl ?_
  refine Rn.bipush (pc' := 10) (v := (60 : Int32)) (hv := by decide) dX11_months_8 rfl ?_
  obtain ⟨v4, h5, e6, E⟩ := bI_of E
  refine Rn.callS1 (pc' := 13) (As := [.int x1, .int (1 : Int32), .int (60 : Int32)]) (rest := [.ref x0]) (f_Model_in_ok hst e6) (Nat.le_trans (by decide) hd) rfl kb_X11_56 ks_X11_in rfl rfl (Nat.le_of_ble_eq_true rfl) dX11_months_10 rfl rfl ?_
  refine Rn.if_ne (pc' := 16) (tgt := 20) dX11_months_13 (by decide) rfl (fun c7 => ?_) (fun c7 => ?_)
  · replace E := (if_of E).2 c7
    refine Rn.iconst (pc' := 21) (v := (0 : Int32)) (hv := by decide) dX11_months_20 rfl ?_
    exact f_Model_months_b21_ok hst hd   E
  · replace E := (if_of E).1 c7
    refine Rn.iconst (pc' := 17) (v := (1 : Int32)) (hv := by decide) dX11_months_16 rfl ?_
    refine Rn.goto (pc' := 21) dX11_months_17 (by decide) ?_
    exact f_Model_months_b21_ok hst hd   E
def f_Model_months (h : Hp) (x0 : Nat) (x1 : Int32) : Option (Int32 × Hp) := f_Model_months_b0  h x0 x1
theorem f_Model_months_ok {l : Launch} {X : Nat × (Nat → Int32)} (hst : l.stackTraces = false) {h : Hp} {x0 : Nat} {x1 : Int32} {r : Int32 × Hp} (E : f_Model_months h x0 x1 = some r) : MC l X yX11_months mX11_months 8 [.ref x0, .int x1] h (eI r) r.2 :=
  MC.body (by decide +kernel) rfl (by decide) hst (Nat.le_of_ble_eq_true rfl) (f_Model_months_b0_ok hst (Nat.le_refl _) E)
