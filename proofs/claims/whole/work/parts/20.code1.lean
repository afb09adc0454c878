/-! ===== by program out of the bytecode (wip/whole/gen/emit.py) ===== -/
abbrev mX10_needHouse : MI := (RX10, cX10_needHouse, 2, none, [], false)
theorem ws_X10_needHouse : ∀ w ∈ wsM yX10_needHouse mX10_needHouse, w ∈ gw := List.forall_mem_cons.mpr ⟨gw_at 1183 (by decide +kernel) (by decide +kernel), fun _ h => h⟩
set_option maxRecDepth 20000 in
theorem kt_X10_384_388 : TH RX10 384 388 (xn 1) := ⟨⟨gw_at 1114 (by decide +kernel) (by decide +kernel), gw_at 131 (by decide +kernel) (by decide +kernel)⟩, by decide +kernel, by decide +kernel, by decide +kernel⟩
def f_Water_needHouse_b15   (h : Hp)   : Option ((Unit ⊕ Nat) × Hp) :=
some (.inr 1, hA h 0 0 6)

set_option maxRecDepth 20000 in
set_option maxHeartbeats 4000000 in
theorem f_Water_needHouse_b15_ok {l : Launch} {X : Nat × (Nat → Int32)} (hst : l.stackTraces = false) {d : Nat} (hd : 0 ≤ d)     {h : Hp}   {r : (Unit ⊕ Nat) × Hp} (E : f_Water_needHouse_b15   h  = some r) : Rn l X mX10_needHouse d 15 [] [] h (xV r) r.2 := by
  unfold f_Water_needHouse_b15 at E
  cases E
  exact Rn.throwSW (x := 1) (i := 6) kt_X10_384_388 rfl rfl dX10_needHouse_15 dX10_needHouse_18 dX10_needHouse_19 dX10_needHouse_22 dX10_needHouse_25 (Nat.le_of_ble_eq_true rfl)
def f_Water_needHouse_b0   (h : Hp) (x0 : Nat) (x1 : Int32)  : Option ((Unit ⊕ Nat) × Hp) :=
if x1 < 0 then (
f_Water_needHouse_b15   h

) else (
if hS h x0 = 10 then (
if hS h (hR h x0 4) = 4 then (
if x1 < (hI h (hR h x0 4) 1) then (
some (.inl (), h)

) else (
f_Water_needHouse_b15   h

)
) else none) else none
)

set_option maxRecDepth 20000 in
set_option maxHeartbeats 4000000 in
theorem f_Water_needHouse_b0_ok {l : Launch} {X : Nat × (Nat → Int32)} (hst : l.stackTraces = false) {d : Nat} (hd : 0 ≤ d)     {h : Hp} {x0 : Nat} {x1 : Int32}  {r : (Unit ⊕ Nat) × Hp} (E : f_Water_needHouse_b0   h x0 x1 = some r) : Rn l X mX10_needHouse d 0 [(0, .ref x0), (1, .int x1)] [] h (xV r) r.2 := by
  unfold f_Water_needHouse_b0 at E
  refine Rn.iload_n (pc' := 1) dX10_needHouse_0 rfl 1 rfl rfl ?_
  refine Rn.if_lt (pc' := 4) (tgt := 15) dX10_needHouse_1 (by decide) rfl (fun c1 => ?_) (fun c1 => ?_)
  · replace E := (if_of E).1 c1
    refine Rn.sub [] rfl ?_
    exact f_Water_needHouse_b15_ok hst hd   E
  · replace E := (if_of E).2 c1
    refine Rn.iload_n (pc' := 5) dX10_needHouse_4 rfl 1 rfl rfl ?_
    refine Rn.aload_n (pc' := 6) dX10_needHouse_5 rfl 0 rfl rfl ?_
    obtain ⟨g2, E⟩ := gd_of E
    refine Rn.getR (pc' := 9) fl_X10_42_9 g2 rfl dX10_needHouse_6 rfl ?_
    obtain ⟨g3, E⟩ := gd_of E
    refine Rn.getI (pc' := 12) fl_X10_76_3 g3 rfl dX10_needHouse_9 rfl ?_
    refine Rn.icmp_lt (pc' := 15) (tgt := 26) dX10_needHouse_12 (by decide) rfl (fun c4 => ?_) (fun c4 => ?_)
    · replace E := (if_of E).1 c4
      cases E
      exact Rn.vret rfl dX10_needHouse_26
    · replace E := (if_of E).2 c4
      refine Rn.sub [] rfl ?_
      exact f_Water_needHouse_b15_ok hst hd   E
def f_Water_needHouse (h : Hp) (x0 : Nat) (x1 : Int32) : Option ((Unit ⊕ Nat) × Hp) := f_Water_needHouse_b0  h x0 x1
theorem f_Water_needHouse_ok {l : Launch} {X : Nat × (Nat → Int32)} (hst : l.stackTraces = false) {h : Hp} {x0 : Nat} {x1 : Int32} {r : (Unit ⊕ Nat) × Hp} (E : f_Water_needHouse h x0 x1 = some r) : MC l X yX10_needHouse mX10_needHouse 0 [.ref x0, .int x1] h (xV r) r.2 :=
  MC.body (by decide +kernel) rfl (by decide) hst (Nat.le_of_ble_eq_true rfl) (f_Water_needHouse_b0_ok hst (Nat.le_refl _) E)
abbrev mX10_needYear : MI := (RX10, cX10_needYear, 2, none, [], false)
theorem ws_X10_needYear : ∀ w ∈ wsM yX10_needYear mX10_needYear, w ∈ gw := List.forall_mem_cons.mpr ⟨gw_at 1164 (by decide +kernel) (by decide +kernel), fun _ h => h⟩
def f_Water_needYear_b10   (h : Hp)   : Option ((Unit ⊕ Nat) × Hp) :=
some (.inr 1, hA h 0 0 6)

set_option maxRecDepth 20000 in
set_option maxHeartbeats 4000000 in
theorem f_Water_needYear_b10_ok {l : Launch} {X : Nat × (Nat → Int32)} (hst : l.stackTraces = false) {d : Nat} (hd : 0 ≤ d)     {h : Hp}   {r : (Unit ⊕ Nat) × Hp} (E : f_Water_needYear_b10   h  = some r) : Rn l X mX10_needYear d 10 [] [] h (xV r) r.2 := by
  unfold f_Water_needYear_b10 at E
  cases E
  exact Rn.throwSW (x := 1) (i := 5) kt_X10_384_388 rfl rfl dX10_needYear_10 dX10_needYear_13 dX10_needYear_14 dX10_needYear_17 dX10_needYear_20 (Nat.le_of_ble_eq_true rfl)
def f_Water_needYear_b0   (h : Hp) (x1 : Int32)  : Option ((Unit ⊕ Nat) × Hp) :=
if x1 < 0 then (
f_Water_needYear_b10   h

) else (
if x1 < (30 : Int32) then (
some (.inl (), h)

) else (
f_Water_needYear_b10   h

)

)

set_option maxRecDepth 20000 in
set_option maxHeartbeats 4000000 in
theorem f_Water_needYear_b0_ok {l : Launch} {X : Nat × (Nat → Int32)} (hst : l.stackTraces = false) {d : Nat} (hd : 0 ≤ d)     {h : Hp} {x1 : Int32}  {r : (Unit ⊕ Nat) × Hp} (E : f_Water_needYear_b0   h x1 = some r) : Rn l X mX10_needYear d 0 [(1, .int x1)] [] h (xV r) r.2 := by
  unfold f_Water_needYear_b0 at E
  refine Rn.iload_n (pc' := 1) dX10_needYear_0 rfl 0 rfl rfl ?_
  refine Rn.if_lt (pc' := 4) (tgt := 10) dX10_needYear_1 (by decide) rfl (fun c1 => ?_) (fun c1 => ?_)
  · replace E := (if_of E).1 c1
    refine Rn.sub [] rfl ?_
    exact f_Water_needYear_b10_ok hst hd   E
  · replace E := (if_of E).2 c1
    refine Rn.iload_n (pc' := 5) dX10_needYear_4 rfl 0 rfl rfl ?_
    refine Rn.bipush (pc' := 7) (v := (30 : Int32)) (hv := by decide) dX10_needYear_5 rfl ?_
    refine Rn.icmp_lt (pc' := 10) (tgt := 21) dX10_needYear_7 (by decide) rfl (fun c2 => ?_) (fun c2 => ?_)
    · replace E := (if_of E).1 c2
      cases E
      exact Rn.vret rfl dX10_needYear_21
    · replace E := (if_of E).2 c2
      refine Rn.sub [] rfl ?_
      exact f_Water_needYear_b10_ok hst hd   E
def f_Water_needYear (h : Hp) (x0 : Nat) (x1 : Int32) : Option ((Unit ⊕ Nat) × Hp) := f_Water_needYear_b0  h x1
theorem f_Water_needYear_ok {l : Launch} {X : Nat × (Nat → Int32)} (hst : l.stackTraces = false) {h : Hp} {x0 : Nat} {x1 : Int32} {r : (Unit ⊕ Nat) × Hp} (E : f_Water_needYear h x0 x1 = some r) : MC l X yX10_needYear mX10_needYear 0 [.ref x0, .int x1] h (xV r) r.2 :=
  MC.body (by decide +kernel) rfl (by decide) hst (Nat.le_of_ble_eq_true rfl) (Rn.sub [1] rfl (f_Water_needYear_b0_ok hst (Nat.le_refl _) E))
abbrev mJ9_floorMod_7cf53 : MI := (RJ9, cJ9_floorMod_7cf53, 3, (some Jvm.ClassFile.FieldType.int), [], false)
theorem ws_J9_floorMod_7cf53 : ∀ w ∈ wsM yJ9_floorMod_7cf53 mJ9_floorMod_7cf53, w ∈ gw := List.forall_mem_cons.mpr ⟨gw_at 498 (by decide +kernel) (by decide +kernel), fun _ h => h⟩
def f_Math_floorMod_b0   (h : Hp) (x0 : Int32) (x1 : Int32)  : Option (Int32 × Hp) :=
if ¬ x1 = 0 then (
if 0 ≤ (x0 ^^^ x1) then (
some ((jrem x0 x1), h)

) else (
if (jrem x0 x1) = 0 then (
some ((jrem x0 x1), h)

) else (
some (((jrem x0 x1) + x1), h)

)

)
) else none
set_option maxRecDepth 20000 in
set_option maxHeartbeats 4000000 in
theorem f_Math_floorMod_b0_ok {l : Launch} {X : Nat × (Nat → Int32)} (hst : l.stackTraces = false) {d : Nat} (hd : 0 ≤ d)     {h : Hp} {x0 : Int32} {x1 : Int32}  {r : Int32 × Hp} (E : f_Math_floorMod_b0   h x0 x1 = some r) : Rn l X mJ9_floorMod_7cf53 d 0 [(0, .int x0), (1, .int x1)] [] h (eI r) r.2 := by
  unfold f_Math_floorMod_b0 at E
  refine Rn.iload_n (pc' := 1) dJ9_floorMod_7cf53_0 rfl 0 rfl rfl ?_
  refine Rn.iload_n (pc' := 2) dJ9_floorMod_7cf53_1 rfl 1 rfl rfl ?_
  obtain ⟨g1, E⟩ := gd_of E
  refine Rn.irem (pc' := 3) (hne := g1) dJ9_floorMod_7cf53_2 rfl ?_
  refine Rn.istore_n (pc' := 4) (L' := [(2, .int (jrem x0 x1)), (0, .int x0), (1, .int x1)]) dJ9_floorMod_7cf53_3 rfl (by decide) rfl rfl ?_
  refine Rn.iload_n (pc' := 5) dJ9_floorMod_7cf53_4 rfl 1 rfl rfl ?_
  refine Rn.iload_n (pc' := 6) dJ9_floorMod_7cf53_5 rfl 2 rfl rfl ?_
  refine Rn.ixor (pc' := 7) dJ9_floorMod_7cf53_6 rfl ?_
  refine Rn.if_ge (pc' := 10) (tgt := 18) dJ9_floorMod_7cf53_7 (by decide) rfl (fun c2 => ?_) (fun c2 => ?_)
  · replace E := (if_of E).1 c2
    refine Rn.iload_n (pc' := 19) dJ9_floorMod_7cf53_18 rfl 0 rfl rfl ?_
    cases E
    exact Rn.zret rfl rfl dJ9_floorMod_7cf53_19
  · replace E := (if_of E).2 c2
    refine Rn.iload_n (pc' := 11) dJ9_floorMod_7cf53_10 rfl 0 rfl rfl ?_
    refine Rn.if_eq (pc' := 14) (tgt := 18) dJ9_floorMod_7cf53_11 (by decide) rfl (fun c3 => ?_) (fun c3 => ?_)
    · replace E := (if_of E).1 c3
      refine Rn.iload_n (pc' := 19) dJ9_floorMod_7cf53_18 rfl 0 rfl rfl ?_
      cases E
      exact Rn.zret rfl rfl dJ9_floorMod_7cf53_19
    · replace E := (if_of E).2 c3
      refine Rn.iload_n (pc' := 15) dJ9_floorMod_7cf53_14 rfl 0 rfl rfl ?_
      refine Rn.iload_n (pc' := 16) dJ9_floorMod_7cf53_15 rfl 2 rfl rfl ?_
      refine Rn.iadd (pc' := 17) dJ9_floorMod_7cf53_16 rfl ?_
      cases E
      exact Rn.zret rfl rfl dJ9_floorMod_7cf53_17
def f_Math_floorMod (h : Hp) (x0 : Int32) (x1 : Int32) : Option (Int32 × Hp) := f_Math_floorMod_b0  h x0 x1
theorem f_Math_floorMod_ok {l : Launch} {X : Nat × (Nat → Int32)} (hst : l.stackTraces = false) {h : Hp} {x0 : Int32} {x1 : Int32} {r : Int32 × Hp} (E : f_Math_floorMod h x0 x1 = some r) : MC l X yJ9_floorMod_7cf53 mJ9_floorMod_7cf53 0 [.int x0, .int x1] h (eI r) r.2 :=
  MC.body (by decide +kernel) rfl (by decide) hst (Nat.le_of_ble_eq_true rfl) (f_Math_floorMod_b0_ok hst (Nat.le_refl _) E)
abbrev mX8_latestLand : MI := (RX8, cX8_latestLand, 1, (some (Jvm.ClassFile.FieldType.object "VintageWater$Land")), [], false)
theorem ws_X8_latestLand : ∀ w ∈ wsM yX8_latestLand mX8_latestLand, w ∈ gw := List.forall_mem_cons.mpr ⟨gw_at 495 (by decide +kernel) (by decide +kernel), fun _ h => h⟩
theorem fl_X8_18_7 : FL RX8 18 7 1 := ⟨_, rfl, by decide, "VintageWater$Memory", gw_at 423 (by decide +kernel) (by decide +kernel), Or.inl rfl⟩
theorem kb_X8_22 : KB RX8 22 yJ9_floorMod_7cf53 mJ9_floorMod_7cf53 2 := ⟨gw_at 496 (by decide +kernel) (by decide +kernel), gw_at 128 (by decide +kernel) (by decide +kernel), trivial, ws_J9_floorMod_7cf53, by decide +kernel, by decide +kernel, by decide +kernel, by decide⟩
theorem ks_J9_floorMod_7cf53 : Cond.static yJ9_floorMod_7cf53 ∈ gw := gw_at 497 (by decide +kernel) (by decide +kernel)
def f_Memory_latestLand_b0   (h : Hp) (x0 : Nat)  : Option (Nat × Hp) :=
if hS h x0 = 8 then (
bI (f_Math_floorMod h (hI h x0 1) (12 : Int32)) fun v2 h3 =>
if hS h3 (hR h x0 0) = 26 then (
if ib v2 (hL h3 (hR h x0 0)) = true then (
some ((hR h3 (hR h x0 0) (ix v2)), h3)
) else none) else none) else none
set_option maxRecDepth 20000 in
set_option maxHeartbeats 4000000 in
theorem f_Memory_latestLand_b0_ok {l : Launch} {X : Nat × (Nat → Int32)} (hst : l.stackTraces = false) {d : Nat} (hd : 1 ≤ d)     {h : Hp} {x0 : Nat}  {r : Nat × Hp} (E : f_Memory_latestLand_b0   h x0 = some r) : Rn l X mX8_latestLand d 0 [(0, .ref x0)] [] h (eA r) r.2 := by
  unfold f_Memory_latestLand_b0 at E
  refine Rn.aload_n (pc' := 1) dX8_latestLand_0 rfl 0 rfl rfl ?_
  obtain ⟨g1, E⟩ := gd_of E
  refine Rn.getR (pc' := 4) fl_X8_11_7 g1 rfl dX8_latestLand_1 rfl ?_
  refine Rn.aload_n (pc' := 5) dX8_latestLand_4 rfl 0 rfl rfl ?_
  refine Rn.getI (pc' := 8) fl_X8_18_7 g1 rfl dX8_latestLand_5 rfl ?_
  refine Rn.bipush (pc' := 10) (v := (12 : Int32)) (hv := by decide) dX8_latestLand_8 rfl ?_
  obtain ⟨v2, h3, e4, E⟩ := bI_of E
  refine Rn.callS1 (pc' := 13) (As := [.int (hI h x0 1), .int (12 : Int32)]) (rest := [.ref (hR h x0 0)]) (f_Math_floorMod_ok hst e4) (Nat.le_trans (by decide) hd) rfl kb_X8_22 ks_J9_floorMod_7cf53 rfl rfl (Nat.le_of_ble_eq_true rfl) dX8_latestLand_10 rfl rfl ?_
  obtain ⟨g5, E⟩ := gd_of E
  obtain ⟨g6, E⟩ := gd_of E
  refine Rn.aald (pc' := 14) g5 (by decide) (by decide) g6 dX8_latestLand_13 rfl ?_
  cases E
  exact Rn.aret rfl (by first | exact Or.inl ⟨_, rfl⟩ | exact Or.inr ⟨_, rfl⟩) dX8_latestLand_14
def f_Memory_latestLand (h : Hp) (x0 : Nat) : Option (Nat × Hp) := f_Memory_latestLand_b0  h x0
theorem f_Memory_latestLand_ok {l : Launch} {X : Nat × (Nat → Int32)} (hst : l.stackTraces = false) {h : Hp} {x0 : Nat} {r : Nat × Hp} (E : f_Memory_latestLand h x0 = some r) : MC l X yX8_latestLand mX8_latestLand 1 [.ref x0] h (eA r) r.2 :=
  MC.body (by decide +kernel) rfl (by decide) hst (Nat.le_of_ble_eq_true rfl) (f_Memory_latestLand_b0_ok hst (Nat.le_refl _) E)
abbrev mX10_latest : MI := (RX10, cX10_latest, 5, (some Jvm.ClassFile.FieldType.int), [], false)
theorem ws_X10_latest : ∀ w ∈ wsM yX10_latest mX10_latest, w ∈ gw := List.forall_mem_cons.mpr ⟨gw_at 1415 (by decide +kernel) (by decide +kernel), fun _ h => h⟩
theorem fl_X10_172_3 : FL RX10 172 3 4 := ⟨_, rfl, by decide, "VintageWater$Land", gw_at 368 (by decide +kernel) (by decide +kernel), Or.inl rfl⟩
theorem fl_X10_196_2 : FL RX10 196 2 5 := ⟨_, rfl, by decide, "VintageWater$House", gw_at 325 (by decide +kernel) (by decide +kernel), Or.inl rfl⟩
def f_Water_latest_b53   (h : Hp) (x0 : Nat) (x1 : Int32) (x2 : Int32) (s0 : Int32) : Option ((Int32 ⊕ Nat) × Hp) :=
if hS h x0 = 10 then (
if hS h (hR h x0 4) = 4 then (
if hS h (hR h (hR h x0 4) 4) = 24 then (
if ib x1 (hL h (hR h (hR h x0 4) 4)) = true then (
if hS h (hR h (hR h (hR h x0 4) 4) (ix x1)) = 3 then (
if hS h (hR h (hR h (hR h (hR h x0 4) 4) (ix x1)) 5) = 20 then (
if ib x2 (hL h (hR h (hR h (hR h (hR h x0 4) 4) (ix x1)) 5)) = true then (
some (.inl ((hI h (hR h (hR h (hR h (hR h x0 4) 4) (ix x1)) 5) (ix x2)) - s0), h)
) else none) else none) else none) else none) else none) else none) else none
set_option maxRecDepth 20000 in
set_option maxHeartbeats 4000000 in
theorem f_Water_latest_b53_ok {l : Launch} {X : Nat × (Nat → Int32)} (hst : l.stackTraces = false) {d : Nat} (hd : 2 ≤ d)     {h : Hp} {x0 : Nat} {x1 : Int32} {x2 : Int32} {s0 : Int32} {r : (Int32 ⊕ Nat) × Hp} (E : f_Water_latest_b53   h x0 x1 x2 s0 = some r) : Rn l X mX10_latest d 53 [(0, .ref x0), (1, .int x1), (2, .int x2)] [.int s0] h (xI r) r.2 := by
  unfold f_Water_latest_b53 at E
  refine Rn.istore (pc' := 55) (L' := [(4, .int s0), (0, .ref x0), (1, .int x1), (2, .int x2)]) dX10_latest_53 (by decide) rfl rfl ?_
  refine Rn.aload_n (pc' := 56) dX10_latest_55 rfl 1 rfl rfl ?_
  obtain ⟨g1, E⟩ := gd_of E
  refine Rn.getR (pc' := 59) fl_X10_42_9 g1 rfl dX10_latest_56 rfl ?_
  obtain ⟨g2, E⟩ := gd_of E
  refine Rn.getR (pc' := 62) fl_X10_172_3 g2 rfl dX10_latest_59 rfl ?_
  refine Rn.iload_n (pc' := 63) dX10_latest_62 rfl 2 rfl rfl ?_
  obtain ⟨g3, E⟩ := gd_of E
  obtain ⟨g4, E⟩ := gd_of E
  refine Rn.aald (pc' := 64) g3 (by decide) (by decide) g4 dX10_latest_63 rfl ?_
  obtain ⟨g5, E⟩ := gd_of E
  refine Rn.getR (pc' := 67) fl_X10_196_2 g5 rfl dX10_latest_64 rfl ?_
  refine Rn.iload_n (pc' := 68) dX10_latest_67 rfl 3 rfl rfl ?_
  obtain ⟨g6, E⟩ := gd_of E
  obtain ⟨g7, E⟩ := gd_of E
  refine Rn.iald (pc' := 69) g6 g7 dX10_latest_68 rfl ?_
  refine Rn.iload (pc' := 71) dX10_latest_69 0 rfl rfl ?_
  refine Rn.isub (pc' := 72) dX10_latest_71 rfl ?_
  cases E
  exact Rn.zret rfl rfl dX10_latest_72
theorem kb_X10_169 : KB RX10 169 yX10_needHouse mX10_needHouse 1 := ⟨gw_at 1180 (by decide +kernel) (by decide +kernel), gw_at 107 (by decide +kernel) (by decide +kernel), trivial, ws_X10_needHouse, by decide +kernel, by decide +kernel, by decide +kernel, by decide⟩
theorem ki_X10_needHouse : Cond.instanceMethod yX10_needHouse ∈ gw ∧ Cond.selects yX10_needHouse.cls yX10_needHouse yX10_needHouse ∈ gw := ⟨gw_at 1182 (by decide +kernel) (by decide +kernel), gw_at 34 (by decide +kernel) (by decide +kernel)⟩
theorem kb_X10_160 : KB RX10 160 yX10_needYear mX10_needYear 1 := ⟨gw_at 1161 (by decide +kernel) (by decide +kernel), gw_at 107 (by decide +kernel) (by decide +kernel), trivial, ws_X10_needYear, by decide +kernel, by decide +kernel, by decide +kernel, by decide⟩
theorem ki_X10_needYear : Cond.instanceMethod yX10_needYear ∈ gw ∧ Cond.selects yX10_needYear.cls yX10_needYear yX10_needYear ∈ gw := ⟨gw_at 1163 (by decide +kernel) (by decide +kernel), gw_at 33 (by decide +kernel) (by decide +kernel)⟩
theorem kb_X10_215 : KB RX10 215 yX8_latestLand mX8_latestLand 0 := ⟨gw_at 492 (by decide +kernel) (by decide +kernel), gw_at 112 (by decide +kernel) (by decide +kernel), trivial, ws_X8_latestLand, by decide +kernel, by decide +kernel, by decide +kernel, by decide⟩
theorem ki_X8_latestLand : Cond.instanceMethod yX8_latestLand ∈ gw ∧ Cond.selects yX8_latestLand.cls yX8_latestLand yX8_latestLand ∈ gw := ⟨gw_at 493 (by decide +kernel) (by decide +kernel), gw_at 494 (by decide +kernel) (by decide +kernel)⟩
def f_Water_latest_b0   (h : Hp) (x0 : Nat) (x1 : Int32) (x2 : Int32)  : Option ((Int32 ⊕ Nat) × Hp) :=
if hS h x0 = 10 then (
bX (f_Water_needHouse h x0 x1) fun _ h3 =>
if hS h3 x0 = 10 then (
bX (f_Water_needYear h3 x0 x2) fun _ h7 =>
if hS h7 x0 = 10 then (
if hS h7 (hR h7 x0 3) = 8 then (
if (hI h7 (hR h7 x0 3) 2) = 0 then (
some (.inl (-1 : Int32), h7)

) else (
bI (f_Memory_latestLand h7 (hR h7 x0 3)) fun v12 h13 =>
if hS h13 v12 = 4 then (
if (hI h13 v12 1) ≤ x1 then (
f_Water_latest_b53   h13 x0 x1 x2 (0 : Int32)

) else (
if hS h13 (hR h13 v12 4) = 24 then (
if ib x1 (hL h13 (hR h13 v12 4)) = true then (
if hS h13 (hR h13 (hR h13 v12 4) (ix x1)) = 3 then (
if hS h13 (hR h13 (hR h13 (hR h13 v12 4) (ix x1)) 5) = 20 then (
if ib x2 (hL h13 (hR h13 (hR h13 (hR h13 v12 4) (ix x1)) 5)) = true then (
f_Water_latest_b53   h13 x0 x1 x2 (hI h13 (hR h13 (hR h13 (hR h13 v12 4) (ix x1)) 5) (ix x2))
) else none) else none) else none) else none) else none
)
) else none
)
) else none) else none) else none) else none
set_option maxRecDepth 20000 in
set_option maxHeartbeats 4000000 in
theorem f_Water_latest_b0_ok {l : Launch} {X : Nat × (Nat → Int32)} (hst : l.stackTraces = false) {d : Nat} (hd : 2 ≤ d)     {h : Hp} {x0 : Nat} {x1 : Int32} {x2 : Int32}  {r : (Int32 ⊕ Nat) × Hp} (E : f_Water_latest_b0   h x0 x1 x2 = some r) : Rn l X mX10_latest d 0 [(0, .ref x0), (1, .int x1), (2, .int x2)] [] h (xI r) r.2 := by
  unfold f_Water_latest_b0 at E
  refine Rn.aload_n (pc' := 1) dX10_latest_0 rfl 0 rfl rfl ?_
  refine Rn.iload_n (pc' := 2) dX10_latest_1 rfl 1 rfl rfl ?_
  obtain ⟨g1, E⟩ := gd_of E
  rcases bX_of E with ⟨u_, h3, e4, E⟩ | ⟨x_, h3, e4, rfl⟩
  rotate_left
  · exact Rn.callVX (As := [.int x1]) (rest := []) (f_Water_needHouse_ok hst e4) (Nat.le_trans (by decide) hd) rfl kb_X10_169 ki_X10_needHouse rfl g1 rfl rfl (Nat.le_of_ble_eq_true rfl) dX10_latest_2 (RnX.out (by decide))
  refine Rn.callV1 (pc' := 5) (As := [.int x1]) (rest := []) (f_Water_needHouse_ok hst e4) (Nat.le_trans (by decide) hd) rfl kb_X10_169 ki_X10_needHouse rfl g1 rfl rfl (Nat.le_of_ble_eq_true rfl) dX10_latest_2 rfl rfl ?_
  refine Rn.aload_n (pc' := 6) dX10_latest_5 rfl 0 rfl rfl ?_
  refine Rn.iload_n (pc' := 7) dX10_latest_6 rfl 2 rfl rfl ?_
  obtain ⟨g5, E⟩ := gd_of E
  rcases bX_of E with ⟨u_, h7, e8, E⟩ | ⟨x_, h7, e8, rfl⟩
  rotate_left
  · exact Rn.callVX (As := [.int x2]) (rest := []) (f_Water_needYear_ok hst e8) (Nat.le_trans (by decide) hd) rfl kb_X10_160 ki_X10_needYear rfl g5 rfl rfl (Nat.le_of_ble_eq_true rfl) dX10_latest_7 (RnX.out (by decide))
  refine Rn.callV1 (pc' := 10) (As := [.int x2]) (rest := []) (f_Water_needYear_ok hst e8) (Nat.le_trans (by decide) hd) rfl kb_X10_160 ki_X10_needYear rfl g5 rfl rfl (Nat.le_of_ble_eq_true rfl) dX10_latest_7 rfl rfl ?_
  refine Rn.aload_n (pc' := 11) dX10_latest_10 rfl 0 rfl rfl ?_
  obtain ⟨g9, E⟩ := gd_of E
  refine Rn.getR (pc' := 14) fl_X10_35_9 g9 rfl dX10_latest_11 rfl ?_
  obtain ⟨g10, E⟩ := gd_of E
  refine Rn.getI (pc' := 17) fl_X10_214_7 g10 rfl dX10_latest_14 rfl ?_
  refine Rn.if_ne (pc' := 20) (tgt := 22) dX10_latest_17 (by decide) rfl (fun c11 => ?_) (fun c11 => ?_)
  · replace E := (if_of E).2 c11
    refine Rn.aload_n (pc' := 23) dX10_latest_22 rfl 0 rfl rfl ?_
    refine Rn.getR (pc' := 26) fl_X10_35_9 g9 rfl dX10_latest_23 rfl ?_
    obtain ⟨v12, h13, e14, E⟩ := bI_of E
    refine Rn.callV1 (pc' := 29) (As := []) (rest := []) (f_Memory_latestLand_ok hst e14) (Nat.le_trans (by decide) hd) rfl kb_X10_215 ki_X8_latestLand rfl g10 rfl rfl (Nat.le_of_ble_eq_true rfl) dX10_latest_26 rfl rfl ?_
    refine Rn.astore_n (pc' := 30) (L' := [(3, .ref v12), (0, .ref x0), (1, .int x1), (2, .int x2)]) dX10_latest_29 rfl (by decide) rfl rfl ?_
    refine Rn.iload_n (pc' := 31) dX10_latest_30 rfl 2 rfl rfl ?_
    refine Rn.aload_n (pc' := 32) dX10_latest_31 rfl 0 rfl rfl ?_
    obtain ⟨g15, E⟩ := gd_of E
    refine Rn.getI (pc' := 35) fl_X10_76_3 g15 rfl dX10_latest_32 rfl ?_
    refine Rn.icmp_ge (pc' := 38) (tgt := 52) dX10_latest_35 (by decide) rfl (fun c16 => ?_) (fun c16 => ?_)
    · replace E := (if_of E).1 c16
      refine Rn.iconst (pc' := 53) (v := (0 : Int32)) (hv := by decide) dX10_latest_52 rfl ?_
      refine Rn.sub [1, 2, 3] rfl ?_
      exact f_Water_latest_b53_ok hst hd   E
    · replace E := (if_of E).2 c16
      refine Rn.aload_n (pc' := 39) dX10_latest_38 rfl 0 rfl rfl ?_
      refine Rn.getR (pc' := 42) fl_X10_172_3 g15 rfl dX10_latest_39 rfl ?_
      refine Rn.iload_n (pc' := 43) dX10_latest_42 rfl 2 rfl rfl ?_
      obtain ⟨g17, E⟩ := gd_of E
      obtain ⟨g18, E⟩ := gd_of E
      refine Rn.aald (pc' := 44) g17 (by decide) (by decide) g18 dX10_latest_43 rfl ?_
      obtain ⟨g19, E⟩ := gd_of E
      refine Rn.getR (pc' := 47) fl_X10_196_2 g19 rfl dX10_latest_44 rfl ?_
      refine Rn.iload_n (pc' := 48) dX10_latest_47 rfl 3 rfl rfl ?_
      obtain ⟨g20, E⟩ := gd_of E
      obtain ⟨g21, E⟩ := gd_of E
      refine Rn.iald (pc' := 49) g20 g21 dX10_latest_48 rfl ?_
      refine Rn.goto (pc' := 53) dX10_latest_49 (by decide) ?_
      refine Rn.sub [1, 2, 3] rfl ?_
      exact f_Water_latest_b53_ok hst hd   E
  · replace E := (if_of E).1 c11
    refine Rn.iconst (pc' := 21) (v := (-1 : Int32)) (hv := by decide) dX10_latest_20 rfl ?_
    cases E
    exact Rn.zret rfl rfl dX10_latest_21
def f_Water_latest (h : Hp) (x0 : Nat) (x1 : Int32) (x2 : Int32) : Option ((Int32 ⊕ Nat) × Hp) := f_Water_latest_b0  h x0 x1 x2
theorem f_Water_latest_ok {l : Launch} {X : Nat × (Nat → Int32)} (hst : l.stackTraces = false) {h : Hp} {x0 : Nat} {x1 : Int32} {x2 : Int32} {r : (Int32 ⊕ Nat) × Hp} (E : f_Water_latest h x0 x1 x2 = some r) : MC l X yX10_latest mX10_latest 2 [.ref x0, .int x1, .int x2] h (xI r) r.2 :=
  MC.body (by decide +kernel) rfl (by decide) hst (Nat.le_of_ble_eq_true rfl) (f_Water_latest_b0_ok hst (Nat.le_refl _) E)
abbrev mL_latest : MI := (RL, cL_latest, 5, (some Jvm.ClassFile.FieldType.int), [(0, 10, 13, 24)], false)
theorem ws_L_latest : ∀ w ∈ wsM yL_latest mL_latest, w ∈ gw := List.forall_mem_cons.mpr ⟨gw_at 1411 (by decide +kernel) (by decide +kernel), fun _ h => h⟩
theorem kb_L_95 : KB RL 95 yX10_latest mX10_latest 2 := ⟨gw_at 1412 (by decide +kernel) (by decide +kernel), gw_at 107 (by decide +kernel) (by decide +kernel), trivial, ws_X10_latest, by decide +kernel, by decide +kernel, by decide +kernel, by decide⟩
theorem ki_X10_latest : Cond.instanceMethod yX10_latest ∈ gw ∧ Cond.selects yX10_latest.cls yX10_latest yX10_latest ∈ gw := ⟨gw_at 1413 (by decide +kernel) (by decide +kernel), gw_at 1414 (by decide +kernel) (by decide +kernel)⟩
theorem kk_L_24 : Cond.classLink RL 24 "java/lang/IndexOutOfBoundsException" ∈ gw := gw_at 1104 (by decide +kernel) (by decide +kernel)
def f_Lw_latest_b0   (h : Hp) (x0 : Nat) (x1 : Int32) (x2 : Int32) (x3 : Nat)  : Option (Int32 × Hp) :=
if hS h x0 = 10 then (
bC (f_Water_latest h x0 x1 x2) (fun v2 h3 =>
if hS h3 x3 = 22 then (
if ib (0 : Int32) (hL h3 x3) = true then (
wr (sJ h3 x3 (ix (0 : Int32)) (Int32.toInt64 v2)) fun h7 =>
some ((0 : Int32), h7)
) else none) else none
) (fun x_ h3 =>
if x_ = 1 then (
some ((1 : Int32), h3)

) else (
none))
) else none
set_option maxRecDepth 20000 in
set_option maxHeartbeats 4000000 in
theorem f_Lw_latest_b0_ok {l : Launch} {X : Nat × (Nat → Int32)} (hst : l.stackTraces = false) {d : Nat} (hd : 3 ≤ d)     {h : Hp} {x0 : Nat} {x1 : Int32} {x2 : Int32} {x3 : Nat}  {r : Int32 × Hp} (E : f_Lw_latest_b0   h x0 x1 x2 x3 = some r) : Rn l X mL_latest d 0 [(0, .ref x0), (1, .int x1), (2, .int x2), (3, .ref x3)] [] h (eI r) r.2 := by
  unfold f_Lw_latest_b0 at E
  refine Rn.aload_n (pc' := 1) dL_latest_0 rfl 3 rfl rfl ?_
  refine Rn.iconst (pc' := 2) (v := (0 : Int32)) (hv := by decide) dL_latest_1 rfl ?_
  refine Rn.aload_n (pc' := 3) dL_latest_2 rfl 0 rfl rfl ?_
  refine Rn.iload_n (pc' := 4) dL_latest_3 rfl 1 rfl rfl ?_
  refine Rn.iload_n (pc' := 5) dL_latest_4 rfl 2 rfl rfl ?_
  obtain ⟨g1, E⟩ := gd_of E
  rcases bC_of E with ⟨v2, h3, e4, E⟩ | ⟨x_, h3, e4, E⟩
  · refine Rn.callV1 (pc' := 8) (As := [.int x1, .int x2]) (rest := [.int (0 : Int32), .ref x3]) (f_Water_latest_ok hst e4) (Nat.le_trans (by decide) hd) rfl kb_L_95 ki_X10_latest rfl g1 rfl rfl (Nat.le_of_ble_eq_true rfl) dL_latest_5 rfl rfl ?_
    refine Rn.i2l (pc' := 9) dL_latest_8 rfl ?_
    obtain ⟨g5, E⟩ := gd_of E
    obtain ⟨g6, E⟩ := gd_of E
    refine Rn.last (pc' := 10) g5 g6 dL_latest_9 rfl ?_
    replace E := wr_of E
    generalize eh8 : sJ h3 x3 (ix (0 : Int32)) (Int32.toInt64 v2) = h7 at E ⊢
    refine Rn.goto (pc' := 17) dL_latest_10 (by decide) ?_
    refine Rn.iconst (pc' := 18) (v := (0 : Int32)) (hv := by decide) dL_latest_17 rfl ?_
    cases E
    exact Rn.zret rfl rfl dL_latest_18
  · refine Rn.callVX (As := [.int x1, .int x2]) (rest := [.int (0 : Int32), .ref x3]) (f_Water_latest_ok hst e4) (Nat.le_trans (by decide) hd) rfl kb_L_95 ki_X10_latest rfl g1 rfl rfl (Nat.le_of_ble_eq_true rfl) dL_latest_5 ?_
    by_cases c9 : x_ = 1
    · replace E := (if_of E).1 c9
      subst c9
      refine RnX.catch (x := 1) (i := 4) (pch := 15) 0 rfl (pre0) (by decide) (by decide) kk_L_24 (by decide) (Or.inr ⟨dL_latest_13, rfl⟩) (by decide) ?_
      change Rn _ _ _ _ _ [(0, .ref x0), (1, .int x1), (2, .int x2), (3, .ref x3)] _ _ _ _
      refine Rn.iconst (pc' := 16) (v := (1 : Int32)) (hv := by decide) dL_latest_15 rfl ?_
      cases E
      exact Rn.zret rfl rfl dL_latest_16
    replace E := (if_of E).2 c9
    cases E
def f_Lw_latest (h : Hp) (x0 : Nat) (x1 : Int32) (x2 : Int32) (x3 : Nat) : Option (Int32 × Hp) := f_Lw_latest_b0  h x0 x1 x2 x3
theorem f_Lw_latest_ok {l : Launch} {X : Nat × (Nat → Int32)} (hst : l.stackTraces = false) {h : Hp} {x0 : Nat} {x1 : Int32} {x2 : Int32} {x3 : Nat} {r : Int32 × Hp} (E : f_Lw_latest h x0 x1 x2 x3 = some r) : MC l X yL_latest mL_latest 3 [.ref x0, .int x1, .int x2, .ref x3] h (eI r) r.2 :=
  MC.body (by decide +kernel) rfl (by decide) hst (Nat.le_of_ble_eq_true rfl) (f_Lw_latest_b0_ok hst (Nat.le_refl _) E)
abbrev mX11_in : MI := (RX11, cX11_in, 3, (some Jvm.ClassFile.FieldType.boolean), [], false)
theorem ws_X11_in : ∀ w ∈ wsM yX11_in mX11_in, w ∈ gw := List.forall_mem_cons.mpr ⟨gw_at 1707 (by decide +kernel) (by decide +kernel), fun _ h => h⟩
def f_Model_in_b0   (h : Hp) (x0 : Int32) (x1 : Int32) (x2 : Int32)  : Option (Int32 × Hp) :=
if x0 < x1 then (
some ((0 : Int32), h)

) else (
if x2 < x0 then (
some ((0 : Int32), h)

) else (
some ((1 : Int32), h)

)

)

set_option maxRecDepth 20000 in
set_option maxHeartbeats 4000000 in
theorem f_Model_in_b0_ok {l : Launch} {X : Nat × (Nat → Int32)} (hst : l.stackTraces = false) {d : Nat} (hd : 0 ≤ d)     {h : Hp} {x0 : Int32} {x1 : Int32} {x2 : Int32}  {r : Int32 × Hp} (E : f_Model_in_b0   h x0 x1 x2 = some r) : Rn l X mX11_in d 0 [(0, .int x0), (1, .int x1), (2, .int x2)] [] h (eI r) r.2 := by
  unfold f_Model_in_b0 at E
  refine Rn.iload_n (pc' := 1) dX11_in_0 rfl 0 rfl rfl ?_
  refine Rn.iload_n (pc' := 2) dX11_in_1 rfl 1 rfl rfl ?_
  refine Rn.icmp_lt (pc' := 5) (tgt := 14) dX11_in_2 (by decide) rfl (fun c1 => ?_) (fun c1 => ?_)
  · replace E := (if_of E).1 c1
    refine Rn.iconst (pc' := 15) (v := (0 : Int32)) (hv := by decide) dX11_in_14 rfl ?_
    cases E
    exact Rn.zret rfl rfl dX11_in_15
  · replace E := (if_of E).2 c1
    refine Rn.iload_n (pc' := 6) dX11_in_5 rfl 0 rfl rfl ?_
    refine Rn.iload_n (pc' := 7) dX11_in_6 rfl 2 rfl rfl ?_
    refine Rn.icmp_gt (pc' := 10) (tgt := 14) dX11_in_7 (by decide) rfl (fun c2 => ?_) (fun c2 => ?_)
    · replace E := (if_of E).1 c2
      refine Rn.iconst (pc' := 15) (v := (0 : Int32)) (hv := by decide) dX11_in_14 rfl ?_
      cases E
      exact Rn.zret rfl rfl dX11_in_15
    · replace E := (if_of E).2 c2
      refine Rn.iconst (pc' := 11) (v := (1 : Int32)) (hv := by decide) dX11_in_10 rfl ?_
      refine Rn.goto (pc' := 15) dX11_in_11 (by decide) ?_
      cases E
      exact Rn.zret rfl rfl dX11_in_15
def f_Model_in (h : Hp) (x0 : Int32) (x1 : Int32) (x2 : Int32) : Option (Int32 × Hp) := f_Model_in_b0  h x0 x1 x2
theorem f_Model_in_ok {l : Launch} {X : Nat × (Nat → Int32)} (hst : l.stackTraces = false) {h : Hp} {x0 : Int32} {x1 : Int32} {x2 : Int32} {r : Int32 × Hp} (E : f_Model_in h x0 x1 x2 = some r) : MC l X yX11_in mX11_in 0 [.int x0, .int x1, .int x2] h (eI r) r.2 :=
  MC.body (by decide +kernel) rfl (by decide) hst (Nat.le_of_ble_eq_true rfl) (f_Model_in_b0_ok hst (Nat.le_refl _) E)
abbrev mX11_noHouse : MI := (RX11, cX11_noHouse, 2, (some Jvm.ClassFile.FieldType.boolean), [], false)
theorem ws_X11_noHouse : ∀ w ∈ wsM yX11_noHouse mX11_noHouse, w ∈ gw := List.forall_mem_cons.mpr ⟨gw_at 1734 (by decide +kernel) (by decide +kernel), fun _ h => h⟩
theorem kb_X11_56 : KB RX11 56 yX11_in mX11_in 3 := ⟨gw_at 1705 (by decide +kernel) (by decide +kernel), gw_at 117 (by decide +kernel) (by decide +kernel), trivial, ws_X11_in, by decide +kernel, by decide +kernel, by decide +kernel, by decide⟩
theorem ks_X11_in : Cond.static yX11_in ∈ gw := gw_at 1706 (by decide +kernel) (by decide +kernel)
def f_Model_noHouse_b0   (h : Hp) (x0 : Nat) (x1 : Int32)  : Option (Int32 × Hp) :=
if hS h x0 = 11 then (
bI (f_Model_houses h x0) fun v2 h3 =>
bI (f_Model_in h3 x1 (0 : Int32) (v2 - (1 : Int32))) fun v5 h6 =>
if v5 = 0 then (
some ((1 : Int32), h6)

) else (
some ((0 : Int32), h6)

)
) else none
set_option maxRecDepth 20000 in
set_option maxHeartbeats 4000000 in
theorem f_Model_noHouse_b0_ok {l : Launch} {X : Nat × (Nat → Int32)} (hst : l.stackTraces = false) {d : Nat} (hd : 1 ≤ d)     {h : Hp} {x0 : Nat} {x1 : Int32}  {r : Int32 × Hp} (E : f_Model_noHouse_b0   h x0 x1 = some r) : Rn l X mX11_noHouse d 0 [(0, .ref x0), (1, .int x1)] [] h (eI r) r.2 := by
  unfold f_Model_noHouse_b0 at E
  refine Rn.iload_n (pc' := 1) dX11_noHouse_0 rfl 1 rfl rfl ?_
  refine Rn.iconst (pc' := 2) (v := (0 : Int32)) (hv := by decide) dX11_noHouse_1 rfl ?_
  refine Rn.aload_n (pc' := 3) dX11_noHouse_2 rfl 0 rfl rfl ?_
  obtain ⟨g1, E⟩ := gd_of E
  obtain ⟨v2, h3, e4, E⟩ := bI_of E
  refine Rn.callV1 (pc' := 6) (As := []) (rest := [.int (0 : Int32), .int x1]) (f_Model_houses_ok hst e4) (Nat.le_trans (by decide) hd) rfl kb_X11_60 ki_X11_houses rfl g1 rfl rfl (Nat.le_of_ble_eq_true rfl) dX11_noHouse_3 rfl rfl ?_
  refine Rn.iconst (pc' := 7) (v := (1 : Int32)) (hv := by decide) dX11_noHouse_6 rfl ?_
  refine Rn.isub (pc' := 8) dX11_noHouse_7 rfl ?_
  obtain ⟨v5, h6, e7, E⟩ := bI_of E
  refine Rn.callS1 (pc' := 11) (As := [.int x1, .int (0 : Int32), .int (v2 - (1 : Int32))]) (rest := []) (f_Model_in_ok hst e7) (Nat.le_trans (by decide) hd) rfl kb_X11_56 ks_X11_in rfl rfl (Nat.le_of_ble_eq_true rfl) dX11_noHouse_8 rfl rfl ?_
  refine Rn.if_ne (pc' := 14) (tgt := 18) dX11_noHouse_11 (by decide) rfl (fun c8 => ?_) (fun c8 => ?_)
  · replace E := (if_of E).2 c8
    refine Rn.iconst (pc' := 19) (v := (0 : Int32)) (hv := by decide) dX11_noHouse_18 rfl ?_
    cases E
    exact Rn.zret rfl rfl dX11_noHouse_19
  · replace E := (if_of E).1 c8
    refine Rn.iconst (pc' := 15) (v := (1 : Int32)) (hv := by decide) dX11_noHouse_14 rfl ?_
    refine Rn.goto (pc' := 19) dX11_noHouse_15 (by decide) ?_
    cases E
    exact Rn.zret rfl rfl dX11_noHouse_19
def f_Model_noHouse (h : Hp) (x0 : Nat) (x1 : Int32) : Option (Int32 × Hp) := f_Model_noHouse_b0  h x0 x1
theorem f_Model_noHouse_ok {l : Launch} {X : Nat × (Nat → Int32)} (hst : l.stackTraces = false) {h : Hp} {x0 : Nat} {x1 : Int32} {r : Int32 × Hp} (E : f_Model_noHouse h x0 x1 = some r) : MC l X yX11_noHouse mX11_noHouse 1 [.ref x0, .int x1] h (eI r) r.2 :=
  MC.body (by decide +kernel) rfl (by decide) hst (Nat.le_of_ble_eq_true rfl) (f_Model_noHouse_b0_ok hst (Nat.le_refl _) E)
abbrev mX11_noYear : MI := (RX11, cX11_noYear, 1, (some Jvm.ClassFile.FieldType.boolean), [], false)
theorem ws_X11_noYear : ∀ w ∈ wsM yX11_noYear mX11_noYear, w ∈ gw := List.forall_mem_cons.mpr ⟨gw_at 1722 (by decide +kernel) (by decide +kernel), fun _ h => h⟩
def f_Model_noYear_b0   (h : Hp) (x0 : Int32)  : Option (Int32 × Hp) :=
bI (f_Model_in h x0 (0 : Int32) (29 : Int32)) fun v1 h2 =>
if v1 = 0 then (
some ((1 : Int32), h2)

) else (
some ((0 : Int32), h2)

)

set_option maxRecDepth 20000 in
set_option maxHeartbeats 4000000 in
theorem f_Model_noYear_b0_ok {l : Launch} {X : Nat × (Nat → Int32)} (hst : l.stackTraces = false) {d : Nat} (hd : 1 ≤ d)     {h : Hp} {x0 : Int32}  {r : Int32 × Hp} (E : f_Model_noYear_b0   h x0 = some r) : Rn l X mX11_noYear d 0 [(0, .int x0)] [] h (eI r) r.2 := by
  unfold f_Model_noYear_b0 at E
  refine Rn.iload_n (pc' := 1) dX11_noYear_0 rfl 0 rfl rfl ?_
  refine Rn.iconst (pc' := 2) (v := (0 : Int32)) (hv := by decide) dX11_noYear_1 rfl ?_
  refine Rn.bipush (pc' := 4) (v := (29 : Int32)) (hv := by decide) dX11_noYear_2 rfl ?_
  obtain ⟨v1, h2, e3, E⟩ := bI_of E
  refine Rn.callS1 (pc' := 7) (As := [.int x0, .int (0 : Int32), .int (29 : Int32)]) (rest := []) (f_Model_in_ok hst e3) (Nat.le_trans (by decide) hd) rfl kb_X11_56 ks_X11_in rfl rfl (Nat.le_of_ble_eq_true rfl) dX11_noYear_4 rfl rfl ?_
  refine Rn.if_ne (pc' := 10) (tgt := 14) dX11_noYear_7 (by decide) rfl (fun c4 => ?_) (fun c4 => ?_)
  · replace E := (if_of E).2 c4
    refine Rn.iconst (pc' := 15) (v := (0 : Int32)) (hv := by decide) dX11_noYear_14 rfl ?_
    cases E
    exact Rn.zret rfl rfl dX11_noYear_15
  · replace E := (if_of E).1 c4
    refine Rn.iconst (pc' := 11) (v := (1 : Int32)) (hv := by decide) dX11_noYear_10 rfl ?_
    refine Rn.goto (pc' := 15) dX11_noYear_11 (by decide) ?_
    cases E
    exact Rn.zret rfl rfl dX11_noYear_15
def f_Model_noYear (h : Hp) (x0 : Int32) : Option (Int32 × Hp) := f_Model_noYear_b0  h x0
theorem f_Model_noYear_ok {l : Launch} {X : Nat × (Nat → Int32)} (hst : l.stackTraces = false) {h : Hp} {x0 : Int32} {r : Int32 × Hp} (E : f_Model_noYear h x0 = some r) : MC l X yX11_noYear mX11_noYear 1 [.int x0] h (eI r) r.2 :=
  MC.body (by decide +kernel) rfl (by decide) hst (Nat.le_of_ble_eq_true rfl) (f_Model_noYear_b0_ok hst (Nat.le_refl _) E)
abbrev mX11_throwsIf : MI := (RX11, cX11_throwsIf, 3, (some Jvm.ClassFile.FieldType.boolean), [], false)
theorem ws_X11_throwsIf : ∀ w ∈ wsM yX11_throwsIf mX11_throwsIf, w ∈ gw := List.forall_mem_cons.mpr ⟨gw_at 1692 (by decide +kernel) (by decide +kernel), fun _ h => h⟩
def f_Model_throwsIf_b0   (h : Hp) (x0 : Nat) (x1 : Int32) (x2 : Int32)  : Option (Int32 × Hp) :=
if x1 = 0 then (
if x1 = 0 ∨ x1 = 1 then (
some (x1, h)
) else none
) else (
if hS h x0 = 11 then (
wr (sI h x0 0 x2) fun h4 =>
if x1 = 0 ∨ x1 = 1 then (
some (x1, h4)
) else none) else none
)

set_option maxRecDepth 20000 in
set_option maxHeartbeats 4000000 in
theorem f_Model_throwsIf_b0_ok {l : Launch} {X : Nat × (Nat → Int32)} (hst : l.stackTraces = false) {d : Nat} (hd : 0 ≤ d)     {h : Hp} {x0 : Nat} {x1 : Int32} {x2 : Int32}  {r : Int32 × Hp} (E : f_Model_throwsIf_b0   h x0 x1 x2 = some r) : Rn l X mX11_throwsIf d 0 [(0, .ref x0), (1, .int x1), (2, .int x2)] [] h (eI r) r.2 := by
  unfold f_Model_throwsIf_b0 at E
  refine Rn.iload_n (pc' := 1) dX11_throwsIf_0 rfl 1 rfl rfl ?_
  refine Rn.if_eq (pc' := 4) (tgt := 9) dX11_throwsIf_1 (by decide) rfl (fun c1 => ?_) (fun c1 => ?_)
  · replace E := (if_of E).1 c1
    refine Rn.iload_n (pc' := 10) dX11_throwsIf_9 rfl 1 rfl rfl ?_
    obtain ⟨g2, E⟩ := gd_of E
    cases E
    exact Rn.zret rfl (nar_b g2) dX11_throwsIf_10
  · replace E := (if_of E).2 c1
    refine Rn.aload_n (pc' := 5) dX11_throwsIf_4 rfl 0 rfl rfl ?_
    refine Rn.iload_n (pc' := 6) dX11_throwsIf_5 rfl 2 rfl rfl ?_
    obtain ⟨g3, E⟩ := gd_of E
    refine Rn.putI (pc' := 9) fl_X11_3_10 (fun q hq => by cases hq; decide) g3 rfl rfl rfl dX11_throwsIf_6 rfl ?_
    replace E := wr_of E
    generalize eh5 : sI h x0 0 x2 = h4 at E ⊢
    refine Rn.iload_n (pc' := 10) dX11_throwsIf_9 rfl 1 rfl rfl ?_
    obtain ⟨g6, E⟩ := gd_of E
    cases E
    exact Rn.zret rfl (nar_b g6) dX11_throwsIf_10
def f_Model_throwsIf (h : Hp) (x0 : Nat) (x1 : Int32) (x2 : Int32) : Option (Int32 × Hp) := f_Model_throwsIf_b0  h x0 x1 x2
theorem f_Model_throwsIf_ok {l : Launch} {X : Nat × (Nat → Int32)} (hst : l.stackTraces = false) {h : Hp} {x0 : Nat} {x1 : Int32} {x2 : Int32} {r : Int32 × Hp} (E : f_Model_throwsIf h x0 x1 x2 = some r) : MC l X yX11_throwsIf mX11_throwsIf 0 [.ref x0, .int x1, .int x2] h (eI r) r.2 :=
  MC.body (by decide +kernel) rfl (by decide) hst (Nat.le_of_ble_eq_true rfl) (f_Model_throwsIf_b0_ok hst (Nat.le_refl _) E)
abbrev mX11_latest : MI := (RX11, cX11_latest, 3, (some Jvm.ClassFile.FieldType.int), [], false)
theorem ws_X11_latest : ∀ w ∈ wsM yX11_latest mX11_latest, w ∈ gw := List.forall_mem_cons.mpr ⟨gw_at 1937 (by decide +kernel) (by decide +kernel), fun _ h => h⟩
theorem kb_X11_265 : KB RX11 265 yX11_throwsIf mX11_throwsIf 2 := ⟨gw_at 1689 (by decide +kernel) (by decide +kernel), gw_at 117 (by decide +kernel) (by decide +kernel), trivial, ws_X11_throwsIf, by decide +kernel, by decide +kernel, by decide +kernel, by decide⟩
theorem ki_X11_throwsIf : Cond.instanceMethod yX11_throwsIf ∈ gw ∧ Cond.selects yX11_throwsIf.cls yX11_throwsIf yX11_throwsIf ∈ gw := ⟨gw_at 1691 (by decide +kernel) (by decide +kernel), gw_at 77 (by decide +kernel) (by decide +kernel)⟩
def f_Model_latest_b26   (h : Hp) (x0 : Nat) (x1 : Int32) (x2 : Int32) (s0 : Nat) (s1 : Int32) : Option (Int32 × Hp) :=
if hS h s0 = 11 then (
bI (f_Model_throwsIf h s0 s1 (1 : Int32)) fun v2 h3 =>
if v2 = 0 then (
if hS h3 x0 = 11 then (
if (hI h3 x0 7) = 0 then (
some ((-1 : Int32), h3)

) else (
bI (f_Model_ofHouse h3 x0 x1 ((4 : Int32) + x2)) fun v8 h9 =>
if hS h9 x0 = 11 then (
if hS h9 (hR h9 x0 5) = 20 then (
if ib ((((((1454 : Int32) * ((hI h9 x0 7) - (1 : Int32))) + (345 : Int32)) + ((34 : Int32) * x1)) + (4 : Int32)) + x2) (hL h9 (hR h9 x0 5)) = true then (
some ((v8 - (hI h9 (hR h9 x0 5) (ix ((((((1454 : Int32) * ((hI h9 x0 7) - (1 : Int32))) + (345 : Int32)) + ((34 : Int32) * x1)) + (4 : Int32)) + x2)))), h9)
) else none) else none) else none
)
) else none
) else (
some ((0 : Int32), h3)

)
) else none
set_option maxRecDepth 20000 in
set_option maxHeartbeats 4000000 in
theorem f_Model_latest_b26_ok {l : Launch} {X : Nat × (Nat → Int32)} (hst : l.stackTraces = false) {d : Nat} (hd : 2 ≤ d)     {h : Hp} {x0 : Nat} {x1 : Int32} {x2 : Int32} {s0 : Nat} {s1 : Int32} {r : Int32 × Hp} (E : f_Model_latest_b26   h x0 x1 x2 s0 s1 = some r) : Rn l X mX11_latest d 26 [(0, .ref x0), (1, .int x1), (2, .int x2)] [.int s1, .ref s0] h (eI r) r.2 := by
  unfold f_Model_latest_b26 at E
  refine Rn.iconst (pc' := 27) (v := (1 : Int32)) (hv := by decide) dX11_latest_26 rfl ?_
  obtain ⟨g1, E⟩ := gd_of E
  obtain ⟨v2, h3, e4, E⟩ := bI_of E
  refine Rn.callV1 (pc' := 30) (As := [.int s1, .int (1 : Int32)]) (rest := []) (f_Model_throwsIf_ok hst e4) (Nat.le_trans (by decide) hd) rfl kb_X11_265 ki_X11_throwsIf rfl g1 rfl rfl (Nat.le_of_ble_eq_true rfl) dX11_latest_27 rfl rfl ?_
  refine Rn.if_eq (pc' := 33) (tgt := 35) dX11_latest_30 (by decide) rfl (fun c5 => ?_) (fun c5 => ?_)
  · replace E := (if_of E).1 c5
    refine Rn.aload_n (pc' := 36) dX11_latest_35 rfl 0 rfl rfl ?_
    obtain ⟨g6, E⟩ := gd_of E
    refine Rn.getI (pc' := 39) fl_X11_49_10 g6 rfl dX11_latest_36 rfl ?_
    refine Rn.if_ne (pc' := 42) (tgt := 46) dX11_latest_39 (by decide) rfl (fun c7 => ?_) (fun c7 => ?_)
    · replace E := (if_of E).2 c7
      refine Rn.aload_n (pc' := 47) dX11_latest_46 rfl 0 rfl rfl ?_
      refine Rn.iload_n (pc' := 48) dX11_latest_47 rfl 1 rfl rfl ?_
      refine Rn.iconst (pc' := 49) (v := (4 : Int32)) (hv := by decide) dX11_latest_48 rfl ?_
      refine Rn.iload_n (pc' := 50) dX11_latest_49 rfl 2 rfl rfl ?_
      refine Rn.iadd (pc' := 51) dX11_latest_50 rfl ?_
      obtain ⟨v8, h9, e10, E⟩ := bI_of E
      refine Rn.callV1 (pc' := 54) (As := [.int x1, .int ((4 : Int32) + x2)]) (rest := []) (f_Model_ofHouse_ok hst e10) (Nat.le_trans (by decide) hd) rfl kb_X11_151 ki_X11_ofHouse rfl g6 rfl rfl (Nat.le_of_ble_eq_true rfl) dX11_latest_51 rfl rfl ?_
      refine Rn.aload_n (pc' := 55) dX11_latest_54 rfl 0 rfl rfl ?_
      obtain ⟨g11, E⟩ := gd_of E
      refine Rn.getR (pc' := 58) fl_X11_26_10 g11 rfl dX11_latest_55 rfl ?_
      refine Rn.sipush (pc' := 61) (v := (1454 : Int32)) (hv := by decide) dX11_latest_58 rfl ?_
      refine Rn.aload_n (pc' := 62) dX11_latest_61 rfl 0 rfl rfl ?_
      refine Rn.getI (pc' := 65) fl_X11_49_10 g11 rfl dX11_latest_62 rfl ?_
      refine Rn.iconst (pc' := 66) (v := (1 : Int32)) (hv := by decide) dX11_latest_65 rfl ?_
      refine Rn.isub (pc' := 67) dX11_latest_66 rfl ?_
      refine Rn.imul (pc' := 68) dX11_latest_67 rfl ?_
      refine Rn.sipush (pc' := 71) (v := (345 : Int32)) (hv := by decide) dX11_latest_68 rfl ?_
      refine Rn.iadd (pc' := 72) dX11_latest_71 rfl ?_
      refine Rn.bipush (pc' := 74) (v := (34 : Int32)) (hv := by decide) dX11_latest_72 rfl ?_
      refine Rn.iload_n (pc' := 75) dX11_latest_74 rfl 1 rfl rfl ?_
      refine Rn.imul (pc' := 76) dX11_latest_75 rfl ?_
      refine Rn.iadd (pc' := 77) dX11_latest_76 rfl ?_
      refine Rn.iconst (pc' := 78) (v := (4 : Int32)) (hv := by decide) dX11_latest_77 rfl ?_
      refine Rn.iadd (pc' := 79) dX11_latest_78 rfl ?_
      refine Rn.iload_n (pc' := 80) dX11_latest_79 rfl 2 rfl rfl ?_
      refine Rn.iadd (pc' := 81) dX11_latest_80 rfl ?_
      obtain ⟨g12, E⟩ := gd_of E
      obtain ⟨g13, E⟩ := gd_of E
      refine Rn.iald (pc' := 82) g12 g13 dX11_latest_81 rfl ?_
      refine Rn.isub (pc' := 83) dX11_latest_82 rfl ?_
      cases E
      exact Rn.zret rfl rfl dX11_latest_83
    · replace E := (if_of E).1 c7
      refine Rn.iconst (pc' := 43) (v := (-1 : Int32)) (hv := by decide) dX11_latest_42 rfl ?_
      refine Rn.goto (pc' := 83) dX11_latest_43 (by decide) ?_
      cases E
      exact Rn.zret rfl rfl dX11_latest_83
  · replace E := (if_of E).2 c5
    refine Rn.iconst (pc' := 34) (v := (0 : Int32)) (hv := by decide) dX11_latest_33 rfl ?_
    cases E
    exact Rn.zret rfl rfl dX11_latest_34
def f_Model_latest_b21   (h : Hp) (x0 : Nat) (x1 : Int32) (x2 : Int32) (s0 : Nat) : Option (Int32 × Hp) :=
f_Model_latest_b26   h x0 x1 x2 s0 (1 : Int32)

set_option maxRecDepth 20000 in
set_option maxHeartbeats 4000000 in
theorem f_Model_latest_b21_ok {l : Launch} {X : Nat × (Nat → Int32)} (hst : l.stackTraces = false) {d : Nat} (hd : 2 ≤ d)     {h : Hp} {x0 : Nat} {x1 : Int32} {x2 : Int32} {s0 : Nat} {r : Int32 × Hp} (E : f_Model_latest_b21   h x0 x1 x2 s0 = some r) : Rn l X mX11_latest d 21 [(0, .ref x0), (1, .int x1), (2, .int x2)] [.ref s0] h (eI r) r.2 := by
  unfold f_Model_latest_b21 at E
  refine Rn.iconst (pc' := 22) (v := (1 : Int32)) (hv := by decide) dX11_latest_21 rfl ?_
  refine Rn.goto (pc' := 26) dX11_latest_22 (by decide) ?_
  exact f_Model_latest_b26_ok hst hd   E
theorem kb_X11_293 : KB RX11 293 yX11_noHouse mX11_noHouse 1 := ⟨gw_at 1731 (by decide +kernel) (by decide +kernel), gw_at 117 (by decide +kernel) (by decide +kernel), trivial, ws_X11_noHouse, by decide +kernel, by decide +kernel, by decide +kernel, by decide⟩
theorem ki_X11_noHouse : Cond.instanceMethod yX11_noHouse ∈ gw ∧ Cond.selects yX11_noHouse.cls yX11_noHouse yX11_noHouse ∈ gw := ⟨gw_at 1733 (by decide +kernel) (by decide +kernel), gw_at 81 (by decide +kernel) (by decide +kernel)⟩
theorem kb_X11_290 : KB RX11 290 yX11_noYear mX11_noYear 1 := ⟨gw_at 1720 (by decide +kernel) (by decide +kernel), gw_at 117 (by decide +kernel) (by decide +kernel), trivial, ws_X11_noYear, by decide +kernel, by decide +kernel, by decide +kernel, by decide⟩
theorem ks_X11_noYear : Cond.static yX11_noYear ∈ gw := gw_at 1721 (by decide +kernel) (by decide +kernel)
def f_Model_latest_b0   (h : Hp) (x0 : Nat) (x1 : Int32) (x2 : Int32)  : Option (Int32 × Hp) :=
if hS h x0 = 11 then (
wr (sI h x0 0 (0 : Int32)) fun h2 =>
bI (f_Model_noHouse h2 x0 x1) fun v4 h5 =>
if v4 = 0 then (
bI (f_Model_noYear h5 x2) fun v8 h9 =>
if v8 = 0 then (
f_Model_latest_b26   h9 x0 x1 x2 x0 (0 : Int32)

) else (
f_Model_latest_b21   h9 x0 x1 x2 x0

)

) else (
f_Model_latest_b21   h5 x0 x1 x2 x0

)
) else none
set_option maxRecDepth 20000 in
set_option maxHeartbeats 4000000 in
theorem f_Model_latest_b0_ok {l : Launch} {X : Nat × (Nat → Int32)} (hst : l.stackTraces = false) {d : Nat} (hd : 2 ≤ d)     {h : Hp} {x0 : Nat} {x1 : Int32} {x2 : Int32}  {r : Int32 × Hp} (E : f_Model_latest_b0   h x0 x1 x2 = some r) : Rn l X mX11_latest d 0 [(0, .ref x0), (1, .int x1), (2, .int x2)] [] h (eI r) r.2 := by
  unfold f_Model_latest_b0 at E
  refine Rn.aload_n (pc' := 1) dX11_latest_0 rfl 0 rfl rfl ?_
  refine Rn.iconst (pc' := 2) (v := (0 : Int32)) (hv := by decide) dX11_latest_1 rfl ?_
  obtain ⟨g1, E⟩ := gd_of E
  refine Rn.putI (pc' := 5) fl_X11_3_10 (fun q hq => by cases hq; decide) g1 rfl rfl rfl dX11_latest_2 rfl ?_
  replace E := wr_of E
  generalize eh3 : sI h x0 0 (0 : Int32) = h2 at E ⊢
  refine Rn.aload_n (pc' := 6) dX11_latest_5 rfl 0 rfl rfl ?_
  refine Rn.aload_n (pc' := 7) dX11_latest_6 rfl 0 rfl rfl ?_
  refine Rn.iload_n (pc' := 8) dX11_latest_7 rfl 1 rfl rfl ?_
  obtain ⟨v4, h5, e6, E⟩ := bI_of E
  refine Rn.callV1 (pc' := 11) (As := [.int x1]) (rest := [.ref x0]) (f_Model_noHouse_ok hst e6) (Nat.le_trans (by decide) hd) rfl kb_X11_293 ki_X11_noHouse rfl (kp_sI eh3 g1) rfl rfl (Nat.le_of_ble_eq_true rfl) dX11_latest_8 rfl rfl ?_
  refine Rn.if_ne (pc' := 14) (tgt := 21) dX11_latest_11 (by decide) rfl (fun c7 => ?_) (fun c7 => ?_)
  · replace E := (if_of E).2 c7
    exact f_Model_latest_b21_ok hst hd   E
  · replace E := (if_of E).1 c7
    refine Rn.iload_n (pc' := 15) dX11_latest_14 rfl 2 rfl rfl ?_
    obtain ⟨v8, h9, e10, E⟩ := bI_of E
    refine Rn.callS1 (pc' := 18) (As := [.int x2]) (rest := [.ref x0]) (f_Model_noYear_ok hst e10) (Nat.le_trans (by decide) hd) rfl kb_X11_290 ks_X11_noYear rfl rfl (Nat.le_of_ble_eq_true rfl) dX11_latest_15 rfl rfl ?_
    refine Rn.if_eq (pc' := 21) (tgt := 25) dX11_latest_18 (by decide) rfl (fun c11 => ?_) (fun c11 => ?_)
    · replace E := (if_of E).1 c11
      refine Rn.iconst (pc' := 26) (v := (0 : Int32)) (hv := by decide) dX11_latest_25 rfl ?_
      exact f_Model_latest_b26_ok hst hd   E
    · replace E := (if_of E).2 c11
      exact f_Model_latest_b21_ok hst hd   E
def f_Model_latest (h : Hp) (x0 : Nat) (x1 : Int32) (x2 : Int32) : Option (Int32 × Hp) := f_Model_latest_b0  h x0 x1 x2
theorem f_Model_latest_ok {l : Launch} {X : Nat × (Nat → Int32)} (hst : l.stackTraces = false) {h : Hp} {x0 : Nat} {x1 : Int32} {x2 : Int32} {r : Int32 × Hp} (E : f_Model_latest h x0 x1 x2 = some r) : MC l X yX11_latest mX11_latest 2 [.ref x0, .int x1, .int x2] h (eI r) r.2 :=
  MC.body (by decide +kernel) rfl (by decide) hst (Nat.le_of_ble_eq_true rfl) (f_Model_latest_b0_ok hst (Nat.le_refl _) E)
abbrev mX11_thrown : MI := (RX11, cX11_thrown, 1, (some Jvm.ClassFile.FieldType.int), [], false)
theorem ws_X11_thrown : ∀ w ∈ wsM yX11_thrown mX11_thrown, w ∈ gw := List.forall_mem_cons.mpr ⟨gw_at 1419 (by decide +kernel) (by decide +kernel), fun _ h => h⟩
def f_Model_thrown_b0   (h : Hp) (x0 : Nat)  : Option (Int32 × Hp) :=
if hS h x0 = 11 then (
some ((hI h x0 0), h)
) else none
set_option maxRecDepth 20000 in
set_option maxHeartbeats 4000000 in
theorem f_Model_thrown_b0_ok {l : Launch} {X : Nat × (Nat → Int32)} (hst : l.stackTraces = false) {d : Nat} (hd : 0 ≤ d)     {h : Hp} {x0 : Nat}  {r : Int32 × Hp} (E : f_Model_thrown_b0   h x0 = some r) : Rn l X mX11_thrown d 0 [(0, .ref x0)] [] h (eI r) r.2 := by
  unfold f_Model_thrown_b0 at E
  refine Rn.aload_n (pc' := 1) dX11_thrown_0 rfl 0 rfl rfl ?_
  obtain ⟨g1, E⟩ := gd_of E
  refine Rn.getI (pc' := 4) fl_X11_3_10 g1 rfl dX11_thrown_1 rfl ?_
  cases E
  exact Rn.zret rfl rfl dX11_thrown_4
def f_Model_thrown (h : Hp) (x0 : Nat) : Option (Int32 × Hp) := f_Model_thrown_b0  h x0
theorem f_Model_thrown_ok {l : Launch} {X : Nat × (Nat → Int32)} (hst : l.stackTraces = false) {h : Hp} {x0 : Nat} {r : Int32 × Hp} (E : f_Model_thrown h x0 = some r) : MC l X yX11_thrown mX11_thrown 0 [.ref x0] h (eI r) r.2 :=
  MC.body (by decide +kernel) rfl (by decide) hst (Nat.le_of_ble_eq_true rfl) (f_Model_thrown_b0_ok hst (Nat.le_refl _) E)
abbrev mJ9_max_7cf53 : MI := (RJ9, cJ9_max_7cf53, 2, (some Jvm.ClassFile.FieldType.int), [], false)
theorem ws_J9_max_7cf53 : ∀ w ∈ wsM yJ9_max_7cf53 mJ9_max_7cf53, w ∈ gw := List.forall_mem_cons.mpr ⟨gw_at 526 (by decide +kernel) (by decide +kernel), fun _ h => h⟩
def f_Math_max_b0   (h : Hp) (x0 : Int32) (x1 : Int32)  : Option (Int32 × Hp) :=
if x0 < x1 then (
some (x1, h)

) else (
some (x0, h)

)

set_option maxRecDepth 20000 in
set_option maxHeartbeats 4000000 in
theorem f_Math_max_b0_ok {l : Launch} {X : Nat × (Nat → Int32)} (hst : l.stackTraces = false) {d : Nat} (hd : 0 ≤ d)     {h : Hp} {x0 : Int32} {x1 : Int32}  {r : Int32 × Hp} (E : f_Math_max_b0   h x0 x1 = some r) : Rn l X mJ9_max_7cf53 d 0 [(0, .int x0), (1, .int x1)] [] h (eI r) r.2 := by
  unfold f_Math_max_b0 at E
  refine Rn.iload_n (pc' := 1) dJ9_max_7cf53_0 rfl 0 rfl rfl ?_
  refine Rn.iload_n (pc' := 2) dJ9_max_7cf53_1 rfl 1 rfl rfl ?_
  refine Rn.icmp_lt (pc' := 5) (tgt := 9) dJ9_max_7cf53_2 (by decide) rfl (fun c1 => ?_) (fun c1 => ?_)
  · replace E := (if_of E).1 c1
    refine Rn.iload_n (pc' := 10) dJ9_max_7cf53_9 rfl 1 rfl rfl ?_
    cases E
    exact Rn.zret rfl rfl dJ9_max_7cf53_10
  · replace E := (if_of E).2 c1
    refine Rn.iload_n (pc' := 6) dJ9_max_7cf53_5 rfl 0 rfl rfl ?_
    refine Rn.goto (pc' := 10) dJ9_max_7cf53_6 (by decide) ?_
    cases E
    exact Rn.zret rfl rfl dJ9_max_7cf53_10
def f_Math_max (h : Hp) (x0 : Int32) (x1 : Int32) : Option (Int32 × Hp) := f_Math_max_b0  h x0 x1
theorem f_Math_max_ok {l : Launch} {X : Nat × (Nat → Int32)} (hst : l.stackTraces = false) {h : Hp} {x0 : Int32} {x1 : Int32} {r : Int32 × Hp} (E : f_Math_max h x0 x1 = some r) : MC l X yJ9_max_7cf53 mJ9_max_7cf53 0 [.int x0, .int x1] h (eI r) r.2 :=
  MC.body (by decide +kernel) rfl (by decide) hst (Nat.le_of_ble_eq_true rfl) (f_Math_max_b0_ok hst (Nat.le_refl _) E)
abbrev mX0_free : MI := (RX0, cX0_free, 1, (some Jvm.ClassFile.FieldType.int), [], false)
theorem ws_X0_free : ∀ w ∈ wsM yX0_free mX0_free, w ∈ gw := List.forall_mem_cons.mpr ⟨gw_at 557 (by decide +kernel) (by decide +kernel), fun _ h => h⟩
theorem kb_X0_47 : KB RX0 47 yJ9_max_7cf53 mJ9_max_7cf53 2 := ⟨gw_at 558 (by decide +kernel) (by decide +kernel), gw_at 128 (by decide +kernel) (by decide +kernel), trivial, ws_J9_max_7cf53, by decide +kernel, by decide +kernel, by decide +kernel, by decide⟩
theorem ks_J9_max_7cf53 : Cond.static yJ9_max_7cf53 ∈ gw := gw_at 525 (by decide +kernel) (by decide +kernel)
def f_Cistern_free_b0   (h : Hp) (x0 : Nat)  : Option (Int32 × Hp) :=
if hS h x0 = 1 then (
bI (f_Math_max h (0 : Int32) ((hI h x0 0) - (hI h x0 5))) fun v2 h3 =>
some (v2, h3)
) else none
set_option maxRecDepth 20000 in
set_option maxHeartbeats 4000000 in
theorem f_Cistern_free_b0_ok {l : Launch} {X : Nat × (Nat → Int32)} (hst : l.stackTraces = false) {d : Nat} (hd : 1 ≤ d)     {h : Hp} {x0 : Nat}  {r : Int32 × Hp} (E : f_Cistern_free_b0   h x0 = some r) : Rn l X mX0_free d 0 [(0, .ref x0)] [] h (eI r) r.2 := by
  unfold f_Cistern_free_b0 at E
  refine Rn.iconst (pc' := 1) (v := (0 : Int32)) (hv := by decide) dX0_free_0 rfl ?_
  refine Rn.aload_n (pc' := 2) dX0_free_1 rfl 0 rfl rfl ?_
  obtain ⟨g1, E⟩ := gd_of E
  refine Rn.getI (pc' := 5) fl_X0_15_0 g1 rfl dX0_free_2 rfl ?_
  refine Rn.aload_n (pc' := 6) dX0_free_5 rfl 0 rfl rfl ?_
  refine Rn.getI (pc' := 9) fl_X0_32_0 g1 rfl dX0_free_6 rfl ?_
  refine Rn.isub (pc' := 10) dX0_free_9 rfl ?_
  obtain ⟨v2, h3, e4, E⟩ := bI_of E
  refine Rn.callS1 (pc' := 13) (As := [.int (0 : Int32), .int ((hI h x0 0) - (hI h x0 5))]) (rest := []) (f_Math_max_ok hst e4) (Nat.le_trans (by decide) hd) rfl kb_X0_47 ks_J9_max_7cf53 rfl rfl (Nat.le_of_ble_eq_true rfl) dX0_free_10 rfl rfl ?_
  cases E
  exact Rn.zret rfl rfl dX0_free_13
def f_Cistern_free (h : Hp) (x0 : Nat) : Option (Int32 × Hp) := f_Cistern_free_b0  h x0
theorem f_Cistern_free_ok {l : Launch} {X : Nat × (Nat → Int32)} (hst : l.stackTraces = false) {h : Hp} {x0 : Nat} {r : Int32 × Hp} (E : f_Cistern_free h x0 = some r) : MC l X yX0_free mX0_free 1 [.ref x0] h (eI r) r.2 :=
  MC.body (by decide +kernel) rfl (by decide) hst (Nat.le_of_ble_eq_true rfl) (f_Cistern_free_b0_ok hst (Nat.le_refl _) E)
abbrev mX0_put : MI := (RX0, cX0_put, 3, none, [], false)
theorem ws_X0_put : ∀ w ∈ wsM yX0_put mX0_put, w ∈ gw := List.forall_mem_cons.mpr ⟨gw_at 578 (by decide +kernel) (by decide +kernel), fun _ h => h⟩
def f_Cistern_put_b0   (h : Hp) (x0 : Nat) (x1 : Int32) (x2 : Int32)  : Option (Hp) :=
if x1 < 0 then (
some h

) else (
if (30 : Int32) ≤ x1 then (
some h

) else (
if hS h x0 = 1 then (
if hS h (hR h x0 6) = 20 then (
if ib x1 (hL h (hR h x0 6)) = true then (
if ib x1 (hL h (hR h x0 6)) = true then (
wr (sI h (hR h x0 6) (ix x1) ((hI h (hR h x0 6) (ix x1)) + x2)) fun h7 =>
wr (sI h7 x0 5 ((hI h7 x0 5) + x2)) fun h9 =>
some h9
) else none) else none) else none) else none
)

)

set_option maxRecDepth 20000 in
set_option maxHeartbeats 4000000 in
theorem f_Cistern_put_b0_ok {l : Launch} {X : Nat × (Nat → Int32)} (hst : l.stackTraces = false) {d : Nat} (hd : 0 ≤ d)     {h : Hp} {x0 : Nat} {x1 : Int32} {x2 : Int32}  {r : Hp} (E : f_Cistern_put_b0   h x0 x1 x2 = some r) : Rn l X mX0_put d 0 [(0, .ref x0), (1, .int x1), (2, .int x2)] [] h (eV r) r := by
  unfold f_Cistern_put_b0 at E
  refine Rn.iload_n (pc' := 1) dX0_put_0 rfl 1 rfl rfl ?_
  refine Rn.if_lt (pc' := 4) (tgt := 30) dX0_put_1 (by decide) rfl (fun c1 => ?_) (fun c1 => ?_)
  · replace E := (if_of E).1 c1
    cases E
    exact Rn.vret rfl dX0_put_30
  · replace E := (if_of E).2 c1
    refine Rn.iload_n (pc' := 5) dX0_put_4 rfl 1 rfl rfl ?_
    refine Rn.bipush (pc' := 7) (v := (30 : Int32)) (hv := by decide) dX0_put_5 rfl ?_
    refine Rn.icmp_ge (pc' := 10) (tgt := 30) dX0_put_7 (by decide) rfl (fun c2 => ?_) (fun c2 => ?_)
    · replace E := (if_of E).1 c2
      cases E
      exact Rn.vret rfl dX0_put_30
    · replace E := (if_of E).2 c2
      refine Rn.aload_n (pc' := 11) dX0_put_10 rfl 0 rfl rfl ?_
      obtain ⟨g3, E⟩ := gd_of E
      refine Rn.getR (pc' := 14) fl_X0_9_0 g3 rfl dX0_put_11 rfl ?_
      refine Rn.iload_n (pc' := 15) dX0_put_14 rfl 1 rfl rfl ?_
      refine Rn.dup2 (pc' := 16) (hc := rfl) (hd := rfl) dX0_put_15 rfl ?_
      obtain ⟨g4, E⟩ := gd_of E
      obtain ⟨g5, E⟩ := gd_of E
      refine Rn.iald (pc' := 17) g4 g5 dX0_put_16 rfl ?_
      refine Rn.iload_n (pc' := 18) dX0_put_17 rfl 2 rfl rfl ?_
      refine Rn.iadd (pc' := 19) dX0_put_18 rfl ?_
      obtain ⟨g6, E⟩ := gd_of E
      refine Rn.iast (pc' := 20) g4 g6 dX0_put_19 rfl ?_
      replace E := wr_of E
      generalize eh8 : sI h (hR h x0 6) (ix x1) ((hI h (hR h x0 6) (ix x1)) + x2) = h7 at E ⊢
      refine Rn.aload_n (pc' := 21) dX0_put_20 rfl 0 rfl rfl ?_
      refine Rn.dup (pc' := 22) (hc := rfl) dX0_put_21 rfl ?_
      refine Rn.getI (pc' := 25) fl_X0_32_0 (kp_sI eh8 g3) rfl dX0_put_22 rfl ?_
      refine Rn.iload_n (pc' := 26) dX0_put_25 rfl 2 rfl rfl ?_
      refine Rn.iadd (pc' := 27) dX0_put_26 rfl ?_
      refine Rn.putI (pc' := 30) fl_X0_32_0 (fun q hq => by cases hq; decide) (kp_sI eh8 g3) rfl rfl rfl dX0_put_27 rfl ?_
      replace E := wr_of E
      generalize eh10 : sI h7 x0 5 ((hI h7 x0 5) + x2) = h9 at E ⊢
      cases E
      exact Rn.vret rfl dX0_put_30
def f_Cistern_put (h : Hp) (x0 : Nat) (x1 : Int32) (x2 : Int32) : Option (Hp) := f_Cistern_put_b0  h x0 x1 x2
theorem f_Cistern_put_ok {l : Launch} {X : Nat × (Nat → Int32)} (hst : l.stackTraces = false) {h : Hp} {x0 : Nat} {x1 : Int32} {x2 : Int32} {r : Hp} (E : f_Cistern_put h x0 x1 x2 = some r) : MC l X yX0_put mX0_put 0 [.ref x0, .int x1, .int x2] h (eV r) r :=
  MC.body (by decide +kernel) rfl (by decide) hst (Nat.le_of_ble_eq_true rfl) (f_Cistern_put_b0_ok hst (Nat.le_refl _) E)
abbrev mX3_fillFirstEmpty : MI := (RX3, cX3_fillFirstEmpty, 5, (some Jvm.ClassFile.FieldType.int), [], false)
theorem ws_X3_fillFirstEmpty : ∀ w ∈ wsM yX3_fillFirstEmpty mX3_fillFirstEmpty, w ∈ gw := List.forall_mem_cons.mpr ⟨gw_at 1253 (by decide +kernel) (by decide +kernel), fun _ h => h⟩
def f_Land_fillFirstEmpty_b81  (k12 : Hp → Nat → Int32 → Int32 → Option (Int32 × Hp)) (h : Hp) (x0 : Nat) (x1 : Int32) (x2 : Int32)  : Option (Int32 × Hp) :=
k12 h x0 x1 (x2 + (1 : Int32))

set_option maxRecDepth 20000 in
set_option maxHeartbeats 4000000 in
theorem f_Land_fillFirstEmpty_b81_ok {l : Launch} {X : Nat × (Nat → Int32)} (hst : l.stackTraces = false) {d : Nat} (hd : 2 ≤ d)   {k12 : Hp → Nat → Int32 → Int32 → Option (Int32 × Hp)} (hk12 : ∀ (h : Hp) (x0 : Nat) (x1 : Int32) (x2 : Int32)  (r : Int32 × Hp), k12 h x0 x1 x2 = some r → Rn l X mX3_fillFirstEmpty d 12 [(0, .ref x0), (1, .int x1), (2, .int x2)] [] h (eI r) r.2) {h : Hp} {x0 : Nat} {x1 : Int32} {x2 : Int32}  {r : Int32 × Hp} (E : f_Land_fillFirstEmpty_b81  k12 h x0 x1 x2 = some r) : Rn l X mX3_fillFirstEmpty d 81 [(0, .ref x0), (1, .int x1), (2, .int x2)] [] h (eI r) r.2 := by
  unfold f_Land_fillFirstEmpty_b81 at E
  refine Rn.iinc (pc' := 84) (v := (x2 + (1 : Int32))) (L' := [(2, .int (x2 + (1 : Int32))), (0, .ref x0), (1, .int x1)]) dX3_fillFirstEmpty_81 2 rfl rfl (by decide) rfl rfl ?_
  refine Rn.goto (pc' := 12) dX3_fillFirstEmpty_84 (by decide) ?_
  refine Rn.sub [1, 2, 0] rfl ?_
  exact hk12 _ _ _ _ _ E
theorem fl_X3_129_0 : FL RX3 129 0 2 := ⟨_, rfl, by decide, "VintageWater$Cistern", gw_at 277 (by decide +kernel) (by decide +kernel), Or.inl rfl⟩
theorem kb_X3_110 : KB RX3 110 yX0_free mX0_free 0 := ⟨gw_at 554 (by decide +kernel) (by decide +kernel), gw_at 114 (by decide +kernel) (by decide +kernel), trivial, ws_X0_free, by decide +kernel, by decide +kernel, by decide +kernel, by decide⟩
theorem ki_X0_free : Cond.instanceMethod yX0_free ∈ gw ∧ Cond.selects yX0_free.cls yX0_free yX0_free ∈ gw := ⟨gw_at 555 (by decide +kernel) (by decide +kernel), gw_at 556 (by decide +kernel) (by decide +kernel)⟩
theorem kb_X3_206 : KB RX3 206 yX3_yearNow mX3_yearNow 0 := ⟨gw_at 595 (by decide +kernel) (by decide +kernel), gw_at 113 (by decide +kernel) (by decide +kernel), trivial, ws_X3_yearNow, by decide +kernel, by decide +kernel, by decide +kernel, by decide⟩
theorem kb_X3_120 : KB RX3 120 yX0_put mX0_put 2 := ⟨gw_at 1028 (by decide +kernel) (by decide +kernel), gw_at 114 (by decide +kernel) (by decide +kernel), trivial, ws_X0_put, by decide +kernel, by decide +kernel, by decide +kernel, by decide⟩
theorem ki_X0_put : Cond.instanceMethod yX0_put ∈ gw ∧ Cond.selects yX0_put.cls yX0_put yX0_put ∈ gw := ⟨gw_at 576 (by decide +kernel) (by decide +kernel), gw_at 577 (by decide +kernel) (by decide +kernel)⟩
def f_Land_fillFirstEmpty_b12  (k12 : Hp → Nat → Int32 → Int32 → Option (Int32 × Hp)) (h : Hp) (x0 : Nat) (x1 : Int32) (x2 : Int32)  : Option (Int32 × Hp) :=
if hS h x0 = 4 then (
if (hI h x0 0) ≤ x2 then (
wr (sI h x0 13 ((hI h x0 13) + x1)) fun h3 =>
some ((-1 : Int32), h3)

) else (
if hS h (hR h x0 3) = 23 then (
if ib x2 (hL h (hR h x0 3)) = true then (
if hS h (hR h (hR h x0 3) (ix x2)) = 1 then (
if (hI h (hR h (hR h x0 3) (ix x2)) 5) = 0 then (
if (hI h (hR h (hR h x0 3) (ix x2)) 2) = 0 then (
bI (f_Cistern_free h (hR h (hR h x0 3) (ix x2))) fun v10 h11 =>
bI (f_Math_min h11 x1 v10) fun v13 h14 =>
if hS h14 x0 = 4 then (
bI (f_Land_yearNow h14 x0) fun v17 h18 =>
if hS h18 (hR h (hR h x0 3) (ix x2)) = 1 then (
bV (f_Cistern_put h18 (hR h (hR h x0 3) (ix x2)) v17 v13) fun h22 =>
if hS h22 x0 = 4 then (
wr (sI h22 x0 13 ((hI h22 x0 13) + (x1 - v13))) fun h25 =>
if hS h25 (hR h (hR h x0 3) (ix x2)) = 1 then (
wr (sI h25 (hR h (hR h x0 3) (ix x2)) 2 (1 : Int32)) fun h28 =>
some (x2, h28)
) else none) else none) else none) else none
) else (
f_Land_fillFirstEmpty_b81  k12 h x0 x1 x2

)

) else (
f_Land_fillFirstEmpty_b81  k12 h x0 x1 x2

)
) else none) else none) else none
)
) else none
set_option maxRecDepth 20000 in
set_option maxHeartbeats 4000000 in
theorem f_Land_fillFirstEmpty_b12_ok {l : Launch} {X : Nat × (Nat → Int32)} (hst : l.stackTraces = false) {d : Nat} (hd : 2 ≤ d)   {k12 : Hp → Nat → Int32 → Int32 → Option (Int32 × Hp)} (hk12 : ∀ (h : Hp) (x0 : Nat) (x1 : Int32) (x2 : Int32)  (r : Int32 × Hp), k12 h x0 x1 x2 = some r → Rn l X mX3_fillFirstEmpty d 12 [(0, .ref x0), (1, .int x1), (2, .int x2)] [] h (eI r) r.2) {h : Hp} {x0 : Nat} {x1 : Int32} {x2 : Int32}  {r : Int32 × Hp} (E : f_Land_fillFirstEmpty_b12  k12 h x0 x1 x2 = some r) : Rn l X mX3_fillFirstEmpty d 12 [(0, .ref x0), (1, .int x1), (2, .int x2)] [] h (eI r) r.2 := by
  unfold f_Land_fillFirstEmpty_b12 at E
  refine Rn.iload_n (pc' := 13) dX3_fillFirstEmpty_12 rfl 2 rfl rfl ?_
  refine Rn.aload_n (pc' := 14) dX3_fillFirstEmpty_13 rfl 0 rfl rfl ?_
  obtain ⟨g1, E⟩ := gd_of E
  refine Rn.getI (pc' := 17) fl_X3_43_3 g1 rfl dX3_fillFirstEmpty_14 rfl ?_
  refine Rn.icmp_ge (pc' := 20) (tgt := 87) dX3_fillFirstEmpty_17 (by decide) rfl (fun c2 => ?_) (fun c2 => ?_)
  · replace E := (if_of E).1 c2
    refine Rn.aload_n (pc' := 88) dX3_fillFirstEmpty_87 rfl 0 rfl rfl ?_
    refine Rn.dup (pc' := 89) (hc := rfl) dX3_fillFirstEmpty_88 rfl ?_
    refine Rn.getI (pc' := 92) fl_X3_81_3 g1 rfl dX3_fillFirstEmpty_89 rfl ?_
    refine Rn.iload_n (pc' := 93) dX3_fillFirstEmpty_92 rfl 1 rfl rfl ?_
    refine Rn.iadd (pc' := 94) dX3_fillFirstEmpty_93 rfl ?_
    refine Rn.putI (pc' := 97) fl_X3_81_3 (fun q hq => by cases hq; decide) g1 rfl rfl rfl dX3_fillFirstEmpty_94 rfl ?_
    replace E := wr_of E
    generalize eh4 : sI h x0 13 ((hI h x0 13) + x1) = h3 at E ⊢
    refine Rn.iconst (pc' := 98) (v := (-1 : Int32)) (hv := by decide) dX3_fillFirstEmpty_97 rfl ?_
    cases E
    exact Rn.zret rfl rfl dX3_fillFirstEmpty_98
  · replace E := (if_of E).2 c2
    refine Rn.aload_n (pc' := 21) dX3_fillFirstEmpty_20 rfl 0 rfl rfl ?_
    refine Rn.getR (pc' := 24) fl_X3_11_3 g1 rfl dX3_fillFirstEmpty_21 rfl ?_
    refine Rn.iload_n (pc' := 25) dX3_fillFirstEmpty_24 rfl 2 rfl rfl ?_
    obtain ⟨g5, E⟩ := gd_of E
    obtain ⟨g6, E⟩ := gd_of E
    refine Rn.aald (pc' := 26) g5 (by decide) (by decide) g6 dX3_fillFirstEmpty_25 rfl ?_
    refine Rn.astore_n (pc' := 27) (L' := [(3, .ref (hR h (hR h x0 3) (ix x2))), (0, .ref x0), (1, .int x1), (2, .int x2)]) dX3_fillFirstEmpty_26 rfl (by decide) rfl rfl ?_
    refine Rn.aload_n (pc' := 28) dX3_fillFirstEmpty_27 rfl 0 rfl rfl ?_
    obtain ⟨g7, E⟩ := gd_of E
    refine Rn.getI (pc' := 31) fl_X3_160_0 g7 rfl dX3_fillFirstEmpty_28 rfl ?_
    refine Rn.if_ne (pc' := 34) (tgt := 81) dX3_fillFirstEmpty_31 (by decide) rfl (fun c8 => ?_) (fun c8 => ?_)
    · replace E := (if_of E).2 c8
      refine Rn.sub [1, 2, 3] rfl ?_
      exact f_Land_fillFirstEmpty_b81_ok hst hd  hk12 E
    · replace E := (if_of E).1 c8
      refine Rn.aload_n (pc' := 35) dX3_fillFirstEmpty_34 rfl 0 rfl rfl ?_
      refine Rn.getI (pc' := 38) fl_X3_129_0 g7 rfl dX3_fillFirstEmpty_35 rfl ?_
      refine Rn.if_ne (pc' := 41) (tgt := 81) dX3_fillFirstEmpty_38 (by decide) rfl (fun c9 => ?_) (fun c9 => ?_)
      · replace E := (if_of E).2 c9
        refine Rn.sub [1, 2, 3] rfl ?_
        exact f_Land_fillFirstEmpty_b81_ok hst hd  hk12 E
      · replace E := (if_of E).1 c9
        refine Rn.iload_n (pc' := 42) dX3_fillFirstEmpty_41 rfl 2 rfl rfl ?_
        refine Rn.aload_n (pc' := 43) dX3_fillFirstEmpty_42 rfl 0 rfl rfl ?_
        obtain ⟨v10, h11, e12, E⟩ := bI_of E
        refine Rn.callV1 (pc' := 46) (As := []) (rest := [.int x1]) (f_Cistern_free_ok hst e12) (Nat.le_trans (by decide) hd) rfl kb_X3_110 ki_X0_free rfl g7 rfl rfl (Nat.le_of_ble_eq_true rfl) dX3_fillFirstEmpty_43 rfl rfl ?_
        obtain ⟨v13, h14, e15, E⟩ := bI_of E
        refine Rn.callS1 (pc' := 49) (As := [.int x1, .int v10]) (rest := []) (f_Math_min_ok hst e15) (Nat.le_trans (by decide) hd) rfl kb_X3_114 ks_J9_min_7cf53 rfl rfl (Nat.le_of_ble_eq_true rfl) dX3_fillFirstEmpty_46 rfl rfl ?_
        refine Rn.istore (pc' := 51) (L' := [(4, .int v13), (3, .ref (hR h (hR h x0 3) (ix x2))), (0, .ref x0), (1, .int x1), (2, .int x2)]) dX3_fillFirstEmpty_49 (by decide) rfl rfl ?_
        refine Rn.aload_n (pc' := 52) dX3_fillFirstEmpty_51 rfl 1 rfl rfl ?_
        refine Rn.aload_n (pc' := 53) dX3_fillFirstEmpty_52 rfl 2 rfl rfl ?_
        obtain ⟨g16, E⟩ := gd_of E
        obtain ⟨v17, h18, e19, E⟩ := bI_of E
        refine Rn.callV1 (pc' := 56) (As := []) (rest := [.ref (hR h (hR h x0 3) (ix x2))]) (f_Land_yearNow_ok hst e19) (Nat.le_trans (by decide) hd) rfl kb_X3_206 ki_X3_yearNow rfl g16 rfl rfl (Nat.le_of_ble_eq_true rfl) dX3_fillFirstEmpty_53 rfl rfl ?_
        refine Rn.iload (pc' := 58) dX3_fillFirstEmpty_56 0 rfl rfl ?_
        obtain ⟨g20, E⟩ := gd_of E
        obtain ⟨h22, e23, E⟩ := bV_of E
        refine Rn.callV1 (pc' := 61) (As := [.int v17, .int v13]) (rest := []) (f_Cistern_put_ok hst e23) (Nat.le_trans (by decide) hd) rfl kb_X3_120 ki_X0_put rfl g20 rfl rfl (Nat.le_of_ble_eq_true rfl) dX3_fillFirstEmpty_58 rfl rfl ?_
        refine Rn.aload_n (pc' := 62) dX3_fillFirstEmpty_61 rfl 2 rfl rfl ?_
        refine Rn.dup (pc' := 63) (hc := rfl) dX3_fillFirstEmpty_62 rfl ?_
        obtain ⟨g24, E⟩ := gd_of E
        refine Rn.getI (pc' := 66) fl_X3_81_3 g24 rfl dX3_fillFirstEmpty_63 rfl ?_
        refine Rn.iload_n (pc' := 67) dX3_fillFirstEmpty_66 rfl 3 rfl rfl ?_
        refine Rn.iload (pc' := 69) dX3_fillFirstEmpty_67 0 rfl rfl ?_
        refine Rn.isub (pc' := 70) dX3_fillFirstEmpty_69 rfl ?_
        refine Rn.iadd (pc' := 71) dX3_fillFirstEmpty_70 rfl ?_
        refine Rn.putI (pc' := 74) fl_X3_81_3 (fun q hq => by cases hq; decide) g24 rfl rfl rfl dX3_fillFirstEmpty_71 rfl ?_
        replace E := wr_of E
        generalize eh26 : sI h22 x0 13 ((hI h22 x0 13) + (x1 - v13)) = h25 at E ⊢
        refine Rn.aload_n (pc' := 75) dX3_fillFirstEmpty_74 rfl 1 rfl rfl ?_
        refine Rn.iconst (pc' := 76) (v := (1 : Int32)) (hv := by decide) dX3_fillFirstEmpty_75 rfl ?_
        obtain ⟨g27, E⟩ := gd_of E
        refine Rn.putI (pc' := 79) fl_X3_129_0 (fun q hq => by cases hq; decide) g27 rfl rfl rfl dX3_fillFirstEmpty_76 rfl ?_
        replace E := wr_of E
        generalize eh29 : sI h25 (hR h (hR h x0 3) (ix x2)) 2 (1 : Int32) = h28 at E ⊢
        refine Rn.iload_n (pc' := 80) dX3_fillFirstEmpty_79 rfl 4 rfl rfl ?_
        cases E
        exact Rn.zret rfl rfl dX3_fillFirstEmpty_80
def f_Land_fillFirstEmpty_L12   (n : Nat) : Hp → Nat → Int32 → Int32 → Option (Int32 × Hp) := Nat.rec (motive := fun _ => Hp → Nat → Int32 → Int32 → Option (Int32 × Hp)) (fun _ _ _ _ => none) (fun _ rec => f_Land_fillFirstEmpty_b12   rec) n
theorem f_Land_fillFirstEmpty_L12_ok {l : Launch} {X : Nat × (Nat → Int32)} (hst : l.stackTraces = false) {d : Nat} (hd : 2 ≤ d)     : ∀ (n : Nat) (h : Hp) (x0 : Nat) (x1 : Int32) (x2 : Int32)  (r : Int32 × Hp), f_Land_fillFirstEmpty_L12   n h x0 x1 x2 = some r → Rn l X mX3_fillFirstEmpty d 12 [(0, .ref x0), (1, .int x1), (2, .int x2)] [] h (eI r) r.2 := by
  intro n
  induction n with
  | zero => intro h x0 x1 x2 r E; cases E
  | succ n ih => intro h x0 x1 x2 r E; exact f_Land_fillFirstEmpty_b12_ok hst hd   ih E
def f_Land_fillFirstEmpty_b0   (h : Hp) (x0 : Nat) (x1 : Int32)  : Option (Int32 × Hp) :=
if hS h x0 = 4 then (
wr (sI h x0 14 ((hI h x0 14) + x1)) fun h2 =>
f_Land_fillFirstEmpty_L12   FU h2 x0 x1 (0 : Int32)
) else none
set_option maxRecDepth 20000 in
set_option maxHeartbeats 4000000 in
theorem f_Land_fillFirstEmpty_b0_ok {l : Launch} {X : Nat × (Nat → Int32)} (hst : l.stackTraces = false) {d : Nat} (hd : 2 ≤ d)     {h : Hp} {x0 : Nat} {x1 : Int32}  {r : Int32 × Hp} (E : f_Land_fillFirstEmpty_b0   h x0 x1 = some r) : Rn l X mX3_fillFirstEmpty d 0 [(0, .ref x0), (1, .int x1)] [] h (eI r) r.2 := by
  unfold f_Land_fillFirstEmpty_b0 at E
  refine Rn.aload_n (pc' := 1) dX3_fillFirstEmpty_0 rfl 0 rfl rfl ?_
  refine Rn.dup (pc' := 2) (hc := rfl) dX3_fillFirstEmpty_1 rfl ?_
  obtain ⟨g1, E⟩ := gd_of E
  refine Rn.getI (pc' := 5) fl_X3_84_3 g1 rfl dX3_fillFirstEmpty_2 rfl ?_
  refine Rn.iload_n (pc' := 6) dX3_fillFirstEmpty_5 rfl 1 rfl rfl ?_
  refine Rn.iadd (pc' := 7) dX3_fillFirstEmpty_6 rfl ?_
  refine Rn.putI (pc' := 10) fl_X3_84_3 (fun q hq => by cases hq; decide) g1 rfl rfl rfl dX3_fillFirstEmpty_7 rfl ?_
  replace E := wr_of E
  generalize eh3 : sI h x0 14 ((hI h x0 14) + x1) = h2 at E ⊢
  refine Rn.iconst (pc' := 11) (v := (0 : Int32)) (hv := by decide) dX3_fillFirstEmpty_10 rfl ?_
  refine Rn.istore_n (pc' := 12) (L' := [(2, .int (0 : Int32)), (0, .ref x0), (1, .int x1)]) dX3_fillFirstEmpty_11 rfl (by decide) rfl rfl ?_
  refine Rn.sub [1, 2, 0] rfl ?_
  exact f_Land_fillFirstEmpty_L12_ok hst hd   FU _ _ _ _ _ E
def f_Land_fillFirstEmpty (h : Hp) (x0 : Nat) (x1 : Int32) : Option (Int32 × Hp) := f_Land_fillFirstEmpty_b0  h x0 x1
theorem f_Land_fillFirstEmpty_ok {l : Launch} {X : Nat × (Nat → Int32)} (hst : l.stackTraces = false) {h : Hp} {x0 : Nat} {x1 : Int32} {r : Int32 × Hp} (E : f_Land_fillFirstEmpty h x0 x1 = some r) : MC l X yX3_fillFirstEmpty mX3_fillFirstEmpty 2 [.ref x0, .int x1] h (eI r) r.2 :=
  MC.body (by decide +kernel) rfl (by decide) hst (Nat.le_of_ble_eq_true rfl) (f_Land_fillFirstEmpty_b0_ok hst (Nat.le_refl _) E)
abbrev mX0_measuresAbove : MI := (RX0, cX0_measuresAbove, 4, (some Jvm.ClassFile.FieldType.int), [], false)
theorem ws_X0_measuresAbove : ∀ w ∈ wsM yX0_measuresAbove mX0_measuresAbove, w ∈ gw := List.forall_mem_cons.mpr ⟨gw_at 570 (by decide +kernel) (by decide +kernel), fun _ h => h⟩
def f_Cistern_measuresAbove_b31  (k4 : Hp → Nat → Int32 → Int32 → Int32 → Option (Int32 × Hp)) (h : Hp) (x0 : Nat) (x1 : Int32) (x2 : Int32) (x3 : Int32)  : Option (Int32 × Hp) :=
k4 h x0 x1 x2 (x3 + (1 : Int32))

set_option maxRecDepth 20000 in
set_option maxHeartbeats 4000000 in
theorem f_Cistern_measuresAbove_b31_ok {l : Launch} {X : Nat × (Nat → Int32)} (hst : l.stackTraces = false) {d : Nat} (hd : 0 ≤ d)   {k4 : Hp → Nat → Int32 → Int32 → Int32 → Option (Int32 × Hp)} (hk4 : ∀ (h : Hp) (x0 : Nat) (x1 : Int32) (x2 : Int32) (x3 : Int32)  (r : Int32 × Hp), k4 h x0 x1 x2 x3 = some r → Rn l X mX0_measuresAbove d 4 [(0, .ref x0), (1, .int x1), (2, .int x2), (3, .int x3)] [] h (eI r) r.2) {h : Hp} {x0 : Nat} {x1 : Int32} {x2 : Int32} {x3 : Int32}  {r : Int32 × Hp} (E : f_Cistern_measuresAbove_b31  k4 h x0 x1 x2 x3 = some r) : Rn l X mX0_measuresAbove d 31 [(0, .ref x0), (1, .int x1), (2, .int x2), (3, .int x3)] [] h (eI r) r.2 := by
  unfold f_Cistern_measuresAbove_b31 at E
  refine Rn.iinc (pc' := 34) (v := (x3 + (1 : Int32))) (L' := [(3, .int (x3 + (1 : Int32))), (0, .ref x0), (1, .int x1), (2, .int x2)]) dX0_measuresAbove_31 3 rfl rfl (by decide) rfl rfl ?_
  refine Rn.goto (pc' := 4) dX0_measuresAbove_34 (by decide) ?_
  refine Rn.sub [1, 2, 3, 0] rfl ?_
  exact hk4 _ _ _ _ _ _ E
def f_Cistern_measuresAbove_b4  (k4 : Hp → Nat → Int32 → Int32 → Int32 → Option (Int32 × Hp)) (h : Hp) (x0 : Nat) (x1 : Int32) (x2 : Int32) (x3 : Int32)  : Option (Int32 × Hp) :=
if (30 : Int32) ≤ x3 then (
some (x2, h)

) else (
if hS h x0 = 1 then (
if hS h (hR h x0 6) = 20 then (
if ib x3 (hL h (hR h x0 6)) = true then (
if (hI h (hR h x0 6) (ix x3)) ≤ x1 then (
f_Cistern_measuresAbove_b31  k4 h x0 x1 x2 x3

) else (
if ib x3 (hL h (hR h x0 6)) = true then (
f_Cistern_measuresAbove_b31  k4 h x0 x1 (x2 + ((hI h (hR h x0 6) (ix x3)) - x1)) x3
) else none
)
) else none) else none) else none
)

set_option maxRecDepth 20000 in
set_option maxHeartbeats 4000000 in
theorem f_Cistern_measuresAbove_b4_ok {l : Launch} {X : Nat × (Nat → Int32)} (hst : l.stackTraces = false) {d : Nat} (hd : 0 ≤ d)   {k4 : Hp → Nat → Int32 → Int32 → Int32 → Option (Int32 × Hp)} (hk4 : ∀ (h : Hp) (x0 : Nat) (x1 : Int32) (x2 : Int32) (x3 : Int32)  (r : Int32 × Hp), k4 h x0 x1 x2 x3 = some r → Rn l X mX0_measuresAbove d 4 [(0, .ref x0), (1, .int x1), (2, .int x2), (3, .int x3)] [] h (eI r) r.2) {h : Hp} {x0 : Nat} {x1 : Int32} {x2 : Int32} {x3 : Int32}  {r : Int32 × Hp} (E : f_Cistern_measuresAbove_b4  k4 h x0 x1 x2 x3 = some r) : Rn l X mX0_measuresAbove d 4 [(0, .ref x0), (1, .int x1), (2, .int x2), (3, .int x3)] [] h (eI r) r.2 := by
  unfold f_Cistern_measuresAbove_b4 at E
  refine Rn.iload_n (pc' := 5) dX0_measuresAbove_4 rfl 3 rfl rfl ?_
  refine Rn.bipush (pc' := 7) (v := (30 : Int32)) (hv := by decide) dX0_measuresAbove_5 rfl ?_
  refine Rn.icmp_ge (pc' := 10) (tgt := 37) dX0_measuresAbove_7 (by decide) rfl (fun c1 => ?_) (fun c1 => ?_)
  · replace E := (if_of E).1 c1
    refine Rn.iload_n (pc' := 38) dX0_measuresAbove_37 rfl 2 rfl rfl ?_
    cases E
    exact Rn.zret rfl rfl dX0_measuresAbove_38
  · replace E := (if_of E).2 c1
    refine Rn.aload_n (pc' := 11) dX0_measuresAbove_10 rfl 0 rfl rfl ?_
    obtain ⟨g2, E⟩ := gd_of E
    refine Rn.getR (pc' := 14) fl_X0_9_0 g2 rfl dX0_measuresAbove_11 rfl ?_
    refine Rn.iload_n (pc' := 15) dX0_measuresAbove_14 rfl 3 rfl rfl ?_
    obtain ⟨g3, E⟩ := gd_of E
    obtain ⟨g4, E⟩ := gd_of E
    refine Rn.iald (pc' := 16) g3 g4 dX0_measuresAbove_15 rfl ?_
    refine Rn.iload_n (pc' := 17) dX0_measuresAbove_16 rfl 1 rfl rfl ?_
    refine Rn.icmp_le (pc' := 20) (tgt := 31) dX0_measuresAbove_17 (by decide) rfl (fun c5 => ?_) (fun c5 => ?_)
    · replace E := (if_of E).1 c5
      exact f_Cistern_measuresAbove_b31_ok hst hd  hk4 E
    · replace E := (if_of E).2 c5
      refine Rn.iload_n (pc' := 21) dX0_measuresAbove_20 rfl 2 rfl rfl ?_
      refine Rn.aload_n (pc' := 22) dX0_measuresAbove_21 rfl 0 rfl rfl ?_
      refine Rn.getR (pc' := 25) fl_X0_9_0 g2 rfl dX0_measuresAbove_22 rfl ?_
      refine Rn.iload_n (pc' := 26) dX0_measuresAbove_25 rfl 3 rfl rfl ?_
      obtain ⟨g6, E⟩ := gd_of E
      refine Rn.iald (pc' := 27) g3 g6 dX0_measuresAbove_26 rfl ?_
      refine Rn.iload_n (pc' := 28) dX0_measuresAbove_27 rfl 1 rfl rfl ?_
      refine Rn.isub (pc' := 29) dX0_measuresAbove_28 rfl ?_
      refine Rn.iadd (pc' := 30) dX0_measuresAbove_29 rfl ?_
      refine Rn.istore_n (pc' := 31) (L' := [(2, .int (x2 + ((hI h (hR h x0 6) (ix x3)) - x1))), (0, .ref x0), (1, .int x1), (3, .int x3)]) dX0_measuresAbove_30 rfl (by decide) rfl rfl ?_
      refine Rn.sub [1, 2, 0, 3] rfl ?_
      exact f_Cistern_measuresAbove_b31_ok hst hd  hk4 E
def f_Cistern_measuresAbove_L4   (n : Nat) : Hp → Nat → Int32 → Int32 → Int32 → Option (Int32 × Hp) := Nat.rec (motive := fun _ => Hp → Nat → Int32 → Int32 → Int32 → Option (Int32 × Hp)) (fun _ _ _ _ _ => none) (fun _ rec => f_Cistern_measuresAbove_b4   rec) n
theorem f_Cistern_measuresAbove_L4_ok {l : Launch} {X : Nat × (Nat → Int32)} (hst : l.stackTraces = false) {d : Nat} (hd : 0 ≤ d)     : ∀ (n : Nat) (h : Hp) (x0 : Nat) (x1 : Int32) (x2 : Int32) (x3 : Int32)  (r : Int32 × Hp), f_Cistern_measuresAbove_L4   n h x0 x1 x2 x3 = some r → Rn l X mX0_measuresAbove d 4 [(0, .ref x0), (1, .int x1), (2, .int x2), (3, .int x3)] [] h (eI r) r.2 := by
  intro n
  induction n with
  | zero => intro h x0 x1 x2 x3 r E; cases E
  | succ n ih => intro h x0 x1 x2 x3 r E; exact f_Cistern_measuresAbove_b4_ok hst hd   ih E
def f_Cistern_measuresAbove_b0   (h : Hp) (x0 : Nat) (x1 : Int32)  : Option (Int32 × Hp) :=
f_Cistern_measuresAbove_L4   FU h x0 x1 (0 : Int32) (0 : Int32)

set_option maxRecDepth 20000 in
set_option maxHeartbeats 4000000 in
theorem f_Cistern_measuresAbove_b0_ok {l : Launch} {X : Nat × (Nat → Int32)} (hst : l.stackTraces = false) {d : Nat} (hd : 0 ≤ d)     {h : Hp} {x0 : Nat} {x1 : Int32}  {r : Int32 × Hp} (E : f_Cistern_measuresAbove_b0   h x0 x1 = some r) : Rn l X mX0_measuresAbove d 0 [(0, .ref x0), (1, .int x1)] [] h (eI r) r.2 := by
  unfold f_Cistern_measuresAbove_b0 at E
  refine Rn.iconst (pc' := 1) (v := (0 : Int32)) (hv := by decide) dX0_measuresAbove_0 rfl ?_
  refine Rn.istore_n (pc' := 2) (L' := [(2, .int (0 : Int32)), (0, .ref x0), (1, .int x1)]) dX0_measuresAbove_1 rfl (by decide) rfl rfl ?_
  refine Rn.iconst (pc' := 3) (v := (0 : Int32)) (hv := by decide) dX0_measuresAbove_2 rfl ?_
  refine Rn.istore_n (pc' := 4) (L' := [(3, .int (0 : Int32)), (2, .int (0 : Int32)), (0, .ref x0), (1, .int x1)]) dX0_measuresAbove_3 rfl (by decide) rfl rfl ?_
  refine Rn.sub [2, 3, 1, 0] rfl ?_
  exact f_Cistern_measuresAbove_L4_ok hst hd   FU _ _ _ _ _ _ E
def f_Cistern_measuresAbove (h : Hp) (x0 : Nat) (x1 : Int32) : Option (Int32 × Hp) := f_Cistern_measuresAbove_b0  h x0 x1
theorem f_Cistern_measuresAbove_ok {l : Launch} {X : Nat × (Nat → Int32)} (hst : l.stackTraces = false) {h : Hp} {x0 : Nat} {x1 : Int32} {r : Int32 × Hp} (E : f_Cistern_measuresAbove h x0 x1 = some r) : MC l X yX0_measuresAbove mX0_measuresAbove 0 [.ref x0, .int x1] h (eI r) r.2 :=
  MC.body (by decide +kernel) rfl (by decide) hst (Nat.le_of_ble_eq_true rfl) (f_Cistern_measuresAbove_b0_ok hst (Nat.le_refl _) E)
abbrev mX0_levelFor : MI := (RX0, cX0_levelFor, 6, (some Jvm.ClassFile.FieldType.int), [], false)
theorem ws_X0_levelFor : ∀ w ∈ wsM yX0_levelFor mX0_levelFor, w ∈ gw := List.forall_mem_cons.mpr ⟨gw_at 566 (by decide +kernel) (by decide +kernel), fun _ h => h⟩
def f_Cistern_levelFor_b79  (k38 : Hp → Nat → Int32 → Int32 → Int32 → Int32 → Option (Int32 × Hp)) (h : Hp) (x0 : Nat) (x1 : Int32) (x2 : Int32) (x3 : Int32) (x4 : Int32)  : Option (Int32 × Hp) :=
k38 h x0 x1 x2 x3 (x4 + (1 : Int32))

set_option maxRecDepth 20000 in
set_option maxHeartbeats 4000000 in
theorem f_Cistern_levelFor_b79_ok {l : Launch} {X : Nat × (Nat → Int32)} (hst : l.stackTraces = false) {d : Nat} (hd : 1 ≤ d)   {k38 : Hp → Nat → Int32 → Int32 → Int32 → Int32 → Option (Int32 × Hp)} (hk38 : ∀ (h : Hp) (x0 : Nat) (x1 : Int32) (x2 : Int32) (x3 : Int32) (x4 : Int32)  (r : Int32 × Hp), k38 h x0 x1 x2 x3 x4 = some r → Rn l X mX0_levelFor d 38 [(0, .ref x0), (1, .int x1), (2, .int x2), (3, .int x3), (4, .int x4)] [] h (eI r) r.2) {h : Hp} {x0 : Nat} {x1 : Int32} {x2 : Int32} {x3 : Int32} {x4 : Int32}  {r : Int32 × Hp} (E : f_Cistern_levelFor_b79  k38 h x0 x1 x2 x3 x4 = some r) : Rn l X mX0_levelFor d 79 [(0, .ref x0), (1, .int x1), (2, .int x2), (3, .int x3), (4, .int x4)] [] h (eI r) r.2 := by
  unfold f_Cistern_levelFor_b79 at E
  refine Rn.iinc (pc' := 82) (v := (x4 + (1 : Int32))) (L' := [(4, .int (x4 + (1 : Int32))), (0, .ref x0), (1, .int x1), (2, .int x2), (3, .int x3)]) dX0_levelFor_79 4 rfl rfl (by decide) rfl rfl ?_
  refine Rn.goto (pc' := 38) dX0_levelFor_82 (by decide) ?_
  refine Rn.sub [1, 2, 3, 4, 0] rfl ?_
  exact hk38 _ _ _ _ _ _ _ E
theorem kb_X0_61 : KB RX0 61 yX0_measuresAbove mX0_measuresAbove 1 := ⟨gw_at 567 (by decide +kernel) (by decide +kernel), gw_at 114 (by decide +kernel) (by decide +kernel), trivial, ws_X0_measuresAbove, by decide +kernel, by decide +kernel, by decide +kernel, by decide⟩
theorem ki_X0_measuresAbove : Cond.instanceMethod yX0_measuresAbove ∈ gw ∧ Cond.selects yX0_measuresAbove.cls yX0_measuresAbove yX0_measuresAbove ∈ gw := ⟨gw_at 569 (by decide +kernel) (by decide +kernel), gw_at 1 (by decide +kernel) (by decide +kernel)⟩
def f_Cistern_levelFor_b38  (k38 : Hp → Nat → Int32 → Int32 → Int32 → Int32 → Option (Int32 × Hp)) (h : Hp) (x0 : Nat) (x1 : Int32) (x2 : Int32) (x3 : Int32) (x4 : Int32)  : Option (Int32 × Hp) :=
if (999 : Int32) ≤ x4 then (
some (x2, h)

) else (
if x2 ≤ x3 then (
some (x2, h)

) else (
if hS h x0 = 1 then (
bI (f_Cistern_measuresAbove h x0 ((x3 + x2) / (2 : Int32))) fun v4 h5 =>
if x1 < v4 then (
f_Cistern_levelFor_b79  k38 h5 x0 x1 x2 (((x3 + x2) / (2 : Int32)) + (1 : Int32)) x4

) else (
f_Cistern_levelFor_b79  k38 h5 x0 x1 ((x3 + x2) / (2 : Int32)) x3 x4

)
) else none
)

)

set_option maxRecDepth 20000 in
set_option maxHeartbeats 4000000 in
theorem f_Cistern_levelFor_b38_ok {l : Launch} {X : Nat × (Nat → Int32)} (hst : l.stackTraces = false) {d : Nat} (hd : 1 ≤ d)   {k38 : Hp → Nat → Int32 → Int32 → Int32 → Int32 → Option (Int32 × Hp)} (hk38 : ∀ (h : Hp) (x0 : Nat) (x1 : Int32) (x2 : Int32) (x3 : Int32) (x4 : Int32)  (r : Int32 × Hp), k38 h x0 x1 x2 x3 x4 = some r → Rn l X mX0_levelFor d 38 [(0, .ref x0), (1, .int x1), (2, .int x2), (3, .int x3), (4, .int x4)] [] h (eI r) r.2) {h : Hp} {x0 : Nat} {x1 : Int32} {x2 : Int32} {x3 : Int32} {x4 : Int32}  {r : Int32 × Hp} (E : f_Cistern_levelFor_b38  k38 h x0 x1 x2 x3 x4 = some r) : Rn l X mX0_levelFor d 38 [(0, .ref x0), (1, .int x1), (2, .int x2), (3, .int x3), (4, .int x4)] [] h (eI r) r.2 := by
  unfold f_Cistern_levelFor_b38 at E
  refine Rn.iload (pc' := 40) dX0_levelFor_38 4 rfl rfl ?_
  refine Rn.sipush (pc' := 43) (v := (999 : Int32)) (hv := by decide) dX0_levelFor_40 rfl ?_
  refine Rn.icmp_ge (pc' := 46) (tgt := 85) dX0_levelFor_43 (by decide) rfl (fun c1 => ?_) (fun c1 => ?_)
  · replace E := (if_of E).1 c1
    refine Rn.iload_n (pc' := 86) dX0_levelFor_85 rfl 2 rfl rfl ?_
    cases E
    exact Rn.zret rfl rfl dX0_levelFor_86
  · replace E := (if_of E).2 c1
    refine Rn.iload_n (pc' := 47) dX0_levelFor_46 rfl 3 rfl rfl ?_
    refine Rn.iload_n (pc' := 48) dX0_levelFor_47 rfl 2 rfl rfl ?_
    refine Rn.icmp_ge (pc' := 51) (tgt := 85) dX0_levelFor_48 (by decide) rfl (fun c2 => ?_) (fun c2 => ?_)
    · replace E := (if_of E).1 c2
      refine Rn.iload_n (pc' := 86) dX0_levelFor_85 rfl 2 rfl rfl ?_
      cases E
      exact Rn.zret rfl rfl dX0_levelFor_86
    · replace E := (if_of E).2 c2
      refine Rn.iload_n (pc' := 52) dX0_levelFor_51 rfl 3 rfl rfl ?_
      refine Rn.iload_n (pc' := 53) dX0_levelFor_52 rfl 2 rfl rfl ?_
      refine Rn.iadd (pc' := 54) dX0_levelFor_53 rfl ?_
      refine Rn.iconst (pc' := 55) (v := (2 : Int32)) (hv := by decide) dX0_levelFor_54 rfl ?_
      refine Rn.idiv (pc' := 56) (hne := (by decide)) dX0_levelFor_55 rfl ?_
      refine Rn.istore (pc' := 58) (L' := [(5, .int ((x3 + x2) / (2 : Int32))), (0, .ref x0), (1, .int x1), (2, .int x2), (3, .int x3), (4, .int x4)]) dX0_levelFor_56 (by decide) rfl rfl ?_
      refine Rn.aload_n (pc' := 59) dX0_levelFor_58 rfl 1 rfl rfl ?_
      refine Rn.iload (pc' := 61) dX0_levelFor_59 0 rfl rfl ?_
      obtain ⟨g3, E⟩ := gd_of E
      obtain ⟨v4, h5, e6, E⟩ := bI_of E
      refine Rn.callV1 (pc' := 64) (As := [.int ((x3 + x2) / (2 : Int32))]) (rest := []) (f_Cistern_measuresAbove_ok hst e6) (Nat.le_trans (by decide) hd) rfl kb_X0_61 ki_X0_measuresAbove rfl g3 rfl rfl (Nat.le_of_ble_eq_true rfl) dX0_levelFor_61 rfl rfl ?_
      refine Rn.iload_n (pc' := 65) dX0_levelFor_64 rfl 2 rfl rfl ?_
      refine Rn.icmp_gt (pc' := 68) (tgt := 74) dX0_levelFor_65 (by decide) rfl (fun c7 => ?_) (fun c7 => ?_)
      · replace E := (if_of E).1 c7
        refine Rn.iload (pc' := 76) dX0_levelFor_74 0 rfl rfl ?_
        refine Rn.iconst (pc' := 77) (v := (1 : Int32)) (hv := by decide) dX0_levelFor_76 rfl ?_
        refine Rn.iadd (pc' := 78) dX0_levelFor_77 rfl ?_
        refine Rn.istore_n (pc' := 79) (L' := [(3, .int (((x3 + x2) / (2 : Int32)) + (1 : Int32))), (5, .int ((x3 + x2) / (2 : Int32))), (0, .ref x0), (1, .int x1), (2, .int x2), (4, .int x4)]) dX0_levelFor_78 rfl (by decide) rfl rfl ?_
        refine Rn.sub [2, 3, 4, 0, 5] rfl ?_
        exact f_Cistern_levelFor_b79_ok hst hd  hk38 E
      · replace E := (if_of E).2 c7
        refine Rn.iload (pc' := 70) dX0_levelFor_68 0 rfl rfl ?_
        refine Rn.istore_n (pc' := 71) (L' := [(2, .int ((x3 + x2) / (2 : Int32))), (5, .int ((x3 + x2) / (2 : Int32))), (0, .ref x0), (1, .int x1), (3, .int x3), (4, .int x4)]) dX0_levelFor_70 rfl (by decide) rfl rfl ?_
        refine Rn.goto (pc' := 79) dX0_levelFor_71 (by decide) ?_
        refine Rn.sub [2, 3, 0, 4, 5] rfl ?_
        exact f_Cistern_levelFor_b79_ok hst hd  hk38 E
def f_Cistern_levelFor_L38   (n : Nat) : Hp → Nat → Int32 → Int32 → Int32 → Int32 → Option (Int32 × Hp) := Nat.rec (motive := fun _ => Hp → Nat → Int32 → Int32 → Int32 → Int32 → Option (Int32 × Hp)) (fun _ _ _ _ _ _ => none) (fun _ rec => f_Cistern_levelFor_b38   rec) n
theorem f_Cistern_levelFor_L38_ok {l : Launch} {X : Nat × (Nat → Int32)} (hst : l.stackTraces = false) {d : Nat} (hd : 1 ≤ d)     : ∀ (n : Nat) (h : Hp) (x0 : Nat) (x1 : Int32) (x2 : Int32) (x3 : Int32) (x4 : Int32)  (r : Int32 × Hp), f_Cistern_levelFor_L38   n h x0 x1 x2 x3 x4 = some r → Rn l X mX0_levelFor d 38 [(0, .ref x0), (1, .int x1), (2, .int x2), (3, .int x3), (4, .int x4)] [] h (eI r) r.2 := by
  intro n
  induction n with
  | zero => intro h x0 x1 x2 x3 x4 r E; cases E
  | succ n ih => intro h x0 x1 x2 x3 x4 r E; exact f_Cistern_levelFor_b38_ok hst hd   ih E
def f_Cistern_levelFor_b4  (k4 : Hp → Nat → Int32 → Int32 → Int32 → Option (Int32 × Hp)) (h : Hp) (x0 : Nat) (x1 : Int32) (x2 : Int32) (x3 : Int32)  : Option (Int32 × Hp) :=
if (30 : Int32) ≤ x3 then (
bI (f_Math_max h (0 : Int32) (x2 - x1)) fun v2 h3 =>
f_Cistern_levelFor_L38   FU h3 x0 x1 x2 v2 (0 : Int32)

) else (
if hS h x0 = 1 then (
if hS h (hR h x0 6) = 20 then (
if ib x3 (hL h (hR h x0 6)) = true then (
bI (f_Math_max h x2 (hI h (hR h x0 6) (ix x3))) fun v8 h9 =>
k4 h9 x0 x1 v8 (x3 + (1 : Int32))
) else none) else none) else none
)

set_option maxRecDepth 20000 in
set_option maxHeartbeats 4000000 in
theorem f_Cistern_levelFor_b4_ok {l : Launch} {X : Nat × (Nat → Int32)} (hst : l.stackTraces = false) {d : Nat} (hd : 1 ≤ d)   {k4 : Hp → Nat → Int32 → Int32 → Int32 → Option (Int32 × Hp)} (hk4 : ∀ (h : Hp) (x0 : Nat) (x1 : Int32) (x2 : Int32) (x3 : Int32)  (r : Int32 × Hp), k4 h x0 x1 x2 x3 = some r → Rn l X mX0_levelFor d 4 [(0, .ref x0), (1, .int x1), (2, .int x2), (3, .int x3)] [] h (eI r) r.2) {h : Hp} {x0 : Nat} {x1 : Int32} {x2 : Int32} {x3 : Int32}  {r : Int32 × Hp} (E : f_Cistern_levelFor_b4  k4 h x0 x1 x2 x3 = some r) : Rn l X mX0_levelFor d 4 [(0, .ref x0), (1, .int x1), (2, .int x2), (3, .int x3)] [] h (eI r) r.2 := by
  unfold f_Cistern_levelFor_b4 at E
  refine Rn.iload_n (pc' := 5) dX0_levelFor_4 rfl 3 rfl rfl ?_
  refine Rn.bipush (pc' := 7) (v := (30 : Int32)) (hv := by decide) dX0_levelFor_5 rfl ?_
  refine Rn.icmp_ge (pc' := 10) (tgt := 27) dX0_levelFor_7 (by decide) rfl (fun c1 => ?_) (fun c1 => ?_)
  · replace E := (if_of E).1 c1
    refine Rn.iconst (pc' := 28) (v := (0 : Int32)) (hv := by decide) dX0_levelFor_27 rfl ?_
    refine Rn.iload_n (pc' := 29) dX0_levelFor_28 rfl 2 rfl rfl ?_
    refine Rn.iload_n (pc' := 30) dX0_levelFor_29 rfl 1 rfl rfl ?_
    refine Rn.isub (pc' := 31) dX0_levelFor_30 rfl ?_
    obtain ⟨v2, h3, e4, E⟩ := bI_of E
    refine Rn.callS1 (pc' := 34) (As := [.int (0 : Int32), .int (x2 - x1)]) (rest := []) (f_Math_max_ok hst e4) (Nat.le_trans (by decide) hd) rfl kb_X0_47 ks_J9_max_7cf53 rfl rfl (Nat.le_of_ble_eq_true rfl) dX0_levelFor_31 rfl rfl ?_
    refine Rn.istore_n (pc' := 35) (L' := [(3, .int v2), (0, .ref x0), (1, .int x1), (2, .int x2)]) dX0_levelFor_34 rfl (by decide) rfl rfl ?_
    refine Rn.iconst (pc' := 36) (v := (0 : Int32)) (hv := by decide) dX0_levelFor_35 rfl ?_
    refine Rn.istore (pc' := 38) (L' := [(4, .int (0 : Int32)), (3, .int v2), (0, .ref x0), (1, .int x1), (2, .int x2)]) dX0_levelFor_36 (by decide) rfl rfl ?_
    refine Rn.sub [2, 3, 4, 1, 0] rfl ?_
    exact f_Cistern_levelFor_L38_ok hst hd   FU _ _ _ _ _ _ _ E
  · replace E := (if_of E).2 c1
    refine Rn.iload_n (pc' := 11) dX0_levelFor_10 rfl 2 rfl rfl ?_
    refine Rn.aload_n (pc' := 12) dX0_levelFor_11 rfl 0 rfl rfl ?_
    obtain ⟨g5, E⟩ := gd_of E
    refine Rn.getR (pc' := 15) fl_X0_9_0 g5 rfl dX0_levelFor_12 rfl ?_
    refine Rn.iload_n (pc' := 16) dX0_levelFor_15 rfl 3 rfl rfl ?_
    obtain ⟨g6, E⟩ := gd_of E
    obtain ⟨g7, E⟩ := gd_of E
    refine Rn.iald (pc' := 17) g6 g7 dX0_levelFor_16 rfl ?_
    obtain ⟨v8, h9, e10, E⟩ := bI_of E
    refine Rn.callS1 (pc' := 20) (As := [.int x2, .int (hI h (hR h x0 6) (ix x3))]) (rest := []) (f_Math_max_ok hst e10) (Nat.le_trans (by decide) hd) rfl kb_X0_47 ks_J9_max_7cf53 rfl rfl (Nat.le_of_ble_eq_true rfl) dX0_levelFor_17 rfl rfl ?_
    refine Rn.istore_n (pc' := 21) (L' := [(2, .int v8), (0, .ref x0), (1, .int x1), (3, .int x3)]) dX0_levelFor_20 rfl (by decide) rfl rfl ?_
    refine Rn.iinc (pc' := 24) (v := (x3 + (1 : Int32))) (L' := [(3, .int (x3 + (1 : Int32))), (2, .int v8), (0, .ref x0), (1, .int x1)]) dX0_levelFor_21 3 rfl rfl (by decide) rfl rfl ?_
    refine Rn.goto (pc' := 4) dX0_levelFor_24 (by decide) ?_
    refine Rn.sub [2, 3, 1, 0] rfl ?_
    exact hk4 _ _ _ _ _ _ E
def f_Cistern_levelFor_L4   (n : Nat) : Hp → Nat → Int32 → Int32 → Int32 → Option (Int32 × Hp) := Nat.rec (motive := fun _ => Hp → Nat → Int32 → Int32 → Int32 → Option (Int32 × Hp)) (fun _ _ _ _ _ => none) (fun _ rec => f_Cistern_levelFor_b4   rec) n
theorem f_Cistern_levelFor_L4_ok {l : Launch} {X : Nat × (Nat → Int32)} (hst : l.stackTraces = false) {d : Nat} (hd : 1 ≤ d)     : ∀ (n : Nat) (h : Hp) (x0 : Nat) (x1 : Int32) (x2 : Int32) (x3 : Int32)  (r : Int32 × Hp), f_Cistern_levelFor_L4   n h x0 x1 x2 x3 = some r → Rn l X mX0_levelFor d 4 [(0, .ref x0), (1, .int x1), (2, .int x2), (3, .int x3)] [] h (eI r) r.2 := by
  intro n
  induction n with
  | zero => intro h x0 x1 x2 x3 r E; cases E
  | succ n ih => intro h x0 x1 x2 x3 r E; exact f_Cistern_levelFor_b4_ok hst hd   ih E
def f_Cistern_levelFor_b0   (h : Hp) (x0 : Nat) (x1 : Int32)  : Option (Int32 × Hp) :=
f_Cistern_levelFor_L4   FU h x0 x1 (0 : Int32) (0 : Int32)

set_option maxRecDepth 20000 in
set_option maxHeartbeats 4000000 in
theorem f_Cistern_levelFor_b0_ok {l : Launch} {X : Nat × (Nat → Int32)} (hst : l.stackTraces = false) {d : Nat} (hd : 1 ≤ d)     {h : Hp} {x0 : Nat} {x1 : Int32}  {r : Int32 × Hp} (E : f_Cistern_levelFor_b0   h x0 x1 = some r) : Rn l X mX0_levelFor d 0 [(0, .ref x0), (1, .int x1)] [] h (eI r) r.2 := by
  unfold f_Cistern_levelFor_b0 at E
  refine Rn.iconst (pc' := 1) (v := (0 : Int32)) (hv := by decide) dX0_levelFor_0 rfl ?_
  refine Rn.istore_n (pc' := 2) (L' := [(2, .int (0 : Int32)), (0, .ref x0), (1, .int x1)]) dX0_levelFor_1 rfl (by decide) rfl rfl ?_
  refine Rn.iconst (pc' := 3) (v := (0 : Int32)) (hv := by decide) dX0_levelFor_2 rfl ?_
  refine Rn.istore_n (pc' := 4) (L' := [(3, .int (0 : Int32)), (2, .int (0 : Int32)), (0, .ref x0), (1, .int x1)]) dX0_levelFor_3 rfl (by decide) rfl rfl ?_
  refine Rn.sub [2, 3, 1, 0] rfl ?_
  exact f_Cistern_levelFor_L4_ok hst hd   FU _ _ _ _ _ _ E
def f_Cistern_levelFor (h : Hp) (x0 : Nat) (x1 : Int32) : Option (Int32 × Hp) := f_Cistern_levelFor_b0  h x0 x1
theorem f_Cistern_levelFor_ok {l : Launch} {X : Nat × (Nat → Int32)} (hst : l.stackTraces = false) {h : Hp} {x0 : Nat} {x1 : Int32} {r : Int32 × Hp} (E : f_Cistern_levelFor h x0 x1 = some r) : MC l X yX0_levelFor mX0_levelFor 1 [.ref x0, .int x1] h (eI r) r.2 :=
  MC.body (by decide +kernel) rfl (by decide) hst (Nat.le_of_ble_eq_true rfl) (f_Cistern_levelFor_b0_ok hst (Nat.le_refl _) E)
abbrev mX0_take : MI := (RX0, cX0_take, 3, none, [], false)
theorem ws_X0_take : ∀ w ∈ wsM yX0_take mX0_take, w ∈ gw := List.forall_mem_cons.mpr ⟨gw_at 574 (by decide +kernel) (by decide +kernel), fun _ h => h⟩
theorem kb_X0_53 : KB RX0 53 yX0_put mX0_put 2 := ⟨gw_at 575 (by decide +kernel) (by decide +kernel), gw_at 114 (by decide +kernel) (by decide +kernel), trivial, ws_X0_put, by decide +kernel, by decide +kernel, by decide +kernel, by decide⟩
def f_Cistern_take_b0   (h : Hp) (x0 : Nat) (x1 : Int32) (x2 : Int32)  : Option (Hp) :=
if hS h x0 = 1 then (
bV (f_Cistern_put h x0 x1 (-x2)) fun h3 =>
some h3
) else none
set_option maxRecDepth 20000 in
set_option maxHeartbeats 4000000 in
theorem f_Cistern_take_b0_ok {l : Launch} {X : Nat × (Nat → Int32)} (hst : l.stackTraces = false) {d : Nat} (hd : 1 ≤ d)     {h : Hp} {x0 : Nat} {x1 : Int32} {x2 : Int32}  {r : Hp} (E : f_Cistern_take_b0   h x0 x1 x2 = some r) : Rn l X mX0_take d 0 [(0, .ref x0), (1, .int x1), (2, .int x2)] [] h (eV r) r := by
  unfold f_Cistern_take_b0 at E
  refine Rn.aload_n (pc' := 1) dX0_take_0 rfl 0 rfl rfl ?_
  refine Rn.iload_n (pc' := 2) dX0_take_1 rfl 1 rfl rfl ?_
  refine Rn.iload_n (pc' := 3) dX0_take_2 rfl 2 rfl rfl ?_
  refine Rn.ineg (pc' := 4) dX0_take_3 rfl ?_
  obtain ⟨g1, E⟩ := gd_of E
  obtain ⟨h3, e4, E⟩ := bV_of E
  refine Rn.callV1 (pc' := 7) (As := [.int x1, .int (-x2)]) (rest := []) (f_Cistern_put_ok hst e4) (Nat.le_trans (by decide) hd) rfl kb_X0_53 ki_X0_put rfl g1 rfl rfl (Nat.le_of_ble_eq_true rfl) dX0_take_4 rfl rfl ?_
  cases E
  exact Rn.vret rfl dX0_take_7
def f_Cistern_take (h : Hp) (x0 : Nat) (x1 : Int32) (x2 : Int32) : Option (Hp) := f_Cistern_take_b0  h x0 x1 x2
theorem f_Cistern_take_ok {l : Launch} {X : Nat × (Nat → Int32)} (hst : l.stackTraces = false) {h : Hp} {x0 : Nat} {x1 : Int32} {x2 : Int32} {r : Hp} (E : f_Cistern_take h x0 x1 x2 = some r) : MC l X yX0_take mX0_take 1 [.ref x0, .int x1, .int x2] h (eV r) r :=
  MC.body (by decide +kernel) rfl (by decide) hst (Nat.le_of_ble_eq_true rfl) (f_Cistern_take_b0_ok hst (Nat.le_refl _) E)
abbrev mX0_giveMost : MI := (RX0, cX0_giveMost, 7, none, [], false)
theorem ws_X0_giveMost : ∀ w ∈ wsM yX0_giveMost mX0_giveMost, w ∈ gw := List.forall_mem_cons.mpr ⟨gw_at 562 (by decide +kernel) (by decide +kernel), fun _ h => h⟩
def f_Cistern_giveMost_b81  (k19 : Hp → Nat → Nat → Int32 → Int32 → Int32 → Option (Hp)) (h : Hp) (x0 : Nat) (x1 : Nat) (x3 : Int32) (x4 : Int32) (x5 : Int32)  : Option (Hp) :=
k19 h x0 x1 x3 x4 (x5 + (-1 : Int32))

set_option maxRecDepth 20000 in
set_option maxHeartbeats 4000000 in
theorem f_Cistern_giveMost_b81_ok {l : Launch} {X : Nat × (Nat → Int32)} (hst : l.stackTraces = false) {d : Nat} (hd : 2 ≤ d)   {k19 : Hp → Nat → Nat → Int32 → Int32 → Int32 → Option (Hp)} (hk19 : ∀ (h : Hp) (x0 : Nat) (x1 : Nat) (x3 : Int32) (x4 : Int32) (x5 : Int32)  (r : Hp), k19 h x0 x1 x3 x4 x5 = some r → Rn l X mX0_giveMost d 19 [(0, .ref x0), (1, .ref x1), (3, .int x3), (4, .int x4), (5, .int x5)] [] h (eV r) r) {h : Hp} {x0 : Nat} {x1 : Nat} {x3 : Int32} {x4 : Int32} {x5 : Int32}  {r : Hp} (E : f_Cistern_giveMost_b81  k19 h x0 x1 x3 x4 x5 = some r) : Rn l X mX0_giveMost d 81 [(0, .ref x0), (1, .ref x1), (3, .int x3), (4, .int x4), (5, .int x5)] [] h (eV r) r := by
  unfold f_Cistern_giveMost_b81 at E
  refine Rn.iinc (pc' := 84) (v := (x5 + (-1 : Int32))) (L' := [(5, .int (x5 + (-1 : Int32))), (0, .ref x0), (1, .ref x1), (3, .int x3), (4, .int x4)]) dX0_giveMost_81 4 rfl rfl (by decide) rfl rfl ?_
  refine Rn.goto (pc' := 19) dX0_giveMost_84 (by decide) ?_
  refine Rn.sub [1, 2, 3, 4, 0] rfl ?_
  exact hk19 _ _ _ _ _ _ _ E
theorem kb_X0_64 : KB RX0 64 yX0_take mX0_take 2 := ⟨gw_at 571 (by decide +kernel) (by decide +kernel), gw_at 114 (by decide +kernel) (by decide +kernel), trivial, ws_X0_take, by decide +kernel, by decide +kernel, by decide +kernel, by decide⟩
theorem ki_X0_take : Cond.instanceMethod yX0_take ∈ gw ∧ Cond.selects yX0_take.cls yX0_take yX0_take ∈ gw := ⟨gw_at 572 (by decide +kernel) (by decide +kernel), gw_at 573 (by decide +kernel) (by decide +kernel)⟩
def f_Cistern_giveMost_b61  (k19 : Hp → Nat → Nat → Int32 → Int32 → Int32 → Option (Hp)) (h : Hp) (x0 : Nat) (x1 : Nat) (x3 : Int32) (x4 : Int32) (x5 : Int32) (x6 : Int32)  : Option (Hp) :=
if hS h x0 = 1 then (
bV (f_Cistern_take h x0 x5 x6) fun h3 =>
if x1 = 0 then (
f_Cistern_giveMost_b81  k19 h3 x0 x1 x3 x4 x5

) else (
if hS h3 x1 = 1 then (
bV (f_Cistern_put h3 x1 x5 x6) fun h8 =>
f_Cistern_giveMost_b81  k19 h8 x0 x1 x3 x4 x5
) else none
)
) else none
set_option maxRecDepth 20000 in
set_option maxHeartbeats 4000000 in
theorem f_Cistern_giveMost_b61_ok {l : Launch} {X : Nat × (Nat → Int32)} (hst : l.stackTraces = false) {d : Nat} (hd : 2 ≤ d)   {k19 : Hp → Nat → Nat → Int32 → Int32 → Int32 → Option (Hp)} (hk19 : ∀ (h : Hp) (x0 : Nat) (x1 : Nat) (x3 : Int32) (x4 : Int32) (x5 : Int32)  (r : Hp), k19 h x0 x1 x3 x4 x5 = some r → Rn l X mX0_giveMost d 19 [(0, .ref x0), (1, .ref x1), (3, .int x3), (4, .int x4), (5, .int x5)] [] h (eV r) r) {h : Hp} {x0 : Nat} {x1 : Nat} {x3 : Int32} {x4 : Int32} {x5 : Int32} {x6 : Int32}  {r : Hp} (E : f_Cistern_giveMost_b61  k19 h x0 x1 x3 x4 x5 x6 = some r) : Rn l X mX0_giveMost d 61 [(0, .ref x0), (1, .ref x1), (3, .int x3), (4, .int x4), (5, .int x5), (6, .int x6)] [] h (eV r) r := by
  unfold f_Cistern_giveMost_b61 at E
  refine Rn.aload_n (pc' := 62) dX0_giveMost_61 rfl 0 rfl rfl ?_
  refine Rn.iload (pc' := 64) dX0_giveMost_62 4 rfl rfl ?_
  refine Rn.iload (pc' := 66) dX0_giveMost_64 5 rfl rfl ?_
  obtain ⟨g1, E⟩ := gd_of E
  obtain ⟨h3, e4, E⟩ := bV_of E
  refine Rn.callV1 (pc' := 69) (As := [.int x5, .int x6]) (rest := []) (f_Cistern_take_ok hst e4) (Nat.le_trans (by decide) hd) rfl kb_X0_64 ki_X0_take rfl g1 rfl rfl (Nat.le_of_ble_eq_true rfl) dX0_giveMost_66 rfl rfl ?_
  refine Rn.aload_n (pc' := 70) dX0_giveMost_69 rfl 1 rfl rfl ?_
  refine Rn.ifnull (pc' := 73) (tgt := 81) dX0_giveMost_70 (by decide) rfl (fun c5 => ?_) (fun c5 => ?_)
  · replace E := (if_of E).1 c5
    refine Rn.sub [0, 1, 2, 3, 4] rfl ?_
    exact f_Cistern_giveMost_b81_ok hst hd  hk19 E
  · replace E := (if_of E).2 c5
    refine Rn.aload_n (pc' := 74) dX0_giveMost_73 rfl 1 rfl rfl ?_
    refine Rn.iload (pc' := 76) dX0_giveMost_74 4 rfl rfl ?_
    refine Rn.iload (pc' := 78) dX0_giveMost_76 5 rfl rfl ?_
    obtain ⟨g6, E⟩ := gd_of E
    obtain ⟨h8, e9, E⟩ := bV_of E
    refine Rn.callV1 (pc' := 81) (As := [.int x5, .int x6]) (rest := []) (f_Cistern_put_ok hst e9) (Nat.le_trans (by decide) hd) rfl kb_X0_53 ki_X0_put rfl g6 rfl rfl (Nat.le_of_ble_eq_true rfl) dX0_giveMost_78 rfl rfl ?_
    refine Rn.sub [0, 1, 2, 3, 4] rfl ?_
    exact f_Cistern_giveMost_b81_ok hst hd  hk19 E
def f_Cistern_giveMost_b19  (k19 : Hp → Nat → Nat → Int32 → Int32 → Int32 → Option (Hp)) (h : Hp) (x0 : Nat) (x1 : Nat) (x3 : Int32) (x4 : Int32) (x5 : Int32)  : Option (Hp) :=
if x5 < 0 then (
some h

) else (
if hS h x0 = 1 then (
if hS h (hR h x0 6) = 20 then (
if ib x5 (hL h (hR h x0 6)) = true then (
bI (f_Math_max h (0 : Int32) ((hI h (hR h x0 6) (ix x5)) - x3)) fun v5 h6 =>
if x4 ≤ 0 then (
f_Cistern_giveMost_b61  k19 h6 x0 x1 x3 x4 x5 v5

) else (
if hS h6 x0 = 1 then (
if hS h6 (hR h6 x0 6) = 20 then (
if ib x5 (hL h6 (hR h6 x0 6)) = true then (
if (hI h6 (hR h6 x0 6) (ix x5)) < x3 then (
f_Cistern_giveMost_b61  k19 h6 x0 x1 x3 x4 x5 v5

) else (
f_Cistern_giveMost_b61  k19 h6 x0 x1 x3 (x4 + (-1 : Int32)) x5 (v5 + (1 : Int32))

)
) else none) else none) else none
)
) else none) else none) else none
)

set_option maxRecDepth 20000 in
set_option maxHeartbeats 4000000 in
theorem f_Cistern_giveMost_b19_ok {l : Launch} {X : Nat × (Nat → Int32)} (hst : l.stackTraces = false) {d : Nat} (hd : 2 ≤ d)   {k19 : Hp → Nat → Nat → Int32 → Int32 → Int32 → Option (Hp)} (hk19 : ∀ (h : Hp) (x0 : Nat) (x1 : Nat) (x3 : Int32) (x4 : Int32) (x5 : Int32)  (r : Hp), k19 h x0 x1 x3 x4 x5 = some r → Rn l X mX0_giveMost d 19 [(0, .ref x0), (1, .ref x1), (3, .int x3), (4, .int x4), (5, .int x5)] [] h (eV r) r) {h : Hp} {x0 : Nat} {x1 : Nat} {x3 : Int32} {x4 : Int32} {x5 : Int32}  {r : Hp} (E : f_Cistern_giveMost_b19  k19 h x0 x1 x3 x4 x5 = some r) : Rn l X mX0_giveMost d 19 [(0, .ref x0), (1, .ref x1), (3, .int x3), (4, .int x4), (5, .int x5)] [] h (eV r) r := by
  unfold f_Cistern_giveMost_b19 at E
  refine Rn.iload (pc' := 21) dX0_giveMost_19 4 rfl rfl ?_
  refine Rn.if_lt (pc' := 24) (tgt := 87) dX0_giveMost_21 (by decide) rfl (fun c1 => ?_) (fun c1 => ?_)
  · replace E := (if_of E).1 c1
    cases E
    exact Rn.vret rfl dX0_giveMost_87
  · replace E := (if_of E).2 c1
    refine Rn.iconst (pc' := 25) (v := (0 : Int32)) (hv := by decide) dX0_giveMost_24 rfl ?_
    refine Rn.aload_n (pc' := 26) dX0_giveMost_25 rfl 0 rfl rfl ?_
    obtain ⟨g2, E⟩ := gd_of E
    refine Rn.getR (pc' := 29) fl_X0_9_0 g2 rfl dX0_giveMost_26 rfl ?_
    refine Rn.iload (pc' := 31) dX0_giveMost_29 4 rfl rfl ?_
    obtain ⟨g3, E⟩ := gd_of E
    obtain ⟨g4, E⟩ := gd_of E
    refine Rn.iald (pc' := 32) g3 g4 dX0_giveMost_31 rfl ?_
    refine Rn.iload_n (pc' := 33) dX0_giveMost_32 rfl 2 rfl rfl ?_
    refine Rn.isub (pc' := 34) dX0_giveMost_33 rfl ?_
    obtain ⟨v5, h6, e7, E⟩ := bI_of E
    refine Rn.callS1 (pc' := 37) (As := [.int (0 : Int32), .int ((hI h (hR h x0 6) (ix x5)) - x3)]) (rest := []) (f_Math_max_ok hst e7) (Nat.le_trans (by decide) hd) rfl kb_X0_47 ks_J9_max_7cf53 rfl rfl (Nat.le_of_ble_eq_true rfl) dX0_giveMost_34 rfl rfl ?_
    refine Rn.istore (pc' := 39) (L' := [(6, .int v5), (0, .ref x0), (1, .ref x1), (3, .int x3), (4, .int x4), (5, .int x5)]) dX0_giveMost_37 (by decide) rfl rfl ?_
    refine Rn.iload (pc' := 41) dX0_giveMost_39 4 rfl rfl ?_
    refine Rn.if_le (pc' := 44) (tgt := 61) dX0_giveMost_41 (by decide) rfl (fun c8 => ?_) (fun c8 => ?_)
    · replace E := (if_of E).1 c8
      refine Rn.sub [1, 2, 3, 4, 5, 0] rfl ?_
      exact f_Cistern_giveMost_b61_ok hst hd  hk19 E
    · replace E := (if_of E).2 c8
      refine Rn.aload_n (pc' := 45) dX0_giveMost_44 rfl 1 rfl rfl ?_
      obtain ⟨g9, E⟩ := gd_of E
      refine Rn.getR (pc' := 48) fl_X0_9_0 g9 rfl dX0_giveMost_45 rfl ?_
      refine Rn.iload (pc' := 50) dX0_giveMost_48 5 rfl rfl ?_
      obtain ⟨g10, E⟩ := gd_of E
      obtain ⟨g11, E⟩ := gd_of E
      refine Rn.iald (pc' := 51) g10 g11 dX0_giveMost_50 rfl ?_
      refine Rn.iload_n (pc' := 52) dX0_giveMost_51 rfl 3 rfl rfl ?_
      refine Rn.icmp_lt (pc' := 55) (tgt := 61) dX0_giveMost_52 (by decide) rfl (fun c12 => ?_) (fun c12 => ?_)
      · replace E := (if_of E).1 c12
        refine Rn.sub [1, 2, 3, 4, 5, 0] rfl ?_
        exact f_Cistern_giveMost_b61_ok hst hd  hk19 E
      · replace E := (if_of E).2 c12
        refine Rn.iinc (pc' := 58) (v := (v5 + (1 : Int32))) (L' := [(6, .int (v5 + (1 : Int32))), (0, .ref x0), (1, .ref x1), (3, .int x3), (4, .int x4), (5, .int x5)]) dX0_giveMost_55 0 rfl rfl (by decide) rfl rfl ?_
        refine Rn.iinc (pc' := 61) (v := (x4 + (-1 : Int32))) (L' := [(4, .int (x4 + (-1 : Int32))), (6, .int (v5 + (1 : Int32))), (0, .ref x0), (1, .ref x1), (3, .int x3), (5, .int x5)]) dX0_giveMost_58 4 rfl rfl (by decide) rfl rfl ?_
        refine Rn.sub [2, 3, 4, 0, 5, 1] rfl ?_
        exact f_Cistern_giveMost_b61_ok hst hd  hk19 E
def f_Cistern_giveMost_L19   (n : Nat) : Hp → Nat → Nat → Int32 → Int32 → Int32 → Option (Hp) := Nat.rec (motive := fun _ => Hp → Nat → Nat → Int32 → Int32 → Int32 → Option (Hp)) (fun _ _ _ _ _ _ => none) (fun _ rec => f_Cistern_giveMost_b19   rec) n
theorem f_Cistern_giveMost_L19_ok {l : Launch} {X : Nat × (Nat → Int32)} (hst : l.stackTraces = false) {d : Nat} (hd : 2 ≤ d)     : ∀ (n : Nat) (h : Hp) (x0 : Nat) (x1 : Nat) (x3 : Int32) (x4 : Int32) (x5 : Int32)  (r : Hp), f_Cistern_giveMost_L19   n h x0 x1 x3 x4 x5 = some r → Rn l X mX0_giveMost d 19 [(0, .ref x0), (1, .ref x1), (3, .int x3), (4, .int x4), (5, .int x5)] [] h (eV r) r := by
  intro n
  induction n with
  | zero => intro h x0 x1 x3 x4 x5 r E; cases E
  | succ n ih => intro h x0 x1 x3 x4 x5 r E; exact f_Cistern_giveMost_b19_ok hst hd   ih E
theorem kb_X0_57 : KB RX0 57 yX0_levelFor mX0_levelFor 1 := ⟨gw_at 563 (by decide +kernel) (by decide +kernel), gw_at 114 (by decide +kernel) (by decide +kernel), trivial, ws_X0_levelFor, by decide +kernel, by decide +kernel, by decide +kernel, by decide⟩
theorem ki_X0_levelFor : Cond.instanceMethod yX0_levelFor ∈ gw ∧ Cond.selects yX0_levelFor.cls yX0_levelFor yX0_levelFor ∈ gw := ⟨gw_at 565 (by decide +kernel) (by decide +kernel), gw_at 0 (by decide +kernel) (by decide +kernel)⟩
def f_Cistern_giveMost_b0   (h : Hp) (x0 : Nat) (x1 : Nat) (x2 : Int32)  : Option (Hp) :=
if hS h x0 = 1 then (
bI (f_Cistern_levelFor h x0 x2) fun v2 h3 =>
if hS h3 x0 = 1 then (
bI (f_Cistern_measuresAbove h3 x0 v2) fun v6 h7 =>
f_Cistern_giveMost_L19   FU h7 x0 x1 v2 (x2 - v6) (29 : Int32)
) else none) else none
set_option maxRecDepth 20000 in
set_option maxHeartbeats 4000000 in
theorem f_Cistern_giveMost_b0_ok {l : Launch} {X : Nat × (Nat → Int32)} (hst : l.stackTraces = false) {d : Nat} (hd : 2 ≤ d)     {h : Hp} {x0 : Nat} {x1 : Nat} {x2 : Int32}  {r : Hp} (E : f_Cistern_giveMost_b0   h x0 x1 x2 = some r) : Rn l X mX0_giveMost d 0 [(0, .ref x0), (1, .ref x1), (2, .int x2)] [] h (eV r) r := by
  unfold f_Cistern_giveMost_b0 at E
  refine Rn.aload_n (pc' := 1) dX0_giveMost_0 rfl 0 rfl rfl ?_
  refine Rn.iload_n (pc' := 2) dX0_giveMost_1 rfl 2 rfl rfl ?_
  obtain ⟨g1, E⟩ := gd_of E
  obtain ⟨v2, h3, e4, E⟩ := bI_of E
  refine Rn.callV1 (pc' := 5) (As := [.int x2]) (rest := []) (f_Cistern_levelFor_ok hst e4) (Nat.le_trans (by decide) hd) rfl kb_X0_57 ki_X0_levelFor rfl g1 rfl rfl (Nat.le_of_ble_eq_true rfl) dX0_giveMost_2 rfl rfl ?_
  refine Rn.istore_n (pc' := 6) (L' := [(3, .int v2), (0, .ref x0), (1, .ref x1), (2, .int x2)]) dX0_giveMost_5 rfl (by decide) rfl rfl ?_
  refine Rn.iload_n (pc' := 7) dX0_giveMost_6 rfl 3 rfl rfl ?_
  refine Rn.aload_n (pc' := 8) dX0_giveMost_7 rfl 1 rfl rfl ?_
  refine Rn.iload_n (pc' := 9) dX0_giveMost_8 rfl 0 rfl rfl ?_
  obtain ⟨g5, E⟩ := gd_of E
  obtain ⟨v6, h7, e8, E⟩ := bI_of E
  refine Rn.callV1 (pc' := 12) (As := [.int v2]) (rest := [.int x2]) (f_Cistern_measuresAbove_ok hst e8) (Nat.le_trans (by decide) hd) rfl kb_X0_61 ki_X0_measuresAbove rfl g5 rfl rfl (Nat.le_of_ble_eq_true rfl) dX0_giveMost_9 rfl rfl ?_
  refine Rn.isub (pc' := 13) dX0_giveMost_12 rfl ?_
  refine Rn.istore (pc' := 15) (L' := [(4, .int (x2 - v6)), (3, .int v2), (0, .ref x0), (1, .ref x1), (2, .int x2)]) dX0_giveMost_13 (by decide) rfl rfl ?_
  refine Rn.bipush (pc' := 17) (v := (29 : Int32)) (hv := by decide) dX0_giveMost_15 rfl ?_
  refine Rn.istore (pc' := 19) (L' := [(5, .int (29 : Int32)), (4, .int (x2 - v6)), (3, .int v2), (0, .ref x0), (1, .ref x1), (2, .int x2)]) dX0_giveMost_17 (by decide) rfl rfl ?_
  refine Rn.sub [3, 4, 2, 1, 0] rfl ?_
  exact f_Cistern_giveMost_L19_ok hst hd   FU _ _ _ _ _ _ _ E
def f_Cistern_giveMost (h : Hp) (x0 : Nat) (x1 : Nat) (x2 : Int32) : Option (Hp) := f_Cistern_giveMost_b0  h x0 x1 x2
theorem f_Cistern_giveMost_ok {l : Launch} {X : Nat × (Nat → Int32)} (hst : l.stackTraces = false) {h : Hp} {x0 : Nat} {x1 : Nat} {x2 : Int32} {r : Hp} (E : f_Cistern_giveMost h x0 x1 x2 = some r) : MC l X yX0_giveMost mX0_giveMost 2 [.ref x0, .ref x1, .int x2] h (eV r) r :=
  MC.body (by decide +kernel) rfl (by decide) hst (Nat.le_of_ble_eq_true rfl) (f_Cistern_giveMost_b0_ok hst (Nat.le_refl _) E)
abbrev mX3_moveMost : MI := (RX3, cX3_moveMost, 6, none, [], false)
theorem ws_X3_moveMost : ∀ w ∈ wsM yX3_moveMost mX3_moveMost, w ∈ gw := List.forall_mem_cons.mpr ⟨gw_at 550 (by decide +kernel) (by decide +kernel), fun _ h => h⟩
theorem kb_X3_163 : KB RX3 163 yX0_giveMost mX0_giveMost 2 := ⟨gw_at 559 (by decide +kernel) (by decide +kernel), gw_at 114 (by decide +kernel) (by decide +kernel), trivial, ws_X0_giveMost, by decide +kernel, by decide +kernel, by decide +kernel, by decide⟩
theorem ki_X0_giveMost : Cond.instanceMethod yX0_giveMost ∈ gw ∧ Cond.selects yX0_giveMost.cls yX0_giveMost yX0_giveMost ∈ gw := ⟨gw_at 560 (by decide +kernel) (by decide +kernel), gw_at 561 (by decide +kernel) (by decide +kernel)⟩
def f_Land_moveMost_b41   (h : Hp) (x0 : Nat) (x1 : Nat) (x4 : Int32) (x5 : Int32)  : Option (Hp) :=
if x4 ≤ x5 then (
some h

) else (
if hS h x1 = 1 then (
bV (f_Cistern_giveMost h x1 0 (x4 - x5)) fun h4 =>
if hS h4 x0 = 4 then (
wr (sI h4 x0 12 ((hI h4 x0 12) + (x4 - x5))) fun h7 =>
some h7
) else none) else none
)

set_option maxRecDepth 20000 in
set_option maxHeartbeats 4000000 in
theorem f_Land_moveMost_b41_ok {l : Launch} {X : Nat × (Nat → Int32)} (hst : l.stackTraces = false) {d : Nat} (hd : 3 ≤ d)     {h : Hp} {x0 : Nat} {x1 : Nat} {x4 : Int32} {x5 : Int32}  {r : Hp} (E : f_Land_moveMost_b41   h x0 x1 x4 x5 = some r) : Rn l X mX3_moveMost d 41 [(0, .ref x0), (1, .ref x1), (4, .int x4), (5, .int x5)] [] h (eV r) r := by
  unfold f_Land_moveMost_b41 at E
  refine Rn.iload (pc' := 43) dX3_moveMost_41 2 rfl rfl ?_
  refine Rn.iload (pc' := 45) dX3_moveMost_43 3 rfl rfl ?_
  refine Rn.icmp_le (pc' := 48) (tgt := 72) dX3_moveMost_45 (by decide) rfl (fun c1 => ?_) (fun c1 => ?_)
  · replace E := (if_of E).1 c1
    cases E
    exact Rn.vret rfl dX3_moveMost_72
  · replace E := (if_of E).2 c1
    refine Rn.aload_n (pc' := 49) dX3_moveMost_48 rfl 1 rfl rfl ?_
    refine Rn.null (pc' := 50) dX3_moveMost_49 rfl ?_
    refine Rn.iload (pc' := 52) dX3_moveMost_50 2 rfl rfl ?_
    refine Rn.iload (pc' := 54) dX3_moveMost_52 3 rfl rfl ?_
    refine Rn.isub (pc' := 55) dX3_moveMost_54 rfl ?_
    obtain ⟨g2, E⟩ := gd_of E
    obtain ⟨h4, e5, E⟩ := bV_of E
    refine Rn.callV1 (pc' := 58) (As := [.ref 0, .int (x4 - x5)]) (rest := []) (f_Cistern_giveMost_ok hst e5) (Nat.le_trans (by decide) hd) rfl kb_X3_163 ki_X0_giveMost rfl g2 rfl rfl (Nat.le_of_ble_eq_true rfl) dX3_moveMost_55 rfl rfl ?_
    refine Rn.aload_n (pc' := 59) dX3_moveMost_58 rfl 0 rfl rfl ?_
    refine Rn.dup (pc' := 60) (hc := rfl) dX3_moveMost_59 rfl ?_
    obtain ⟨g6, E⟩ := gd_of E
    refine Rn.getI (pc' := 63) fl_X3_78_3 g6 rfl dX3_moveMost_60 rfl ?_
    refine Rn.iload (pc' := 65) dX3_moveMost_63 2 rfl rfl ?_
    refine Rn.iload (pc' := 67) dX3_moveMost_65 3 rfl rfl ?_
    refine Rn.isub (pc' := 68) dX3_moveMost_67 rfl ?_
    refine Rn.iadd (pc' := 69) dX3_moveMost_68 rfl ?_
    refine Rn.putI (pc' := 72) fl_X3_78_3 (fun q hq => by cases hq; decide) g6 rfl rfl rfl dX3_moveMost_69 rfl ?_
    replace E := wr_of E
    generalize eh8 : sI h4 x0 12 ((hI h4 x0 12) + (x4 - x5)) = h7 at E ⊢
    cases E
    exact Rn.vret rfl dX3_moveMost_72
def f_Land_moveMost_b27   (h : Hp) (x0 : Nat) (x1 : Nat) (x2 : Nat) (x4 : Int32) (s0 : Int32) : Option (Hp) :=
if s0 ≤ 0 then (
f_Land_moveMost_b41   h x0 x1 x4 s0

) else (
if hS h x1 = 1 then (
bV (f_Cistern_giveMost h x1 x2 s0) fun h4 =>
f_Land_moveMost_b41   h4 x0 x1 x4 s0
) else none
)

set_option maxRecDepth 20000 in
set_option maxHeartbeats 4000000 in
theorem f_Land_moveMost_b27_ok {l : Launch} {X : Nat × (Nat → Int32)} (hst : l.stackTraces = false) {d : Nat} (hd : 3 ≤ d)     {h : Hp} {x0 : Nat} {x1 : Nat} {x2 : Nat} {x4 : Int32} {s0 : Int32} {r : Hp} (E : f_Land_moveMost_b27   h x0 x1 x2 x4 s0 = some r) : Rn l X mX3_moveMost d 27 [(0, .ref x0), (1, .ref x1), (2, .ref x2), (4, .int x4)] [.int s0] h (eV r) r := by
  unfold f_Land_moveMost_b27 at E
  refine Rn.istore (pc' := 29) (L' := [(5, .int s0), (0, .ref x0), (1, .ref x1), (2, .ref x2), (4, .int x4)]) dX3_moveMost_27 (by decide) rfl rfl ?_
  refine Rn.iload (pc' := 31) dX3_moveMost_29 0 rfl rfl ?_
  refine Rn.if_le (pc' := 34) (tgt := 41) dX3_moveMost_31 (by decide) rfl (fun c1 => ?_) (fun c1 => ?_)
  · replace E := (if_of E).1 c1
    refine Rn.sub [1, 2, 4, 0] rfl ?_
    exact f_Land_moveMost_b41_ok hst hd   E
  · replace E := (if_of E).2 c1
    refine Rn.aload_n (pc' := 35) dX3_moveMost_34 rfl 2 rfl rfl ?_
    refine Rn.aload_n (pc' := 36) dX3_moveMost_35 rfl 3 rfl rfl ?_
    refine Rn.iload (pc' := 38) dX3_moveMost_36 0 rfl rfl ?_
    obtain ⟨g2, E⟩ := gd_of E
    obtain ⟨h4, e5, E⟩ := bV_of E
    refine Rn.callV1 (pc' := 41) (As := [.ref x2, .int s0]) (rest := []) (f_Cistern_giveMost_ok hst e5) (Nat.le_trans (by decide) hd) rfl kb_X3_163 ki_X0_giveMost rfl g2 rfl rfl (Nat.le_of_ble_eq_true rfl) dX3_moveMost_38 rfl rfl ?_
    refine Rn.sub [1, 2, 4, 0] rfl ?_
    exact f_Land_moveMost_b41_ok hst hd   E
def f_Land_moveMost_b0   (h : Hp) (x0 : Nat) (x1 : Nat) (x2 : Nat) (x3 : Int32)  : Option (Hp) :=
if hS h x1 = 1 then (
bI (f_Math_min h x3 (hI h x1 5)) fun v2 h3 =>
if x2 = 0 then (
f_Land_moveMost_b27   h3 x0 x1 x2 v2 (0 : Int32)

) else (
if hS h3 x2 = 1 then (
bI (f_Cistern_free h3 x2) fun v7 h8 =>
bI (f_Math_min h8 v2 v7) fun v10 h11 =>
f_Land_moveMost_b27   h11 x0 x1 x2 v2 v10
) else none
)
) else none
set_option maxRecDepth 20000 in
set_option maxHeartbeats 4000000 in
theorem f_Land_moveMost_b0_ok {l : Launch} {X : Nat × (Nat → Int32)} (hst : l.stackTraces = false) {d : Nat} (hd : 3 ≤ d)     {h : Hp} {x0 : Nat} {x1 : Nat} {x2 : Nat} {x3 : Int32}  {r : Hp} (E : f_Land_moveMost_b0   h x0 x1 x2 x3 = some r) : Rn l X mX3_moveMost d 0 [(0, .ref x0), (1, .ref x1), (2, .ref x2), (3, .int x3)] [] h (eV r) r := by
  unfold f_Land_moveMost_b0 at E
  refine Rn.iload_n (pc' := 1) dX3_moveMost_0 rfl 3 rfl rfl ?_
  refine Rn.aload_n (pc' := 2) dX3_moveMost_1 rfl 1 rfl rfl ?_
  obtain ⟨g1, E⟩ := gd_of E
  refine Rn.getI (pc' := 5) fl_X3_160_0 g1 rfl dX3_moveMost_2 rfl ?_
  obtain ⟨v2, h3, e4, E⟩ := bI_of E
  refine Rn.callS1 (pc' := 8) (As := [.int x3, .int (hI h x1 5)]) (rest := []) (f_Math_min_ok hst e4) (Nat.le_trans (by decide) hd) rfl kb_X3_114 ks_J9_min_7cf53 rfl rfl (Nat.le_of_ble_eq_true rfl) dX3_moveMost_5 rfl rfl ?_
  refine Rn.istore (pc' := 10) (L' := [(4, .int v2), (0, .ref x0), (1, .ref x1), (2, .ref x2), (3, .int x3)]) dX3_moveMost_8 (by decide) rfl rfl ?_
  refine Rn.aload_n (pc' := 11) dX3_moveMost_10 rfl 3 rfl rfl ?_
  refine Rn.ifnonnull (pc' := 14) (tgt := 18) dX3_moveMost_11 (by decide) rfl (fun c5 => ?_) (fun c5 => ?_)
  · replace E := (if_of E).1 c5
    refine Rn.iconst (pc' := 15) (v := (0 : Int32)) (hv := by decide) dX3_moveMost_14 rfl ?_
    refine Rn.goto (pc' := 27) dX3_moveMost_15 (by decide) ?_
    refine Rn.sub [1, 2, 3, 0] rfl ?_
    exact f_Land_moveMost_b27_ok hst hd   E
  · replace E := (if_of E).2 c5
    refine Rn.iload (pc' := 20) dX3_moveMost_18 0 rfl rfl ?_
    refine Rn.aload_n (pc' := 21) dX3_moveMost_20 rfl 3 rfl rfl ?_
    obtain ⟨g6, E⟩ := gd_of E
    obtain ⟨v7, h8, e9, E⟩ := bI_of E
    refine Rn.callV1 (pc' := 24) (As := []) (rest := [.int v2]) (f_Cistern_free_ok hst e9) (Nat.le_trans (by decide) hd) rfl kb_X3_110 ki_X0_free rfl g6 rfl rfl (Nat.le_of_ble_eq_true rfl) dX3_moveMost_21 rfl rfl ?_
    obtain ⟨v10, h11, e12, E⟩ := bI_of E
    refine Rn.callS1 (pc' := 27) (As := [.int v2, .int v7]) (rest := []) (f_Math_min_ok hst e12) (Nat.le_trans (by decide) hd) rfl kb_X3_114 ks_J9_min_7cf53 rfl rfl (Nat.le_of_ble_eq_true rfl) dX3_moveMost_24 rfl rfl ?_
    refine Rn.sub [1, 2, 3, 0] rfl ?_
    exact f_Land_moveMost_b27_ok hst hd   E
def f_Land_moveMost (h : Hp) (x0 : Nat) (x1 : Nat) (x2 : Nat) (x3 : Int32) : Option (Hp) := f_Land_moveMost_b0  h x0 x1 x2 x3
theorem f_Land_moveMost_ok {l : Launch} {X : Nat × (Nat → Int32)} (hst : l.stackTraces = false) {h : Hp} {x0 : Nat} {x1 : Nat} {x2 : Nat} {x3 : Int32} {r : Hp} (E : f_Land_moveMost h x0 x1 x2 x3 = some r) : MC l X yX3_moveMost mX3_moveMost 3 [.ref x0, .ref x1, .ref x2, .int x3] h (eV r) r :=
  MC.body (by decide +kernel) rfl (by decide) hst (Nat.le_of_ble_eq_true rfl) (f_Land_moveMost_b0_ok hst (Nat.le_refl _) E)
abbrev mX3_hasCistern : MI := (RX3, cX3_hasCistern, 2, (some Jvm.ClassFile.FieldType.boolean), [], false)
theorem ws_X3_hasCistern : ∀ w ∈ wsM yX3_hasCistern mX3_hasCistern, w ∈ gw := List.forall_mem_cons.mpr ⟨gw_at 582 (by decide +kernel) (by decide +kernel), fun _ h => h⟩
def f_Land_hasCistern_b0   (h : Hp) (x0 : Nat) (x1 : Int32)  : Option (Int32 × Hp) :=
if x1 < 0 then (
some ((0 : Int32), h)

) else (
if hS h x0 = 4 then (
if (hI h x0 0) ≤ x1 then (
some ((0 : Int32), h)

) else (
if (8 : Int32) < (hI h x0 0) then (
some ((0 : Int32), h)

) else (
some ((1 : Int32), h)

)

)
) else none
)

set_option maxRecDepth 20000 in
set_option maxHeartbeats 4000000 in
theorem f_Land_hasCistern_b0_ok {l : Launch} {X : Nat × (Nat → Int32)} (hst : l.stackTraces = false) {d : Nat} (hd : 0 ≤ d)     {h : Hp} {x0 : Nat} {x1 : Int32}  {r : Int32 × Hp} (E : f_Land_hasCistern_b0   h x0 x1 = some r) : Rn l X mX3_hasCistern d 0 [(0, .ref x0), (1, .int x1)] [] h (eI r) r.2 := by
  unfold f_Land_hasCistern_b0 at E
  refine Rn.iload_n (pc' := 1) dX3_hasCistern_0 rfl 1 rfl rfl ?_
  refine Rn.if_lt (pc' := 4) (tgt := 25) dX3_hasCistern_1 (by decide) rfl (fun c1 => ?_) (fun c1 => ?_)
  · replace E := (if_of E).1 c1
    refine Rn.iconst (pc' := 26) (v := (0 : Int32)) (hv := by decide) dX3_hasCistern_25 rfl ?_
    cases E
    exact Rn.zret rfl rfl dX3_hasCistern_26
  · replace E := (if_of E).2 c1
    refine Rn.iload_n (pc' := 5) dX3_hasCistern_4 rfl 1 rfl rfl ?_
    refine Rn.aload_n (pc' := 6) dX3_hasCistern_5 rfl 0 rfl rfl ?_
    obtain ⟨g2, E⟩ := gd_of E
    refine Rn.getI (pc' := 9) fl_X3_43_3 g2 rfl dX3_hasCistern_6 rfl ?_
    refine Rn.icmp_ge (pc' := 12) (tgt := 25) dX3_hasCistern_9 (by decide) rfl (fun c3 => ?_) (fun c3 => ?_)
    · replace E := (if_of E).1 c3
      refine Rn.iconst (pc' := 26) (v := (0 : Int32)) (hv := by decide) dX3_hasCistern_25 rfl ?_
      cases E
      exact Rn.zret rfl rfl dX3_hasCistern_26
    · replace E := (if_of E).2 c3
      refine Rn.aload_n (pc' := 13) dX3_hasCistern_12 rfl 0 rfl rfl ?_
      refine Rn.getI (pc' := 16) fl_X3_43_3 g2 rfl dX3_hasCistern_13 rfl ?_
      refine Rn.bipush (pc' := 18) (v := (8 : Int32)) (hv := by decide) dX3_hasCistern_16 rfl ?_
      refine Rn.icmp_gt (pc' := 21) (tgt := 25) dX3_hasCistern_18 (by decide) rfl (fun c4 => ?_) (fun c4 => ?_)
      · replace E := (if_of E).1 c4
        refine Rn.iconst (pc' := 26) (v := (0 : Int32)) (hv := by decide) dX3_hasCistern_25 rfl ?_
        cases E
        exact Rn.zret rfl rfl dX3_hasCistern_26
      · replace E := (if_of E).2 c4
        refine Rn.iconst (pc' := 22) (v := (1 : Int32)) (hv := by decide) dX3_hasCistern_21 rfl ?_
        refine Rn.goto (pc' := 26) dX3_hasCistern_22 (by decide) ?_
        cases E
        exact Rn.zret rfl rfl dX3_hasCistern_26
def f_Land_hasCistern (h : Hp) (x0 : Nat) (x1 : Int32) : Option (Int32 × Hp) := f_Land_hasCistern_b0  h x0 x1
theorem f_Land_hasCistern_ok {l : Launch} {X : Nat × (Nat → Int32)} (hst : l.stackTraces = false) {h : Hp} {x0 : Nat} {x1 : Int32} {r : Int32 × Hp} (E : f_Land_hasCistern h x0 x1 = some r) : MC l X yX3_hasCistern mX3_hasCistern 0 [.ref x0, .int x1] h (eI r) r.2 :=
  MC.body (by decide +kernel) rfl (by decide) hst (Nat.le_of_ble_eq_true rfl) (f_Land_hasCistern_b0_ok hst (Nat.le_refl _) E)
abbrev mX3_leakAll : MI := (RX3, cX3_leakAll, 3, none, [], false)
theorem ws_X3_leakAll : ∀ w ∈ wsM yX3_leakAll mX3_leakAll, w ∈ gw := List.forall_mem_cons.mpr ⟨gw_at 546 (by decide +kernel) (by decide +kernel), fun _ h => h⟩
theorem fl_X3_123_0 : FL RX3 123 0 3 := ⟨_, rfl, by decide, "VintageWater$Cistern", gw_at 280 (by decide +kernel) (by decide +kernel), Or.inl rfl⟩
theorem kb_X3_156 : KB RX3 156 yX3_moveMost mX3_moveMost 3 := ⟨gw_at 547 (by decide +kernel) (by decide +kernel), gw_at 113 (by decide +kernel) (by decide +kernel), trivial, ws_X3_moveMost, by decide +kernel, by decide +kernel, by decide +kernel, by decide⟩
theorem ki_X3_moveMost : Cond.instanceMethod yX3_moveMost ∈ gw ∧ Cond.selects yX3_moveMost.cls yX3_moveMost yX3_moveMost ∈ gw := ⟨gw_at 548 (by decide +kernel) (by decide +kernel), gw_at 549 (by decide +kernel) (by decide +kernel)⟩
def f_Land_leakAll_b58  (k2 : Hp → Nat → Int32 → Option (Hp)) (h : Hp) (x0 : Nat) (x1 : Int32) (x2 : Nat) (s0 : Nat) (s1 : Nat) (s2 : Nat) : Option (Hp) :=
if hS h x2 = 1 then (
if hS h s0 = 4 then (
bV (f_Land_moveMost h s0 s1 s2 (hI h x2 3)) fun h4 =>
k2 h4 x0 (x1 + (1 : Int32))
) else none) else none
set_option maxRecDepth 20000 in
set_option maxHeartbeats 4000000 in
theorem f_Land_leakAll_b58_ok {l : Launch} {X : Nat × (Nat → Int32)} (hst : l.stackTraces = false) {d : Nat} (hd : 4 ≤ d)   {k2 : Hp → Nat → Int32 → Option (Hp)} (hk2 : ∀ (h : Hp) (x0 : Nat) (x1 : Int32)  (r : Hp), k2 h x0 x1 = some r → Rn l X mX3_leakAll d 2 [(0, .ref x0), (1, .int x1)] [] h (eV r) r) {h : Hp} {x0 : Nat} {x1 : Int32} {x2 : Nat} {s0 : Nat} {s1 : Nat} {s2 : Nat} {r : Hp} (E : f_Land_leakAll_b58  k2 h x0 x1 x2 s0 s1 s2 = some r) : Rn l X mX3_leakAll d 58 [(0, .ref x0), (1, .int x1), (2, .ref x2)] [.ref s2, .ref s1, .ref s0] h (eV r) r := by
  unfold f_Land_leakAll_b58 at E
  refine Rn.aload_n (pc' := 59) dX3_leakAll_58 rfl 2 rfl rfl ?_
  obtain ⟨g1, E⟩ := gd_of E
  refine Rn.getI (pc' := 62) fl_X3_123_0 g1 rfl dX3_leakAll_59 rfl ?_
  obtain ⟨g2, E⟩ := gd_of E
  obtain ⟨h4, e5, E⟩ := bV_of E
  refine Rn.callV1 (pc' := 65) (As := [.ref s1, .ref s2, .int (hI h x2 3)]) (rest := []) (f_Land_moveMost_ok hst e5) (Nat.le_trans (by decide) hd) rfl kb_X3_156 ki_X3_moveMost rfl g2 rfl rfl (Nat.le_of_ble_eq_true rfl) dX3_leakAll_62 rfl rfl ?_
  refine Rn.iinc (pc' := 68) (v := (x1 + (1 : Int32))) (L' := [(1, .int (x1 + (1 : Int32))), (0, .ref x0), (2, .ref x2)]) dX3_leakAll_65 1 rfl rfl (by decide) rfl rfl ?_
  refine Rn.goto (pc' := 2) dX3_leakAll_68 (by decide) ?_
  refine Rn.sub [1, 0] rfl ?_
  exact hk2 _ _ _ _ E
theorem fl_X3_126_0 : FL RX3 126 0 4 := ⟨_, rfl, by decide, "VintageWater$Cistern", gw_at 283 (by decide +kernel) (by decide +kernel), Or.inl rfl⟩
theorem kb_X3_106 : KB RX3 106 yX3_hasCistern mX3_hasCistern 1 := ⟨gw_at 579 (by decide +kernel) (by decide +kernel), gw_at 113 (by decide +kernel) (by decide +kernel), trivial, ws_X3_hasCistern, by decide +kernel, by decide +kernel, by decide +kernel, by decide⟩
theorem ki_X3_hasCistern : Cond.instanceMethod yX3_hasCistern ∈ gw ∧ Cond.selects yX3_hasCistern.cls yX3_hasCistern yX3_hasCistern ∈ gw := ⟨gw_at 581 (by decide +kernel) (by decide +kernel), gw_at 2 (by decide +kernel) (by decide +kernel)⟩
def f_Land_leakAll_b32  (k2 : Hp → Nat → Int32 → Option (Hp)) (h : Hp) (x0 : Nat) (x1 : Int32) (x2 : Nat)  : Option (Hp) :=
if hS h x2 = 1 then (
if hS h x0 = 4 then (
bI (f_Land_hasCistern h x0 (hI h x2 4)) fun v3 h4 =>
if v3 = 0 then (
f_Land_leakAll_b58  k2 h4 x0 x1 x2 x0 x2 0

) else (
if hS h4 x0 = 4 then (
if hS h4 x2 = 1 then (
if hS h4 (hR h4 x0 3) = 23 then (
if ib (hI h4 x2 4) (hL h4 (hR h4 x0 3)) = true then (
f_Land_leakAll_b58  k2 h4 x0 x1 x2 x0 x2 (hR h4 (hR h4 x0 3) (ix (hI h4 x2 4)))
) else none) else none) else none) else none
)
) else none) else none
set_option maxRecDepth 20000 in
set_option maxHeartbeats 4000000 in
theorem f_Land_leakAll_b32_ok {l : Launch} {X : Nat × (Nat → Int32)} (hst : l.stackTraces = false) {d : Nat} (hd : 4 ≤ d)   {k2 : Hp → Nat → Int32 → Option (Hp)} (hk2 : ∀ (h : Hp) (x0 : Nat) (x1 : Int32)  (r : Hp), k2 h x0 x1 = some r → Rn l X mX3_leakAll d 2 [(0, .ref x0), (1, .int x1)] [] h (eV r) r) {h : Hp} {x0 : Nat} {x1 : Int32} {x2 : Nat}  {r : Hp} (E : f_Land_leakAll_b32  k2 h x0 x1 x2 = some r) : Rn l X mX3_leakAll d 32 [(0, .ref x0), (1, .int x1), (2, .ref x2)] [] h (eV r) r := by
  unfold f_Land_leakAll_b32 at E
  refine Rn.aload_n (pc' := 33) dX3_leakAll_32 rfl 0 rfl rfl ?_
  refine Rn.aload_n (pc' := 34) dX3_leakAll_33 rfl 2 rfl rfl ?_
  refine Rn.aload_n (pc' := 35) dX3_leakAll_34 rfl 0 rfl rfl ?_
  refine Rn.aload_n (pc' := 36) dX3_leakAll_35 rfl 2 rfl rfl ?_
  obtain ⟨g1, E⟩ := gd_of E
  refine Rn.getI (pc' := 39) fl_X3_126_0 g1 rfl dX3_leakAll_36 rfl ?_
  obtain ⟨g2, E⟩ := gd_of E
  obtain ⟨v3, h4, e5, E⟩ := bI_of E
  refine Rn.callV1 (pc' := 42) (As := [.int (hI h x2 4)]) (rest := [.ref x2, .ref x0]) (f_Land_hasCistern_ok hst e5) (Nat.le_trans (by decide) hd) rfl kb_X3_106 ki_X3_hasCistern rfl g2 rfl rfl (Nat.le_of_ble_eq_true rfl) dX3_leakAll_39 rfl rfl ?_
  refine Rn.if_eq (pc' := 45) (tgt := 57) dX3_leakAll_42 (by decide) rfl (fun c6 => ?_) (fun c6 => ?_)
  · replace E := (if_of E).1 c6
    refine Rn.null (pc' := 58) dX3_leakAll_57 rfl ?_
    exact f_Land_leakAll_b58_ok hst hd  hk2 E
  · replace E := (if_of E).2 c6
    refine Rn.aload_n (pc' := 46) dX3_leakAll_45 rfl 0 rfl rfl ?_
    obtain ⟨g7, E⟩ := gd_of E
    refine Rn.getR (pc' := 49) fl_X3_11_3 g7 rfl dX3_leakAll_46 rfl ?_
    refine Rn.aload_n (pc' := 50) dX3_leakAll_49 rfl 2 rfl rfl ?_
    obtain ⟨g8, E⟩ := gd_of E
    refine Rn.getI (pc' := 53) fl_X3_126_0 g8 rfl dX3_leakAll_50 rfl ?_
    obtain ⟨g9, E⟩ := gd_of E
    obtain ⟨g10, E⟩ := gd_of E
    refine Rn.aald (pc' := 54) g9 (by decide) (by decide) g10 dX3_leakAll_53 rfl ?_
    refine Rn.goto (pc' := 58) dX3_leakAll_54 (by decide) ?_
    exact f_Land_leakAll_b58_ok hst hd  hk2 E
theorem fl_X3_153_0 : FL RX3 153 0 1 := ⟨_, rfl, by decide, "VintageWater$Cistern", gw_at 274 (by decide +kernel) (by decide +kernel), Or.inl rfl⟩
def f_Land_leakAll_b2  (k2 : Hp → Nat → Int32 → Option (Hp)) (h : Hp) (x0 : Nat) (x1 : Int32)  : Option (Hp) :=
if hS h x0 = 4 then (
if (hI h x0 0) ≤ x1 then (
some h

) else (
if hS h (hR h x0 3) = 23 then (
if ib x1 (hL h (hR h x0 3)) = true then (
if hS h (hR h (hR h x0 3) (ix x1)) = 1 then (
if (hI h (hR h (hR h x0 3) (ix x1)) 1) = (3 : Int32) then (
bV (f_Land_moveMost h x0 (hR h (hR h x0 3) (ix x1)) 0 (1 : Int32)) fun h8 =>
f_Land_leakAll_b32  k2 h8 x0 x1 (hR h (hR h x0 3) (ix x1))

) else (
f_Land_leakAll_b32  k2 h x0 x1 (hR h (hR h x0 3) (ix x1))

)
) else none) else none) else none
)
) else none
set_option maxRecDepth 20000 in
set_option maxHeartbeats 4000000 in
theorem f_Land_leakAll_b2_ok {l : Launch} {X : Nat × (Nat → Int32)} (hst : l.stackTraces = false) {d : Nat} (hd : 4 ≤ d)   {k2 : Hp → Nat → Int32 → Option (Hp)} (hk2 : ∀ (h : Hp) (x0 : Nat) (x1 : Int32)  (r : Hp), k2 h x0 x1 = some r → Rn l X mX3_leakAll d 2 [(0, .ref x0), (1, .int x1)] [] h (eV r) r) {h : Hp} {x0 : Nat} {x1 : Int32}  {r : Hp} (E : f_Land_leakAll_b2  k2 h x0 x1 = some r) : Rn l X mX3_leakAll d 2 [(0, .ref x0), (1, .int x1)] [] h (eV r) r := by
  unfold f_Land_leakAll_b2 at E
  refine Rn.iload_n (pc' := 3) dX3_leakAll_2 rfl 1 rfl rfl ?_
  refine Rn.aload_n (pc' := 4) dX3_leakAll_3 rfl 0 rfl rfl ?_
  obtain ⟨g1, E⟩ := gd_of E
  refine Rn.getI (pc' := 7) fl_X3_43_3 g1 rfl dX3_leakAll_4 rfl ?_
  refine Rn.icmp_ge (pc' := 10) (tgt := 71) dX3_leakAll_7 (by decide) rfl (fun c2 => ?_) (fun c2 => ?_)
  · replace E := (if_of E).1 c2
    cases E
    exact Rn.vret rfl dX3_leakAll_71
  · replace E := (if_of E).2 c2
    refine Rn.aload_n (pc' := 11) dX3_leakAll_10 rfl 0 rfl rfl ?_
    refine Rn.getR (pc' := 14) fl_X3_11_3 g1 rfl dX3_leakAll_11 rfl ?_
    refine Rn.iload_n (pc' := 15) dX3_leakAll_14 rfl 1 rfl rfl ?_
    obtain ⟨g3, E⟩ := gd_of E
    obtain ⟨g4, E⟩ := gd_of E
    refine Rn.aald (pc' := 16) g3 (by decide) (by decide) g4 dX3_leakAll_15 rfl ?_
    refine Rn.astore_n (pc' := 17) (L' := [(2, .ref (hR h (hR h x0 3) (ix x1))), (0, .ref x0), (1, .int x1)]) dX3_leakAll_16 rfl (by decide) rfl rfl ?_
    refine Rn.aload_n (pc' := 18) dX3_leakAll_17 rfl 0 rfl rfl ?_
    obtain ⟨g5, E⟩ := gd_of E
    refine Rn.getI (pc' := 21) fl_X3_153_0 g5 rfl dX3_leakAll_18 rfl ?_
    refine Rn.iconst (pc' := 22) (v := (3 : Int32)) (hv := by decide) dX3_leakAll_21 rfl ?_
    refine Rn.icmp_ne (pc' := 25) (tgt := 32) dX3_leakAll_22 (by decide) rfl (fun c6 => ?_) (fun c6 => ?_)
    · replace E := (if_of E).2 c6
      refine Rn.sub [1, 2, 0] rfl ?_
      exact f_Land_leakAll_b32_ok hst hd  hk2 E
    · replace E := (if_of E).1 c6
      refine Rn.aload_n (pc' := 26) dX3_leakAll_25 rfl 1 rfl rfl ?_
      refine Rn.aload_n (pc' := 27) dX3_leakAll_26 rfl 0 rfl rfl ?_
      refine Rn.null (pc' := 28) dX3_leakAll_27 rfl ?_
      refine Rn.iconst (pc' := 29) (v := (1 : Int32)) (hv := by decide) dX3_leakAll_28 rfl ?_
      obtain ⟨h8, e9, E⟩ := bV_of E
      refine Rn.callV1 (pc' := 32) (As := [.ref (hR h (hR h x0 3) (ix x1)), .ref 0, .int (1 : Int32)]) (rest := []) (f_Land_moveMost_ok hst e9) (Nat.le_trans (by decide) hd) rfl kb_X3_156 ki_X3_moveMost rfl g1 rfl rfl (Nat.le_of_ble_eq_true rfl) dX3_leakAll_29 rfl rfl ?_
      refine Rn.sub [1, 2, 0] rfl ?_
      exact f_Land_leakAll_b32_ok hst hd  hk2 E
def f_Land_leakAll_L2   (n : Nat) : Hp → Nat → Int32 → Option (Hp) := Nat.rec (motive := fun _ => Hp → Nat → Int32 → Option (Hp)) (fun _ _ _ => none) (fun _ rec => f_Land_leakAll_b2   rec) n
theorem f_Land_leakAll_L2_ok {l : Launch} {X : Nat × (Nat → Int32)} (hst : l.stackTraces = false) {d : Nat} (hd : 4 ≤ d)     : ∀ (n : Nat) (h : Hp) (x0 : Nat) (x1 : Int32)  (r : Hp), f_Land_leakAll_L2   n h x0 x1 = some r → Rn l X mX3_leakAll d 2 [(0, .ref x0), (1, .int x1)] [] h (eV r) r := by
  intro n
  induction n with
  | zero => intro h x0 x1 r E; cases E
  | succ n ih => intro h x0 x1 r E; exact f_Land_leakAll_b2_ok hst hd   ih E
def f_Land_leakAll_b0   (h : Hp) (x0 : Nat)  : Option (Hp) :=
f_Land_leakAll_L2   FU h x0 (0 : Int32)

set_option maxRecDepth 20000 in
set_option maxHeartbeats 4000000 in
theorem f_Land_leakAll_b0_ok {l : Launch} {X : Nat × (Nat → Int32)} (hst : l.stackTraces = false) {d : Nat} (hd : 4 ≤ d)     {h : Hp} {x0 : Nat}  {r : Hp} (E : f_Land_leakAll_b0   h x0 = some r) : Rn l X mX3_leakAll d 0 [(0, .ref x0)] [] h (eV r) r := by
  unfold f_Land_leakAll_b0 at E
  refine Rn.iconst (pc' := 1) (v := (0 : Int32)) (hv := by decide) dX3_leakAll_0 rfl ?_
  refine Rn.istore_n (pc' := 2) (L' := [(1, .int (0 : Int32)), (0, .ref x0)]) dX3_leakAll_1 rfl (by decide) rfl rfl ?_
  refine Rn.sub [1, 0] rfl ?_
  exact f_Land_leakAll_L2_ok hst hd   FU _ _ _ _ E
def f_Land_leakAll (h : Hp) (x0 : Nat) : Option (Hp) := f_Land_leakAll_b0  h x0
theorem f_Land_leakAll_ok {l : Launch} {X : Nat × (Nat → Int32)} (hst : l.stackTraces = false) {h : Hp} {x0 : Nat} {r : Hp} (E : f_Land_leakAll h x0 = some r) : MC l X yX3_leakAll mX3_leakAll 4 [.ref x0] h (eV r) r :=
  MC.body (by decide +kernel) rfl (by decide) hst (Nat.le_of_ble_eq_true rfl) (f_Land_leakAll_b0_ok hst (Nat.le_refl _) E)
abbrev mX5_setFact : MI := (RX5, cX5_setFact, 4, none, [], false)
theorem ws_X5_setFact : ∀ w ∈ wsM yX5_setFact mX5_setFact, w ∈ gw := List.forall_mem_cons.mpr ⟨gw_at 603 (by decide +kernel) (by decide +kernel), fun _ h => h⟩
theorem fl_X5_9_5 : FL RX5 9 5 4 := ⟨_, rfl, by decide, "VintageWater$Law", gw_at 1082 (by decide +kernel) (by decide +kernel), Or.inl rfl⟩
def f_Law_setFact_b0   (h : Hp) (x0 : Nat) (x1 : Int32) (x2 : Int32)  : Option (Hp) :=
if (x1 - (1000 : Int32)) < 0 then (
some h

) else (
if hS h x0 = 6 then (
if hS h (hR h x0 4) = 20 then (
if (Int32.ofNat (hL h (hR h x0 4))) ≤ (x1 - (1000 : Int32)) then (
some h

) else (
if ib (x1 - (1000 : Int32)) (hL h (hR h x0 4)) = true then (
wr (sI h (hR h x0 4) (ix (x1 - (1000 : Int32))) x2) fun h6 =>
some h6
) else none
)
) else none) else none
)

set_option maxRecDepth 20000 in
set_option maxHeartbeats 4000000 in
theorem f_Law_setFact_b0_ok {l : Launch} {X : Nat × (Nat → Int32)} (hst : l.stackTraces = false) {d : Nat} (hd : 0 ≤ d)     {h : Hp} {x0 : Nat} {x1 : Int32} {x2 : Int32}  {r : Hp} (E : f_Law_setFact_b0   h x0 x1 x2 = some r) : Rn l X mX5_setFact d 0 [(0, .ref x0), (1, .int x1), (2, .int x2)] [] h (eV r) r := by
  unfold f_Law_setFact_b0 at E
  refine Rn.iload_n (pc' := 1) dX5_setFact_0 rfl 1 rfl rfl ?_
  refine Rn.sipush (pc' := 4) (v := (1000 : Int32)) (hv := by decide) dX5_setFact_1 rfl ?_
  refine Rn.isub (pc' := 5) dX5_setFact_4 rfl ?_
  refine Rn.istore_n (pc' := 6) (L' := [(3, .int (x1 - (1000 : Int32))), (0, .ref x0), (1, .int x1), (2, .int x2)]) dX5_setFact_5 rfl (by decide) rfl rfl ?_
  refine Rn.iload_n (pc' := 7) dX5_setFact_6 rfl 0 rfl rfl ?_
  refine Rn.if_lt (pc' := 10) (tgt := 26) dX5_setFact_7 (by decide) rfl (fun c1 => ?_) (fun c1 => ?_)
  · replace E := (if_of E).1 c1
    cases E
    exact Rn.vret rfl dX5_setFact_26
  · replace E := (if_of E).2 c1
    refine Rn.iload_n (pc' := 11) dX5_setFact_10 rfl 0 rfl rfl ?_
    refine Rn.aload_n (pc' := 12) dX5_setFact_11 rfl 1 rfl rfl ?_
    obtain ⟨g2, E⟩ := gd_of E
    refine Rn.getR (pc' := 15) fl_X5_9_5 g2 rfl dX5_setFact_12 rfl ?_
    obtain ⟨g3, E⟩ := gd_of E
    refine Rn.alen (pc' := 16) g3 (by decide) (by decide) dX5_setFact_15 rfl ?_
    refine Rn.icmp_ge (pc' := 19) (tgt := 26) dX5_setFact_16 (by decide) rfl (fun c4 => ?_) (fun c4 => ?_)
    · replace E := (if_of E).1 c4
      cases E
      exact Rn.vret rfl dX5_setFact_26
    · replace E := (if_of E).2 c4
      refine Rn.aload_n (pc' := 20) dX5_setFact_19 rfl 1 rfl rfl ?_
      refine Rn.getR (pc' := 23) fl_X5_9_5 g2 rfl dX5_setFact_20 rfl ?_
      refine Rn.iload_n (pc' := 24) dX5_setFact_23 rfl 0 rfl rfl ?_
      refine Rn.iload_n (pc' := 25) dX5_setFact_24 rfl 3 rfl rfl ?_
      obtain ⟨g5, E⟩ := gd_of E
      refine Rn.iast (pc' := 26) g3 g5 dX5_setFact_25 rfl ?_
      replace E := wr_of E
      generalize eh7 : sI h (hR h x0 4) (ix (x1 - (1000 : Int32))) x2 = h6 at E ⊢
      cases E
      exact Rn.vret rfl dX5_setFact_26
def f_Law_setFact (h : Hp) (x0 : Nat) (x1 : Int32) (x2 : Int32) : Option (Hp) := f_Law_setFact_b0  h x0 x1 x2
theorem f_Law_setFact_ok {l : Launch} {X : Nat × (Nat → Int32)} (hst : l.stackTraces = false) {h : Hp} {x0 : Nat} {x1 : Int32} {x2 : Int32} {r : Hp} (E : f_Law_setFact h x0 x1 x2 = some r) : MC l X yX5_setFact mX5_setFact 0 [.ref x0, .int x1, .int x2] h (eV r) r :=
  MC.body (by decide +kernel) rfl (by decide) hst (Nat.le_of_ble_eq_true rfl) (f_Law_setFact_b0_ok hst (Nat.le_refl _) E)
abbrev mX5_holds : MI := (RX5, cX5_holds, 9, (some Jvm.ClassFile.FieldType.boolean), [], false)
theorem ws_X5_holds : ∀ w ∈ wsM yX5_holds mX5_holds, w ∈ gw := List.forall_mem_cons.mpr ⟨gw_at 612 (by decide +kernel) (by decide +kernel), fun _ h => h⟩
def f_Law_holds_b295  (k5 : Hp → Nat → Int32 → Int32 → Int32 → Option (Int32 × Hp)) (h : Hp) (x0 : Nat) (x2 : Int32) (x3 : Int32) (x4 : Int32)  : Option (Int32 × Hp) :=
k5 h x0 x2 x3 (x4 + (1 : Int32))

set_option maxRecDepth 20000 in
set_option maxHeartbeats 4000000 in
theorem f_Law_holds_b295_ok {l : Launch} {X : Nat × (Nat → Int32)} (hst : l.stackTraces = false) {d : Nat} (hd : 0 ≤ d)   {k5 : Hp → Nat → Int32 → Int32 → Int32 → Option (Int32 × Hp)} (hk5 : ∀ (h : Hp) (x0 : Nat) (x2 : Int32) (x3 : Int32) (x4 : Int32)  (r : Int32 × Hp), k5 h x0 x2 x3 x4 = some r → Rn l X mX5_holds d 5 [(0, .ref x0), (2, .int x2), (3, .int x3), (4, .int x4)] [] h (eI r) r.2) {h : Hp} {x0 : Nat} {x2 : Int32} {x3 : Int32} {x4 : Int32}  {r : Int32 × Hp} (E : f_Law_holds_b295  k5 h x0 x2 x3 x4 = some r) : Rn l X mX5_holds d 295 [(0, .ref x0), (2, .int x2), (3, .int x3), (4, .int x4)] [] h (eI r) r.2 := by
  unfold f_Law_holds_b295 at E
  refine Rn.iinc (pc' := 298) (v := (x4 + (1 : Int32))) (L' := [(4, .int (x4 + (1 : Int32))), (0, .ref x0), (2, .int x2), (3, .int x3)]) dX5_holds_295 3 rfl rfl (by decide) rfl rfl ?_
  refine Rn.goto (pc' := 5) dX5_holds_298 (by decide) ?_
  refine Rn.sub [1, 2, 3, 0] rfl ?_
  exact hk5 _ _ _ _ _ _ E
def f_Law_holds_b92  (k5 : Hp → Nat → Int32 → Int32 → Int32 → Option (Int32 × Hp)) (h : Hp) (x0 : Nat) (x2 : Int32) (x3 : Int32) (x4 : Int32) (s0 : Nat) (s1 : Int32) (s2 : Int32) : Option (Int32 × Hp) :=
if hS h s0 = 20 then (
if ib s1 (hL h s0) = true then (
wr (sI h s0 (ix s1) s2) fun h3 =>
f_Law_holds_b295  k5 h3 x0 x2 (x3 + (1 : Int32)) x4
) else none) else none
set_option maxRecDepth 20000 in
set_option maxHeartbeats 4000000 in
theorem f_Law_holds_b92_ok {l : Launch} {X : Nat × (Nat → Int32)} (hst : l.stackTraces = false) {d : Nat} (hd : 0 ≤ d)   {k5 : Hp → Nat → Int32 → Int32 → Int32 → Option (Int32 × Hp)} (hk5 : ∀ (h : Hp) (x0 : Nat) (x2 : Int32) (x3 : Int32) (x4 : Int32)  (r : Int32 × Hp), k5 h x0 x2 x3 x4 = some r → Rn l X mX5_holds d 5 [(0, .ref x0), (2, .int x2), (3, .int x3), (4, .int x4)] [] h (eI r) r.2) {h : Hp} {x0 : Nat} {x2 : Int32} {x3 : Int32} {x4 : Int32} {s0 : Nat} {s1 : Int32} {s2 : Int32} {r : Int32 × Hp} (E : f_Law_holds_b92  k5 h x0 x2 x3 x4 s0 s1 s2 = some r) : Rn l X mX5_holds d 92 [(0, .ref x0), (2, .int x2), (3, .int x3), (4, .int x4)] [.int s2, .int s1, .ref s0] h (eI r) r.2 := by
  unfold f_Law_holds_b92 at E
  obtain ⟨g1, E⟩ := gd_of E
  obtain ⟨g2, E⟩ := gd_of E
  refine Rn.iast (pc' := 93) g1 g2 dX5_holds_92 rfl ?_
  replace E := wr_of E
  generalize eh4 : sI h s0 (ix s1) s2 = h3 at E ⊢
  refine Rn.iinc (pc' := 96) (v := (x3 + (1 : Int32))) (L' := [(3, .int (x3 + (1 : Int32))), (0, .ref x0), (2, .int x2), (4, .int x4)]) dX5_holds_93 2 rfl rfl (by decide) rfl rfl ?_
  refine Rn.goto (pc' := 295) dX5_holds_96 (by decide) ?_
  refine Rn.sub [1, 2, 0, 3] rfl ?_
  exact f_Law_holds_b295_ok hst hd  hk5 E
def f_Law_holds_b90  (k5 : Hp → Nat → Int32 → Int32 → Int32 → Option (Int32 × Hp)) (h : Hp) (x0 : Nat) (x2 : Int32) (x3 : Int32) (x4 : Int32) (x5 : Int32) (s0 : Nat) (s1 : Int32) : Option (Int32 × Hp) :=
f_Law_holds_b92  k5 h x0 x2 x3 x4 s0 s1 x5

set_option maxRecDepth 20000 in
set_option maxHeartbeats 4000000 in
theorem f_Law_holds_b90_ok {l : Launch} {X : Nat × (Nat → Int32)} (hst : l.stackTraces = false) {d : Nat} (hd : 0 ≤ d)   {k5 : Hp → Nat → Int32 → Int32 → Int32 → Option (Int32 × Hp)} (hk5 : ∀ (h : Hp) (x0 : Nat) (x2 : Int32) (x3 : Int32) (x4 : Int32)  (r : Int32 × Hp), k5 h x0 x2 x3 x4 = some r → Rn l X mX5_holds d 5 [(0, .ref x0), (2, .int x2), (3, .int x3), (4, .int x4)] [] h (eI r) r.2) {h : Hp} {x0 : Nat} {x2 : Int32} {x3 : Int32} {x4 : Int32} {x5 : Int32} {s0 : Nat} {s1 : Int32} {r : Int32 × Hp} (E : f_Law_holds_b90  k5 h x0 x2 x3 x4 x5 s0 s1 = some r) : Rn l X mX5_holds d 90 [(0, .ref x0), (2, .int x2), (3, .int x3), (4, .int x4), (5, .int x5)] [.int s1, .ref s0] h (eI r) r.2 := by
  unfold f_Law_holds_b90 at E
  refine Rn.iload (pc' := 92) dX5_holds_90 4 rfl rfl ?_
  refine Rn.sub [0, 1, 2, 3] rfl ?_
  exact f_Law_holds_b92_ok hst hd  hk5 E
def f_Law_holds_b262  (k5 : Hp → Nat → Int32 → Int32 → Int32 → Option (Int32 × Hp)) (h : Hp) (x0 : Nat) (x2 : Int32) (x3 : Int32) (x4 : Int32) (s0 : Nat) (s1 : Int32) (s2 : Int32) : Option (Int32 × Hp) :=
if hS h s0 = 20 then (
if ib s1 (hL h s0) = true then (
wr (sI h s0 (ix s1) s2) fun h3 =>
f_Law_holds_b295  k5 h3 x0 x2 x3 x4
) else none) else none
set_option maxRecDepth 20000 in
set_option maxHeartbeats 4000000 in
theorem f_Law_holds_b262_ok {l : Launch} {X : Nat × (Nat → Int32)} (hst : l.stackTraces = false) {d : Nat} (hd : 0 ≤ d)   {k5 : Hp → Nat → Int32 → Int32 → Int32 → Option (Int32 × Hp)} (hk5 : ∀ (h : Hp) (x0 : Nat) (x2 : Int32) (x3 : Int32) (x4 : Int32)  (r : Int32 × Hp), k5 h x0 x2 x3 x4 = some r → Rn l X mX5_holds d 5 [(0, .ref x0), (2, .int x2), (3, .int x3), (4, .int x4)] [] h (eI r) r.2) {h : Hp} {x0 : Nat} {x2 : Int32} {x3 : Int32} {x4 : Int32} {s0 : Nat} {s1 : Int32} {s2 : Int32} {r : Int32 × Hp} (E : f_Law_holds_b262  k5 h x0 x2 x3 x4 s0 s1 s2 = some r) : Rn l X mX5_holds d 262 [(0, .ref x0), (2, .int x2), (3, .int x3), (4, .int x4)] [.int s2, .int s1, .ref s0] h (eI r) r.2 := by
  unfold f_Law_holds_b262 at E
  obtain ⟨g1, E⟩ := gd_of E
  obtain ⟨g2, E⟩ := gd_of E
  refine Rn.iast (pc' := 263) g1 g2 dX5_holds_262 rfl ?_
  replace E := wr_of E
  generalize eh4 : sI h s0 (ix s1) s2 = h3 at E ⊢
  refine Rn.goto (pc' := 295) dX5_holds_263 (by decide) ?_
  exact f_Law_holds_b295_ok hst hd  hk5 E
def f_Law_holds_b239  (k5 : Hp → Nat → Int32 → Int32 → Int32 → Option (Int32 × Hp)) (h : Hp) (x0 : Nat) (x2 : Int32) (x3 : Int32) (x4 : Int32) (s0 : Nat) (s1 : Int32) (s2 : Int32) : Option (Int32 × Hp) :=
if hS h s0 = 20 then (
if ib s1 (hL h s0) = true then (
wr (sI h s0 (ix s1) s2) fun h3 =>
f_Law_holds_b295  k5 h3 x0 x2 x3 x4
) else none) else none
set_option maxRecDepth 20000 in
set_option maxHeartbeats 4000000 in
theorem f_Law_holds_b239_ok {l : Launch} {X : Nat × (Nat → Int32)} (hst : l.stackTraces = false) {d : Nat} (hd : 0 ≤ d)   {k5 : Hp → Nat → Int32 → Int32 → Int32 → Option (Int32 × Hp)} (hk5 : ∀ (h : Hp) (x0 : Nat) (x2 : Int32) (x3 : Int32) (x4 : Int32)  (r : Int32 × Hp), k5 h x0 x2 x3 x4 = some r → Rn l X mX5_holds d 5 [(0, .ref x0), (2, .int x2), (3, .int x3), (4, .int x4)] [] h (eI r) r.2) {h : Hp} {x0 : Nat} {x2 : Int32} {x3 : Int32} {x4 : Int32} {s0 : Nat} {s1 : Int32} {s2 : Int32} {r : Int32 × Hp} (E : f_Law_holds_b239  k5 h x0 x2 x3 x4 s0 s1 s2 = some r) : Rn l X mX5_holds d 239 [(0, .ref x0), (2, .int x2), (3, .int x3), (4, .int x4)] [.int s2, .int s1, .ref s0] h (eI r) r.2 := by
  unfold f_Law_holds_b239 at E
  obtain ⟨g1, E⟩ := gd_of E
  obtain ⟨g2, E⟩ := gd_of E
  refine Rn.iast (pc' := 240) g1 g2 dX5_holds_239 rfl ?_
  replace E := wr_of E
  generalize eh4 : sI h s0 (ix s1) s2 = h3 at E ⊢
  refine Rn.goto (pc' := 295) dX5_holds_240 (by decide) ?_
  exact f_Law_holds_b295_ok hst hd  hk5 E
def f_Law_holds_b314   (h : Hp)   : Option (Int32 × Hp) :=
some ((1 : Int32), h)

set_option maxRecDepth 20000 in
set_option maxHeartbeats 4000000 in
theorem f_Law_holds_b314_ok {l : Launch} {X : Nat × (Nat → Int32)} (hst : l.stackTraces = false) {d : Nat} (hd : 0 ≤ d)     {h : Hp}   {r : Int32 × Hp} (E : f_Law_holds_b314   h  = some r) : Rn l X mX5_holds d 314 [] [] h (eI r) r.2 := by
  unfold f_Law_holds_b314 at E
  refine Rn.iconst (pc' := 315) (v := (1 : Int32)) (hv := by decide) dX5_holds_314 rfl ?_
  refine Rn.goto (pc' := 319) dX5_holds_315 (by decide) ?_
  cases E
  exact Rn.zret rfl rfl dX5_holds_319
theorem fl_X5_15_5 : FL RX5 15 5 5 := ⟨_, rfl, by decide, "VintageWater$Law", gw_at 1083 (by decide +kernel) (by decide +kernel), Or.inl rfl⟩
def f_Law_holds_b301   (h : Hp) (x0 : Nat) (x3 : Int32)  : Option (Int32 × Hp) :=
if x3 = 0 then (
f_Law_holds_b314   h

) else (
if hS h x0 = 6 then (
if hS h (hR h x0 5) = 20 then (
if ib (0 : Int32) (hL h (hR h x0 5)) = true then (
if (hI h (hR h x0 5) (ix (0 : Int32))) = 0 then (
some ((0 : Int32), h)

) else (
f_Law_holds_b314   h

)
) else none) else none) else none
)

set_option maxRecDepth 20000 in
set_option maxHeartbeats 4000000 in
theorem f_Law_holds_b301_ok {l : Launch} {X : Nat × (Nat → Int32)} (hst : l.stackTraces = false) {d : Nat} (hd : 0 ≤ d)     {h : Hp} {x0 : Nat} {x3 : Int32}  {r : Int32 × Hp} (E : f_Law_holds_b301   h x0 x3 = some r) : Rn l X mX5_holds d 301 [(0, .ref x0), (3, .int x3)] [] h (eI r) r.2 := by
  unfold f_Law_holds_b301 at E
  refine Rn.iload_n (pc' := 302) dX5_holds_301 rfl 1 rfl rfl ?_
  refine Rn.if_eq (pc' := 305) (tgt := 314) dX5_holds_302 (by decide) rfl (fun c1 => ?_) (fun c1 => ?_)
  · replace E := (if_of E).1 c1
    refine Rn.sub [] rfl ?_
    exact f_Law_holds_b314_ok hst hd   E
  · replace E := (if_of E).2 c1
    refine Rn.aload_n (pc' := 306) dX5_holds_305 rfl 0 rfl rfl ?_
    obtain ⟨g2, E⟩ := gd_of E
    refine Rn.getR (pc' := 309) fl_X5_15_5 g2 rfl dX5_holds_306 rfl ?_
    refine Rn.iconst (pc' := 310) (v := (0 : Int32)) (hv := by decide) dX5_holds_309 rfl ?_
    obtain ⟨g3, E⟩ := gd_of E
    obtain ⟨g4, E⟩ := gd_of E
    refine Rn.iald (pc' := 311) g3 g4 dX5_holds_310 rfl ?_
    refine Rn.if_eq (pc' := 314) (tgt := 318) dX5_holds_311 (by decide) rfl (fun c5 => ?_) (fun c5 => ?_)
    · replace E := (if_of E).1 c5
      refine Rn.iconst (pc' := 319) (v := (0 : Int32)) (hv := by decide) dX5_holds_318 rfl ?_
      cases E
      exact Rn.zret rfl rfl dX5_holds_319
    · replace E := (if_of E).2 c5
      refine Rn.sub [] rfl ?_
      exact f_Law_holds_b314_ok hst hd   E
theorem fl_X5_28_5 : FL RX5 28 5 3 := ⟨_, rfl, by decide, "VintageWater$Law", gw_at 1081 (by decide +kernel) (by decide +kernel), Or.inl rfl⟩
def f_Law_holds_b5  (k5 : Hp → Nat → Int32 → Int32 → Int32 → Option (Int32 × Hp)) (h : Hp) (x0 : Nat) (x2 : Int32) (x3 : Int32) (x4 : Int32)  : Option (Int32 × Hp) :=
if x4 < 0 then (
f_Law_holds_b301   h x0 x3

) else (
if x2 ≤ x4 then (
f_Law_holds_b301   h x0 x3

) else (
if hS h x0 = 6 then (
if hS h (hR h x0 3) = 20 then (
if (Int32.ofNat (hL h (hR h x0 3))) ≤ x4 then (
f_Law_holds_b301   h x0 x3

) else (
if ib x4 (hL h (hR h x0 3)) = true then (
if (1008 : Int32) < (hI h (hR h x0 3) (ix x4)) then (
if (hI h (hR h x0 3) (ix x4)) = (1009 : Int32) then (
if x3 ≤ 0 then (
f_Law_holds_b295  k5 h x0 x2 x3 x4

) else (
if hS h (hR h x0 5) = 20 then (
if ib (x3 - (1 : Int32)) (hL h (hR h x0 5)) = true then (
if ib (x3 - (1 : Int32)) (hL h (hR h x0 5)) = true then (
wr (sI h (hR h x0 5) (ix (x3 - (1 : Int32))) ((1 : Int32) - (hI h (hR h x0 5) (ix (x3 - (1 : Int32)))))) fun h13 =>
f_Law_holds_b295  k5 h13 x0 x2 x3 x4
) else none) else none) else none
)

) else (
if x3 ≤ (1 : Int32) then (
f_Law_holds_b295  k5 h x0 x2 x3 x4

) else (
if hS h (hR h x0 5) = 20 then (
if ib ((x3 + (-1 : Int32)) - (1 : Int32)) (hL h (hR h x0 5)) = true then (
if ib (x3 + (-1 : Int32)) (hL h (hR h x0 5)) = true then (
if (hI h (hR h x0 3) (ix x4)) = (1010 : Int32) then (
if ib ((x3 + (-1 : Int32)) - (1 : Int32)) (hL h (hR h x0 5)) = true then (
wr (sI h (hR h x0 5) (ix ((x3 + (-1 : Int32)) - (1 : Int32))) ((hI h (hR h x0 5) (ix ((x3 + (-1 : Int32)) - (1 : Int32)))) &&& (hI h (hR h x0 5) (ix (x3 + (-1 : Int32)))))) fun h23 =>
f_Law_holds_b295  k5 h23 x0 x2 (x3 + (-1 : Int32)) x4
) else none
) else (
if (hI h (hR h x0 3) (ix x4)) = (2043 : Int32) then (
if ib ((x3 + (-1 : Int32)) - (1 : Int32)) (hL h (hR h x0 5)) = true then (
wr (sI h (hR h x0 5) (ix ((x3 + (-1 : Int32)) - (1 : Int32))) ((hI h (hR h x0 5) (ix ((x3 + (-1 : Int32)) - (1 : Int32)))) + (hI h (hR h x0 5) (ix (x3 + (-1 : Int32)))))) fun h27 =>
f_Law_holds_b295  k5 h27 x0 x2 (x3 + (-1 : Int32)) x4
) else none
) else (
if (hI h (hR h x0 3) (ix x4)) = (2060 : Int32) then (
if (hI h (hR h x0 5) (ix (x3 + (-1 : Int32)))) ≤ (hI h (hR h x0 5) (ix ((x3 + (-1 : Int32)) - (1 : Int32)))) then (
f_Law_holds_b239  k5 h x0 x2 (x3 + (-1 : Int32)) x4 (hR h x0 5) ((x3 + (-1 : Int32)) - (1 : Int32)) (0 : Int32)

) else (
f_Law_holds_b239  k5 h x0 x2 (x3 + (-1 : Int32)) x4 (hR h x0 5) ((x3 + (-1 : Int32)) - (1 : Int32)) (1 : Int32)

)

) else (
if (hI h (hR h x0 3) (ix x4)) = (2062 : Int32) then (
if (hI h (hR h x0 5) (ix ((x3 + (-1 : Int32)) - (1 : Int32)))) ≤ (hI h (hR h x0 5) (ix (x3 + (-1 : Int32)))) then (
f_Law_holds_b262  k5 h x0 x2 (x3 + (-1 : Int32)) x4 (hR h x0 5) ((x3 + (-1 : Int32)) - (1 : Int32)) (0 : Int32)

) else (
f_Law_holds_b262  k5 h x0 x2 (x3 + (-1 : Int32)) x4 (hR h x0 5) ((x3 + (-1 : Int32)) - (1 : Int32)) (1 : Int32)

)

) else (
if ib ((x3 + (-1 : Int32)) - (1 : Int32)) (hL h (hR h x0 5)) = true then (
wr (sI h (hR h x0 5) (ix ((x3 + (-1 : Int32)) - (1 : Int32))) ((hI h (hR h x0 5) (ix ((x3 + (-1 : Int32)) - (1 : Int32)))) ||| (hI h (hR h x0 5) (ix (x3 + (-1 : Int32)))))) fun h34 =>
f_Law_holds_b295  k5 h34 x0 x2 (x3 + (-1 : Int32)) x4
) else none
))))
) else none) else none) else none
)

)

) else (
if hS h (hR h x0 5) = 20 then (
if (Int32.ofNat (hL h (hR h x0 5))) ≤ x3 then (
f_Law_holds_b295  k5 h x0 x2 x3 x4

) else (
if ((hI h (hR h x0 3) (ix x4)) - (1000 : Int32)) < 0 then (
f_Law_holds_b90  k5 h x0 x2 x3 x4 (hI h (hR h x0 3) (ix x4)) (hR h x0 5) x3

) else (
if hS h (hR h x0 4) = 20 then (
if (Int32.ofNat (hL h (hR h x0 4))) ≤ ((hI h (hR h x0 3) (ix x4)) - (1000 : Int32)) then (
f_Law_holds_b90  k5 h x0 x2 x3 x4 (hI h (hR h x0 3) (ix x4)) (hR h x0 5) x3

) else (
if ib ((hI h (hR h x0 3) (ix x4)) - (1000 : Int32)) (hL h (hR h x0 4)) = true then (
f_Law_holds_b92  k5 h x0 x2 x3 x4 (hR h x0 5) x3 (hI h (hR h x0 4) (ix ((hI h (hR h x0 3) (ix x4)) - (1000 : Int32))))
) else none
)
) else none
)

)
) else none
)
) else none
)
) else none) else none
)

)

set_option maxRecDepth 20000 in
set_option maxHeartbeats 4000000 in
theorem f_Law_holds_b5_ok {l : Launch} {X : Nat × (Nat → Int32)} (hst : l.stackTraces = false) {d : Nat} (hd : 0 ≤ d)   {k5 : Hp → Nat → Int32 → Int32 → Int32 → Option (Int32 × Hp)} (hk5 : ∀ (h : Hp) (x0 : Nat) (x2 : Int32) (x3 : Int32) (x4 : Int32)  (r : Int32 × Hp), k5 h x0 x2 x3 x4 = some r → Rn l X mX5_holds d 5 [(0, .ref x0), (2, .int x2), (3, .int x3), (4, .int x4)] [] h (eI r) r.2) {h : Hp} {x0 : Nat} {x2 : Int32} {x3 : Int32} {x4 : Int32}  {r : Int32 × Hp} (E : f_Law_holds_b5  k5 h x0 x2 x3 x4 = some r) : Rn l X mX5_holds d 5 [(0, .ref x0), (2, .int x2), (3, .int x3), (4, .int x4)] [] h (eI r) r.2 := by
  unfold f_Law_holds_b5 at E
  refine Rn.iload (pc' := 7) dX5_holds_5 3 rfl rfl ?_
  refine Rn.if_lt (pc' := 10) (tgt := 301) dX5_holds_7 (by decide) rfl (fun c1 => ?_) (fun c1 => ?_)
  · replace E := (if_of E).1 c1
    refine Rn.sub [0, 2] rfl ?_
    exact f_Law_holds_b301_ok hst hd   E
  · replace E := (if_of E).2 c1
    refine Rn.iload (pc' := 12) dX5_holds_10 3 rfl rfl ?_
    refine Rn.iload_n (pc' := 13) dX5_holds_12 rfl 1 rfl rfl ?_
    refine Rn.icmp_ge (pc' := 16) (tgt := 301) dX5_holds_13 (by decide) rfl (fun c2 => ?_) (fun c2 => ?_)
    · replace E := (if_of E).1 c2
      refine Rn.sub [0, 2] rfl ?_
      exact f_Law_holds_b301_ok hst hd   E
    · replace E := (if_of E).2 c2
      refine Rn.iload (pc' := 18) dX5_holds_16 3 rfl rfl ?_
      refine Rn.aload_n (pc' := 19) dX5_holds_18 rfl 0 rfl rfl ?_
      obtain ⟨g3, E⟩ := gd_of E
      refine Rn.getR (pc' := 22) fl_X5_28_5 g3 rfl dX5_holds_19 rfl ?_
      obtain ⟨g4, E⟩ := gd_of E
      refine Rn.alen (pc' := 23) g4 (by decide) (by decide) dX5_holds_22 rfl ?_
      refine Rn.icmp_ge (pc' := 26) (tgt := 301) dX5_holds_23 (by decide) rfl (fun c5 => ?_) (fun c5 => ?_)
      · replace E := (if_of E).1 c5
        refine Rn.sub [0, 2] rfl ?_
        exact f_Law_holds_b301_ok hst hd   E
      · replace E := (if_of E).2 c5
        refine Rn.aload_n (pc' := 27) dX5_holds_26 rfl 0 rfl rfl ?_
        refine Rn.getR (pc' := 30) fl_X5_28_5 g3 rfl dX5_holds_27 rfl ?_
        refine Rn.iload (pc' := 32) dX5_holds_30 3 rfl rfl ?_
        obtain ⟨g6, E⟩ := gd_of E
        refine Rn.iald (pc' := 33) g4 g6 dX5_holds_32 rfl ?_
        refine Rn.istore (pc' := 35) (L' := [(5, .int (hI h (hR h x0 3) (ix x4))), (0, .ref x0), (2, .int x2), (3, .int x3), (4, .int x4)]) dX5_holds_33 (by decide) rfl rfl ?_
        refine Rn.iload (pc' := 37) dX5_holds_35 0 rfl rfl ?_
        refine Rn.sipush (pc' := 40) (v := (1000 : Int32)) (hv := by decide) dX5_holds_37 rfl ?_
        refine Rn.isub (pc' := 41) dX5_holds_40 rfl ?_
        refine Rn.istore (pc' := 43) (L' := [(6, .int ((hI h (hR h x0 3) (ix x4)) - (1000 : Int32))), (5, .int (hI h (hR h x0 3) (ix x4))), (0, .ref x0), (2, .int x2), (3, .int x3), (4, .int x4)]) dX5_holds_41 (by decide) rfl rfl ?_
        refine Rn.iload (pc' := 45) dX5_holds_43 1 rfl rfl ?_
        refine Rn.sipush (pc' := 48) (v := (1008 : Int32)) (hv := by decide) dX5_holds_45 rfl ?_
        refine Rn.icmp_gt (pc' := 51) (tgt := 99) dX5_holds_48 (by decide) rfl (fun c7 => ?_) (fun c7 => ?_)
        · replace E := (if_of E).1 c7
          refine Rn.iload (pc' := 101) dX5_holds_99 1 rfl rfl ?_
          refine Rn.sipush (pc' := 104) (v := (1009 : Int32)) (hv := by decide) dX5_holds_101 rfl ?_
          refine Rn.icmp_ne (pc' := 107) (tgt := 132) dX5_holds_104 (by decide) rfl (fun c8 => ?_) (fun c8 => ?_)
          · replace E := (if_of E).2 c8
            refine Rn.iload_n (pc' := 133) dX5_holds_132 rfl 4 rfl rfl ?_
            refine Rn.iconst (pc' := 134) (v := (1 : Int32)) (hv := by decide) dX5_holds_133 rfl ?_
            refine Rn.icmp_le (pc' := 137) (tgt := 295) dX5_holds_134 (by decide) rfl (fun c15 => ?_) (fun c15 => ?_)
            · replace E := (if_of E).1 c15
              refine Rn.sub [2, 3, 4, 5] rfl ?_
              exact f_Law_holds_b295_ok hst hd  hk5 E
            · replace E := (if_of E).2 c15
              refine Rn.iinc (pc' := 140) (v := (x3 + (-1 : Int32))) (L' := [(3, .int (x3 + (-1 : Int32))), (6, .int ((hI h (hR h x0 3) (ix x4)) - (1000 : Int32))), (5, .int (hI h (hR h x0 3) (ix x4))), (0, .ref x0), (2, .int x2), (4, .int x4)]) dX5_holds_137 4 rfl rfl (by decide) rfl rfl ?_
              refine Rn.aload_n (pc' := 141) dX5_holds_140 rfl 3 rfl rfl ?_
              refine Rn.getR (pc' := 144) fl_X5_15_5 g3 rfl dX5_holds_141 rfl ?_
              refine Rn.iload_n (pc' := 145) dX5_holds_144 rfl 0 rfl rfl ?_
              refine Rn.iconst (pc' := 146) (v := (1 : Int32)) (hv := by decide) dX5_holds_145 rfl ?_
              refine Rn.isub (pc' := 147) dX5_holds_146 rfl ?_
              obtain ⟨g16, E⟩ := gd_of E
              obtain ⟨g17, E⟩ := gd_of E
              refine Rn.iald (pc' := 148) g16 g17 dX5_holds_147 rfl ?_
              refine Rn.istore (pc' := 150) (L' := [(7, .int (hI h (hR h x0 5) (ix ((x3 + (-1 : Int32)) - (1 : Int32))))), (3, .int (x3 + (-1 : Int32))), (6, .int ((hI h (hR h x0 3) (ix x4)) - (1000 : Int32))), (5, .int (hI h (hR h x0 3) (ix x4))), (0, .ref x0), (2, .int x2), (4, .int x4)]) dX5_holds_148 (by decide) rfl rfl ?_
              refine Rn.aload_n (pc' := 151) dX5_holds_150 rfl 4 rfl rfl ?_
              refine Rn.getR (pc' := 154) fl_X5_15_5 g3 rfl dX5_holds_151 rfl ?_
              refine Rn.iload_n (pc' := 155) dX5_holds_154 rfl 1 rfl rfl ?_
              obtain ⟨g18, E⟩ := gd_of E
              refine Rn.iald (pc' := 156) g16 g18 dX5_holds_155 rfl ?_
              refine Rn.istore (pc' := 158) (L' := [(8, .int (hI h (hR h x0 5) (ix (x3 + (-1 : Int32))))), (7, .int (hI h (hR h x0 5) (ix ((x3 + (-1 : Int32)) - (1 : Int32))))), (3, .int (x3 + (-1 : Int32))), (6, .int ((hI h (hR h x0 3) (ix x4)) - (1000 : Int32))), (5, .int (hI h (hR h x0 3) (ix x4))), (0, .ref x0), (2, .int x2), (4, .int x4)]) dX5_holds_156 (by decide) rfl rfl ?_
              refine Rn.iload (pc' := 160) dX5_holds_158 4 rfl rfl ?_
              by_cases c21 : (hI h (hR h x0 3) (ix x4)) = (1010 : Int32)
              · replace E := (if_of E).1 c21
                skip
                refine Rn.look (x := (hI h (hR h x0 3) (ix x4))) (tgt := 266) dX5_holds_160 (by decide) (by rw [c21]; first | done | rfl) (by decide) ?_
                refine Rn.aload_n (pc' := 267) dX5_holds_266 rfl 5 rfl rfl ?_
                refine Rn.getR (pc' := 270) fl_X5_15_5 g3 rfl dX5_holds_267 rfl ?_
                refine Rn.iload_n (pc' := 271) dX5_holds_270 rfl 2 rfl rfl ?_
                refine Rn.iconst (pc' := 272) (v := (1 : Int32)) (hv := by decide) dX5_holds_271 rfl ?_
                refine Rn.isub (pc' := 273) dX5_holds_272 rfl ?_
                refine Rn.iload (pc' := 275) dX5_holds_273 1 rfl rfl ?_
                refine Rn.iload (pc' := 277) dX5_holds_275 0 rfl rfl ?_
                refine Rn.iand (pc' := 278) dX5_holds_277 rfl ?_
                obtain ⟨g22, E⟩ := gd_of E
                refine Rn.iast (pc' := 279) g16 g22 dX5_holds_278 rfl ?_
                replace E := wr_of E
                generalize eh24 : sI h (hR h x0 5) (ix ((x3 + (-1 : Int32)) - (1 : Int32))) ((hI h (hR h x0 5) (ix ((x3 + (-1 : Int32)) - (1 : Int32)))) &&& (hI h (hR h x0 5) (ix (x3 + (-1 : Int32))))) = h23 at E ⊢
                refine Rn.goto (pc' := 295) dX5_holds_279 (by decide) ?_
                refine Rn.sub [5, 6, 2, 7] rfl ?_
                exact f_Law_holds_b295_ok hst hd  hk5 E
              replace E := (if_of E).2 c21
              by_cases c25 : (hI h (hR h x0 3) (ix x4)) = (2043 : Int32)
              · replace E := (if_of E).1 c25
                skip
                refine Rn.look (x := (hI h (hR h x0 3) (ix x4))) (tgt := 204) dX5_holds_160 (by decide) (by rw [c25]; first | done | rfl) (by decide) ?_
                refine Rn.aload_n (pc' := 205) dX5_holds_204 rfl 5 rfl rfl ?_
                refine Rn.getR (pc' := 208) fl_X5_15_5 g3 rfl dX5_holds_205 rfl ?_
                refine Rn.iload_n (pc' := 209) dX5_holds_208 rfl 2 rfl rfl ?_
                refine Rn.iconst (pc' := 210) (v := (1 : Int32)) (hv := by decide) dX5_holds_209 rfl ?_
                refine Rn.isub (pc' := 211) dX5_holds_210 rfl ?_
                refine Rn.iload (pc' := 213) dX5_holds_211 1 rfl rfl ?_
                refine Rn.iload (pc' := 215) dX5_holds_213 0 rfl rfl ?_
                refine Rn.iadd (pc' := 216) dX5_holds_215 rfl ?_
                obtain ⟨g26, E⟩ := gd_of E
                refine Rn.iast (pc' := 217) g16 g26 dX5_holds_216 rfl ?_
                replace E := wr_of E
                generalize eh28 : sI h (hR h x0 5) (ix ((x3 + (-1 : Int32)) - (1 : Int32))) ((hI h (hR h x0 5) (ix ((x3 + (-1 : Int32)) - (1 : Int32)))) + (hI h (hR h x0 5) (ix (x3 + (-1 : Int32))))) = h27 at E ⊢
                refine Rn.goto (pc' := 295) dX5_holds_217 (by decide) ?_
                refine Rn.sub [5, 6, 2, 7] rfl ?_
                exact f_Law_holds_b295_ok hst hd  hk5 E
              replace E := (if_of E).2 c25
              by_cases c29 : (hI h (hR h x0 3) (ix x4)) = (2060 : Int32)
              · replace E := (if_of E).1 c29
                skip
                refine Rn.look (x := (hI h (hR h x0 3) (ix x4))) (tgt := 220) dX5_holds_160 (by decide) (by rw [c29]; first | done | rfl) (by decide) ?_
                refine Rn.aload_n (pc' := 221) dX5_holds_220 rfl 5 rfl rfl ?_
                refine Rn.getR (pc' := 224) fl_X5_15_5 g3 rfl dX5_holds_221 rfl ?_
                refine Rn.iload_n (pc' := 225) dX5_holds_224 rfl 2 rfl rfl ?_
                refine Rn.iconst (pc' := 226) (v := (1 : Int32)) (hv := by decide) dX5_holds_225 rfl ?_
                refine Rn.isub (pc' := 227) dX5_holds_226 rfl ?_
                refine Rn.iload (pc' := 229) dX5_holds_227 1 rfl rfl ?_
                refine Rn.iload (pc' := 231) dX5_holds_229 0 rfl rfl ?_
                refine Rn.icmp_ge (pc' := 234) (tgt := 238) dX5_holds_231 (by decide) rfl (fun c30 => ?_) (fun c30 => ?_)
                · replace E := (if_of E).1 c30
                  refine Rn.iconst (pc' := 239) (v := (0 : Int32)) (hv := by decide) dX5_holds_238 rfl ?_
                  refine Rn.sub [5, 6, 2, 7] rfl ?_
                  exact f_Law_holds_b239_ok hst hd  hk5 E
                · replace E := (if_of E).2 c30
                  refine Rn.iconst (pc' := 235) (v := (1 : Int32)) (hv := by decide) dX5_holds_234 rfl ?_
                  refine Rn.goto (pc' := 239) dX5_holds_235 (by decide) ?_
                  refine Rn.sub [5, 6, 2, 7] rfl ?_
                  exact f_Law_holds_b239_ok hst hd  hk5 E
              replace E := (if_of E).2 c29
              by_cases c31 : (hI h (hR h x0 3) (ix x4)) = (2062 : Int32)
              · replace E := (if_of E).1 c31
                skip
                refine Rn.look (x := (hI h (hR h x0 3) (ix x4))) (tgt := 243) dX5_holds_160 (by decide) (by rw [c31]; first | done | rfl) (by decide) ?_
                refine Rn.aload_n (pc' := 244) dX5_holds_243 rfl 5 rfl rfl ?_
                refine Rn.getR (pc' := 247) fl_X5_15_5 g3 rfl dX5_holds_244 rfl ?_
                refine Rn.iload_n (pc' := 248) dX5_holds_247 rfl 2 rfl rfl ?_
                refine Rn.iconst (pc' := 249) (v := (1 : Int32)) (hv := by decide) dX5_holds_248 rfl ?_
                refine Rn.isub (pc' := 250) dX5_holds_249 rfl ?_
                refine Rn.iload (pc' := 252) dX5_holds_250 1 rfl rfl ?_
                refine Rn.iload (pc' := 254) dX5_holds_252 0 rfl rfl ?_
                refine Rn.icmp_le (pc' := 257) (tgt := 261) dX5_holds_254 (by decide) rfl (fun c32 => ?_) (fun c32 => ?_)
                · replace E := (if_of E).1 c32
                  refine Rn.iconst (pc' := 262) (v := (0 : Int32)) (hv := by decide) dX5_holds_261 rfl ?_
                  refine Rn.sub [5, 6, 2, 7] rfl ?_
                  exact f_Law_holds_b262_ok hst hd  hk5 E
                · replace E := (if_of E).2 c32
                  refine Rn.iconst (pc' := 258) (v := (1 : Int32)) (hv := by decide) dX5_holds_257 rfl ?_
                  refine Rn.goto (pc' := 262) dX5_holds_258 (by decide) ?_
                  refine Rn.sub [5, 6, 2, 7] rfl ?_
                  exact f_Law_holds_b262_ok hst hd  hk5 E
              replace E := (if_of E).2 c31
              refine Rn.look (x := (hI h (hR h x0 3) (ix x4))) (tgt := 282) dX5_holds_160 (by decide) (look_no _ _ (List.forall_mem_cons.mpr ⟨look_nt (by decide) c21, List.forall_mem_cons.mpr ⟨look_nt (by decide) c25, List.forall_mem_cons.mpr ⟨look_nt (by decide) c29, List.forall_mem_cons.mpr ⟨look_nt (by decide) c31, fun _ h => absurd h List.not_mem_nil⟩⟩⟩⟩)) (by decide) ?_
              refine Rn.aload_n (pc' := 283) dX5_holds_282 rfl 5 rfl rfl ?_
              refine Rn.getR (pc' := 286) fl_X5_15_5 g3 rfl dX5_holds_283 rfl ?_
              refine Rn.iload_n (pc' := 287) dX5_holds_286 rfl 2 rfl rfl ?_
              refine Rn.iconst (pc' := 288) (v := (1 : Int32)) (hv := by decide) dX5_holds_287 rfl ?_
              refine Rn.isub (pc' := 289) dX5_holds_288 rfl ?_
              refine Rn.iload (pc' := 291) dX5_holds_289 1 rfl rfl ?_
              refine Rn.iload (pc' := 293) dX5_holds_291 0 rfl rfl ?_
              refine Rn.ior (pc' := 294) dX5_holds_293 rfl ?_
              obtain ⟨g33, E⟩ := gd_of E
              refine Rn.iast (pc' := 295) g16 g33 dX5_holds_294 rfl ?_
              replace E := wr_of E
              generalize eh35 : sI h (hR h x0 5) (ix ((x3 + (-1 : Int32)) - (1 : Int32))) ((hI h (hR h x0 5) (ix ((x3 + (-1 : Int32)) - (1 : Int32)))) ||| (hI h (hR h x0 5) (ix (x3 + (-1 : Int32))))) = h34 at E ⊢
              refine Rn.sub [5, 6, 2, 7] rfl ?_
              exact f_Law_holds_b295_ok hst hd  hk5 E
          · replace E := (if_of E).1 c8
            refine Rn.iload_n (pc' := 108) dX5_holds_107 rfl 4 rfl rfl ?_
            refine Rn.if_le (pc' := 111) (tgt := 295) dX5_holds_108 (by decide) rfl (fun c9 => ?_) (fun c9 => ?_)
            · replace E := (if_of E).1 c9
              refine Rn.sub [2, 3, 4, 5] rfl ?_
              exact f_Law_holds_b295_ok hst hd  hk5 E
            · replace E := (if_of E).2 c9
              refine Rn.aload_n (pc' := 112) dX5_holds_111 rfl 2 rfl rfl ?_
              refine Rn.getR (pc' := 115) fl_X5_15_5 g3 rfl dX5_holds_112 rfl ?_
              refine Rn.iload_n (pc' := 116) dX5_holds_115 rfl 4 rfl rfl ?_
              refine Rn.iconst (pc' := 117) (v := (1 : Int32)) (hv := by decide) dX5_holds_116 rfl ?_
              refine Rn.isub (pc' := 118) dX5_holds_117 rfl ?_
              refine Rn.iconst (pc' := 119) (v := (1 : Int32)) (hv := by decide) dX5_holds_118 rfl ?_
              refine Rn.aload_n (pc' := 120) dX5_holds_119 rfl 2 rfl rfl ?_
              refine Rn.getR (pc' := 123) fl_X5_15_5 g3 rfl dX5_holds_120 rfl ?_
              refine Rn.iload_n (pc' := 124) dX5_holds_123 rfl 4 rfl rfl ?_
              refine Rn.iconst (pc' := 125) (v := (1 : Int32)) (hv := by decide) dX5_holds_124 rfl ?_
              refine Rn.isub (pc' := 126) dX5_holds_125 rfl ?_
              obtain ⟨g10, E⟩ := gd_of E
              obtain ⟨g11, E⟩ := gd_of E
              refine Rn.iald (pc' := 127) g10 g11 dX5_holds_126 rfl ?_
              refine Rn.isub (pc' := 128) dX5_holds_127 rfl ?_
              obtain ⟨g12, E⟩ := gd_of E
              refine Rn.iast (pc' := 129) g10 g12 dX5_holds_128 rfl ?_
              replace E := wr_of E
              generalize eh14 : sI h (hR h x0 5) (ix (x3 - (1 : Int32))) ((1 : Int32) - (hI h (hR h x0 5) (ix (x3 - (1 : Int32))))) = h13 at E ⊢
              refine Rn.goto (pc' := 295) dX5_holds_129 (by decide) ?_
              refine Rn.sub [2, 3, 4, 5] rfl ?_
              exact f_Law_holds_b295_ok hst hd  hk5 E
        · replace E := (if_of E).2 c7
          refine Rn.iload_n (pc' := 52) dX5_holds_51 rfl 4 rfl rfl ?_
          refine Rn.aload_n (pc' := 53) dX5_holds_52 rfl 2 rfl rfl ?_
          refine Rn.getR (pc' := 56) fl_X5_15_5 g3 rfl dX5_holds_53 rfl ?_
          obtain ⟨g36, E⟩ := gd_of E
          refine Rn.alen (pc' := 57) g36 (by decide) (by decide) dX5_holds_56 rfl ?_
          refine Rn.icmp_ge (pc' := 60) (tgt := 295) dX5_holds_57 (by decide) rfl (fun c37 => ?_) (fun c37 => ?_)
          · replace E := (if_of E).1 c37
            refine Rn.sub [2, 3, 4, 5] rfl ?_
            exact f_Law_holds_b295_ok hst hd  hk5 E
          · replace E := (if_of E).2 c37
            refine Rn.aload_n (pc' := 61) dX5_holds_60 rfl 2 rfl rfl ?_
            refine Rn.getR (pc' := 64) fl_X5_15_5 g3 rfl dX5_holds_61 rfl ?_
            refine Rn.iload_n (pc' := 65) dX5_holds_64 rfl 4 rfl rfl ?_
            refine Rn.iload (pc' := 67) dX5_holds_65 0 rfl rfl ?_
            refine Rn.if_lt (pc' := 70) (tgt := 90) dX5_holds_67 (by decide) rfl (fun c38 => ?_) (fun c38 => ?_)
            · replace E := (if_of E).1 c38
              refine Rn.sub [2, 3, 4, 5, 1] rfl ?_
              exact f_Law_holds_b90_ok hst hd  hk5 E
            · replace E := (if_of E).2 c38
              refine Rn.iload (pc' := 72) dX5_holds_70 0 rfl rfl ?_
              refine Rn.aload_n (pc' := 73) dX5_holds_72 rfl 2 rfl rfl ?_
              refine Rn.getR (pc' := 76) fl_X5_9_5 g3 rfl dX5_holds_73 rfl ?_
              obtain ⟨g39, E⟩ := gd_of E
              refine Rn.alen (pc' := 77) g39 (by decide) (by decide) dX5_holds_76 rfl ?_
              refine Rn.icmp_ge (pc' := 80) (tgt := 90) dX5_holds_77 (by decide) rfl (fun c40 => ?_) (fun c40 => ?_)
              · replace E := (if_of E).1 c40
                refine Rn.sub [2, 3, 4, 5, 1] rfl ?_
                exact f_Law_holds_b90_ok hst hd  hk5 E
              · replace E := (if_of E).2 c40
                refine Rn.aload_n (pc' := 81) dX5_holds_80 rfl 2 rfl rfl ?_
                refine Rn.getR (pc' := 84) fl_X5_9_5 g3 rfl dX5_holds_81 rfl ?_
                refine Rn.iload (pc' := 86) dX5_holds_84 0 rfl rfl ?_
                obtain ⟨g41, E⟩ := gd_of E
                refine Rn.iald (pc' := 87) g39 g41 dX5_holds_86 rfl ?_
                refine Rn.goto (pc' := 92) dX5_holds_87 (by decide) ?_
                refine Rn.sub [2, 3, 4, 5] rfl ?_
                exact f_Law_holds_b92_ok hst hd  hk5 E
def f_Law_holds_L5   (n : Nat) : Hp → Nat → Int32 → Int32 → Int32 → Option (Int32 × Hp) := Nat.rec (motive := fun _ => Hp → Nat → Int32 → Int32 → Int32 → Option (Int32 × Hp)) (fun _ _ _ _ _ => none) (fun _ rec => f_Law_holds_b5   rec) n
theorem f_Law_holds_L5_ok {l : Launch} {X : Nat × (Nat → Int32)} (hst : l.stackTraces = false) {d : Nat} (hd : 0 ≤ d)     : ∀ (n : Nat) (h : Hp) (x0 : Nat) (x2 : Int32) (x3 : Int32) (x4 : Int32)  (r : Int32 × Hp), f_Law_holds_L5   n h x0 x2 x3 x4 = some r → Rn l X mX5_holds d 5 [(0, .ref x0), (2, .int x2), (3, .int x3), (4, .int x4)] [] h (eI r) r.2 := by
  intro n
  induction n with
  | zero => intro h x0 x2 x3 x4 r E; cases E
  | succ n ih => intro h x0 x2 x3 x4 r E; exact f_Law_holds_b5_ok hst hd   ih E
def f_Law_holds_b0   (h : Hp) (x0 : Nat) (x1 : Int32) (x2 : Int32)  : Option (Int32 × Hp) :=
f_Law_holds_L5   FU h x0 x2 (0 : Int32) x1

set_option maxRecDepth 20000 in
set_option maxHeartbeats 4000000 in
theorem f_Law_holds_b0_ok {l : Launch} {X : Nat × (Nat → Int32)} (hst : l.stackTraces = false) {d : Nat} (hd : 0 ≤ d)     {h : Hp} {x0 : Nat} {x1 : Int32} {x2 : Int32}  {r : Int32 × Hp} (E : f_Law_holds_b0   h x0 x1 x2 = some r) : Rn l X mX5_holds d 0 [(0, .ref x0), (1, .int x1), (2, .int x2)] [] h (eI r) r.2 := by
  unfold f_Law_holds_b0 at E
  refine Rn.iconst (pc' := 1) (v := (0 : Int32)) (hv := by decide) dX5_holds_0 rfl ?_
  refine Rn.istore_n (pc' := 2) (L' := [(3, .int (0 : Int32)), (0, .ref x0), (1, .int x1), (2, .int x2)]) dX5_holds_1 rfl (by decide) rfl rfl ?_
  refine Rn.iload_n (pc' := 3) dX5_holds_2 rfl 2 rfl rfl ?_
  refine Rn.istore (pc' := 5) (L' := [(4, .int x1), (3, .int (0 : Int32)), (0, .ref x0), (1, .int x1), (2, .int x2)]) dX5_holds_3 (by decide) rfl rfl ?_
  refine Rn.sub [2, 4, 1, 0] rfl ?_
  exact f_Law_holds_L5_ok hst hd   FU _ _ _ _ _ _ E
def f_Law_holds (h : Hp) (x0 : Nat) (x1 : Int32) (x2 : Int32) : Option (Int32 × Hp) := f_Law_holds_b0  h x0 x1 x2
theorem f_Law_holds_ok {l : Launch} {X : Nat × (Nat → Int32)} (hst : l.stackTraces = false) {h : Hp} {x0 : Nat} {x1 : Int32} {x2 : Int32} {r : Int32 × Hp} (E : f_Law_holds h x0 x1 x2 = some r) : MC l X yX5_holds mX5_holds 0 [.ref x0, .int x1, .int x2] h (eI r) r.2 :=
  MC.body (by decide +kernel) rfl (by decide) hst (Nat.le_of_ble_eq_true rfl) (f_Law_holds_b0_ok hst (Nat.le_refl _) E)
abbrev mX5_placeByFacts : MI := (RX5, cX5_placeByFacts, 4, (some Jvm.ClassFile.FieldType.int), [], false)
theorem ws_X5_placeByFacts : ∀ w ∈ wsM yX5_placeByFacts mX5_placeByFacts, w ∈ gw := List.forall_mem_cons.mpr ⟨gw_at 607 (by decide +kernel) (by decide +kernel), fun _ h => h⟩
theorem fl_X5_25_5 : FL RX5 25 5 2 := ⟨_, rfl, by decide, "VintageWater$Law", gw_at 1080 (by decide +kernel) (by decide +kernel), Or.inl rfl⟩
def f_Law_placeByFacts_b67  (k6 : Hp → Nat → Int32 → Int32 → Int32 → Option (Int32 × Hp)) (h : Hp) (x0 : Nat) (x1 : Int32) (x3 : Int32)  : Option (Int32 × Hp) :=
if hS h x0 = 6 then (
if hS h (hR h x0 2) = 20 then (
if ib x3 (hL h (hR h x0 2)) = true then (
k6 h x0 x1 (hI h (hR h x0 2) (ix x3)) (x3 + (1 : Int32))
) else none) else none) else none
set_option maxRecDepth 20000 in
set_option maxHeartbeats 4000000 in
theorem f_Law_placeByFacts_b67_ok {l : Launch} {X : Nat × (Nat → Int32)} (hst : l.stackTraces = false) {d : Nat} (hd : 1 ≤ d)   {k6 : Hp → Nat → Int32 → Int32 → Int32 → Option (Int32 × Hp)} (hk6 : ∀ (h : Hp) (x0 : Nat) (x1 : Int32) (x2 : Int32) (x3 : Int32)  (r : Int32 × Hp), k6 h x0 x1 x2 x3 = some r → Rn l X mX5_placeByFacts d 6 [(0, .ref x0), (1, .int x1), (2, .int x2), (3, .int x3)] [] h (eI r) r.2) {h : Hp} {x0 : Nat} {x1 : Int32} {x3 : Int32}  {r : Int32 × Hp} (E : f_Law_placeByFacts_b67  k6 h x0 x1 x3 = some r) : Rn l X mX5_placeByFacts d 67 [(0, .ref x0), (1, .int x1), (3, .int x3)] [] h (eI r) r.2 := by
  unfold f_Law_placeByFacts_b67 at E
  refine Rn.aload_n (pc' := 68) dX5_placeByFacts_67 rfl 0 rfl rfl ?_
  obtain ⟨g1, E⟩ := gd_of E
  refine Rn.getR (pc' := 71) fl_X5_25_5 g1 rfl dX5_placeByFacts_68 rfl ?_
  refine Rn.iload_n (pc' := 72) dX5_placeByFacts_71 rfl 2 rfl rfl ?_
  obtain ⟨g2, E⟩ := gd_of E
  obtain ⟨g3, E⟩ := gd_of E
  refine Rn.iald (pc' := 73) g2 g3 dX5_placeByFacts_72 rfl ?_
  refine Rn.istore_n (pc' := 74) (L' := [(2, .int (hI h (hR h x0 2) (ix x3))), (0, .ref x0), (1, .int x1), (3, .int x3)]) dX5_placeByFacts_73 rfl (by decide) rfl rfl ?_
  refine Rn.iinc (pc' := 77) (v := (x3 + (1 : Int32))) (L' := [(3, .int (x3 + (1 : Int32))), (2, .int (hI h (hR h x0 2) (ix x3))), (0, .ref x0), (1, .int x1)]) dX5_placeByFacts_74 3 rfl rfl (by decide) rfl rfl ?_
  refine Rn.goto (pc' := 6) dX5_placeByFacts_77 (by decide) ?_
  refine Rn.sub [2, 3, 1, 0] rfl ?_
  exact hk6 _ _ _ _ _ _ E
theorem fl_X5_18_5 : FL RX5 18 5 0 := ⟨_, rfl, by decide, "VintageWater$Law", gw_at 1077 (by decide +kernel) (by decide +kernel), Or.inl rfl⟩
theorem fl_X5_22_5 : FL RX5 22 5 1 := ⟨_, rfl, by decide, "VintageWater$Law", gw_at 1079 (by decide +kernel) (by decide +kernel), Or.inl rfl⟩
theorem kb_X5_35 : KB RX5 35 yX5_holds mX5_holds 2 := ⟨gw_at 608 (by decide +kernel) (by decide +kernel), gw_at 129 (by decide +kernel) (by decide +kernel), trivial, ws_X5_holds, by decide +kernel, by decide +kernel, by decide +kernel, by decide⟩
theorem ki_X5_holds : Cond.instanceMethod yX5_holds ∈ gw ∧ Cond.selects yX5_holds.cls yX5_holds yX5_holds ∈ gw := ⟨gw_at 610 (by decide +kernel) (by decide +kernel), gw_at 5 (by decide +kernel) (by decide +kernel)⟩
def f_Law_placeByFacts_b6  (k6 : Hp → Nat → Int32 → Int32 → Int32 → Option (Int32 × Hp)) (h : Hp) (x0 : Nat) (x1 : Int32) (x2 : Int32) (x3 : Int32)  : Option (Int32 × Hp) :=
if hS h x0 = 6 then (
if (hI h x0 0) ≤ x3 then (
some (x1, h)

) else (
if hS h (hR h x0 2) = 20 then (
if (Int32.ofNat (hL h (hR h x0 2))) ≤ x3 then (
some (x1, h)

) else (
if hS h (hR h x0 1) = 20 then (
if (Int32.ofNat (hL h (hR h x0 1))) ≤ x3 then (
some (x1, h)

) else (
if ib x3 (hL h (hR h x0 2)) = true then (
bI (f_Law_holds h x0 x2 (hI h (hR h x0 2) (ix x3))) fun v8 h9 =>
if v8 = 0 then (
f_Law_placeByFacts_b67  k6 h9 x0 x1 x3

) else (
if hS h9 x0 = 6 then (
if hS h9 (hR h9 x0 1) = 20 then (
if ib x3 (hL h9 (hR h9 x0 1)) = true then (
if (hI h9 (hR h9 x0 1) (ix x3)) = (-1 : Int32) then (
some ((-1 : Int32), h9)

) else (
if ib x3 (hL h9 (hR h9 x0 1)) = true then (
f_Law_placeByFacts_b67  k6 h9 x0 (x1 + (hI h9 (hR h9 x0 1) (ix x3))) x3
) else none
)
) else none) else none) else none
)
) else none
)
) else none
)
) else none
)
) else none
set_option maxRecDepth 20000 in
set_option maxHeartbeats 4000000 in
theorem f_Law_placeByFacts_b6_ok {l : Launch} {X : Nat × (Nat → Int32)} (hst : l.stackTraces = false) {d : Nat} (hd : 1 ≤ d)   {k6 : Hp → Nat → Int32 → Int32 → Int32 → Option (Int32 × Hp)} (hk6 : ∀ (h : Hp) (x0 : Nat) (x1 : Int32) (x2 : Int32) (x3 : Int32)  (r : Int32 × Hp), k6 h x0 x1 x2 x3 = some r → Rn l X mX5_placeByFacts d 6 [(0, .ref x0), (1, .int x1), (2, .int x2), (3, .int x3)] [] h (eI r) r.2) {h : Hp} {x0 : Nat} {x1 : Int32} {x2 : Int32} {x3 : Int32}  {r : Int32 × Hp} (E : f_Law_placeByFacts_b6  k6 h x0 x1 x2 x3 = some r) : Rn l X mX5_placeByFacts d 6 [(0, .ref x0), (1, .int x1), (2, .int x2), (3, .int x3)] [] h (eI r) r.2 := by
  unfold f_Law_placeByFacts_b6 at E
  refine Rn.iload_n (pc' := 7) dX5_placeByFacts_6 rfl 3 rfl rfl ?_
  refine Rn.aload_n (pc' := 8) dX5_placeByFacts_7 rfl 0 rfl rfl ?_
  obtain ⟨g1, E⟩ := gd_of E
  refine Rn.getI (pc' := 11) fl_X5_18_5 g1 rfl dX5_placeByFacts_8 rfl ?_
  refine Rn.icmp_ge (pc' := 14) (tgt := 80) dX5_placeByFacts_11 (by decide) rfl (fun c2 => ?_) (fun c2 => ?_)
  · replace E := (if_of E).1 c2
    refine Rn.iload_n (pc' := 81) dX5_placeByFacts_80 rfl 1 rfl rfl ?_
    cases E
    exact Rn.zret rfl rfl dX5_placeByFacts_81
  · replace E := (if_of E).2 c2
    refine Rn.iload_n (pc' := 15) dX5_placeByFacts_14 rfl 3 rfl rfl ?_
    refine Rn.aload_n (pc' := 16) dX5_placeByFacts_15 rfl 0 rfl rfl ?_
    refine Rn.getR (pc' := 19) fl_X5_25_5 g1 rfl dX5_placeByFacts_16 rfl ?_
    obtain ⟨g3, E⟩ := gd_of E
    refine Rn.alen (pc' := 20) g3 (by decide) (by decide) dX5_placeByFacts_19 rfl ?_
    refine Rn.icmp_ge (pc' := 23) (tgt := 80) dX5_placeByFacts_20 (by decide) rfl (fun c4 => ?_) (fun c4 => ?_)
    · replace E := (if_of E).1 c4
      refine Rn.iload_n (pc' := 81) dX5_placeByFacts_80 rfl 1 rfl rfl ?_
      cases E
      exact Rn.zret rfl rfl dX5_placeByFacts_81
    · replace E := (if_of E).2 c4
      refine Rn.iload_n (pc' := 24) dX5_placeByFacts_23 rfl 3 rfl rfl ?_
      refine Rn.aload_n (pc' := 25) dX5_placeByFacts_24 rfl 0 rfl rfl ?_
      refine Rn.getR (pc' := 28) fl_X5_22_5 g1 rfl dX5_placeByFacts_25 rfl ?_
      obtain ⟨g5, E⟩ := gd_of E
      refine Rn.alen (pc' := 29) g5 (by decide) (by decide) dX5_placeByFacts_28 rfl ?_
      refine Rn.icmp_ge (pc' := 32) (tgt := 80) dX5_placeByFacts_29 (by decide) rfl (fun c6 => ?_) (fun c6 => ?_)
      · replace E := (if_of E).1 c6
        refine Rn.iload_n (pc' := 81) dX5_placeByFacts_80 rfl 1 rfl rfl ?_
        cases E
        exact Rn.zret rfl rfl dX5_placeByFacts_81
      · replace E := (if_of E).2 c6
        refine Rn.aload_n (pc' := 33) dX5_placeByFacts_32 rfl 0 rfl rfl ?_
        refine Rn.iload_n (pc' := 34) dX5_placeByFacts_33 rfl 2 rfl rfl ?_
        refine Rn.aload_n (pc' := 35) dX5_placeByFacts_34 rfl 0 rfl rfl ?_
        refine Rn.getR (pc' := 38) fl_X5_25_5 g1 rfl dX5_placeByFacts_35 rfl ?_
        refine Rn.iload_n (pc' := 39) dX5_placeByFacts_38 rfl 3 rfl rfl ?_
        obtain ⟨g7, E⟩ := gd_of E
        refine Rn.iald (pc' := 40) g3 g7 dX5_placeByFacts_39 rfl ?_
        obtain ⟨v8, h9, e10, E⟩ := bI_of E
        refine Rn.callV1 (pc' := 43) (As := [.int x2, .int (hI h (hR h x0 2) (ix x3))]) (rest := []) (f_Law_holds_ok hst e10) (Nat.le_trans (by decide) hd) rfl kb_X5_35 ki_X5_holds rfl g1 rfl rfl (Nat.le_of_ble_eq_true rfl) dX5_placeByFacts_40 rfl rfl ?_
        refine Rn.if_eq (pc' := 46) (tgt := 67) dX5_placeByFacts_43 (by decide) rfl (fun c11 => ?_) (fun c11 => ?_)
        · replace E := (if_of E).1 c11
          refine Rn.sub [0, 1, 3] rfl ?_
          exact f_Law_placeByFacts_b67_ok hst hd  hk6 E
        · replace E := (if_of E).2 c11
          refine Rn.aload_n (pc' := 47) dX5_placeByFacts_46 rfl 0 rfl rfl ?_
          obtain ⟨g12, E⟩ := gd_of E
          refine Rn.getR (pc' := 50) fl_X5_22_5 g12 rfl dX5_placeByFacts_47 rfl ?_
          refine Rn.iload_n (pc' := 51) dX5_placeByFacts_50 rfl 3 rfl rfl ?_
          obtain ⟨g13, E⟩ := gd_of E
          obtain ⟨g14, E⟩ := gd_of E
          refine Rn.iald (pc' := 52) g13 g14 dX5_placeByFacts_51 rfl ?_
          refine Rn.iconst (pc' := 53) (v := (-1 : Int32)) (hv := by decide) dX5_placeByFacts_52 rfl ?_
          refine Rn.icmp_ne (pc' := 56) (tgt := 58) dX5_placeByFacts_53 (by decide) rfl (fun c15 => ?_) (fun c15 => ?_)
          · replace E := (if_of E).2 c15
            refine Rn.iload_n (pc' := 59) dX5_placeByFacts_58 rfl 1 rfl rfl ?_
            refine Rn.aload_n (pc' := 60) dX5_placeByFacts_59 rfl 0 rfl rfl ?_
            refine Rn.getR (pc' := 63) fl_X5_22_5 g12 rfl dX5_placeByFacts_60 rfl ?_
            refine Rn.iload_n (pc' := 64) dX5_placeByFacts_63 rfl 3 rfl rfl ?_
            obtain ⟨g16, E⟩ := gd_of E
            refine Rn.iald (pc' := 65) g13 g16 dX5_placeByFacts_64 rfl ?_
            refine Rn.iadd (pc' := 66) dX5_placeByFacts_65 rfl ?_
            refine Rn.istore_n (pc' := 67) (L' := [(1, .int (x1 + (hI h9 (hR h9 x0 1) (ix x3)))), (0, .ref x0), (2, .int x2), (3, .int x3)]) dX5_placeByFacts_66 rfl (by decide) rfl rfl ?_
            refine Rn.sub [1, 0, 3] rfl ?_
            exact f_Law_placeByFacts_b67_ok hst hd  hk6 E
          · replace E := (if_of E).1 c15
            refine Rn.iconst (pc' := 57) (v := (-1 : Int32)) (hv := by decide) dX5_placeByFacts_56 rfl ?_
            cases E
            exact Rn.zret rfl rfl dX5_placeByFacts_57
def f_Law_placeByFacts_L6   (n : Nat) : Hp → Nat → Int32 → Int32 → Int32 → Option (Int32 × Hp) := Nat.rec (motive := fun _ => Hp → Nat → Int32 → Int32 → Int32 → Option (Int32 × Hp)) (fun _ _ _ _ _ => none) (fun _ rec => f_Law_placeByFacts_b6   rec) n
theorem f_Law_placeByFacts_L6_ok {l : Launch} {X : Nat × (Nat → Int32)} (hst : l.stackTraces = false) {d : Nat} (hd : 1 ≤ d)     : ∀ (n : Nat) (h : Hp) (x0 : Nat) (x1 : Int32) (x2 : Int32) (x3 : Int32)  (r : Int32 × Hp), f_Law_placeByFacts_L6   n h x0 x1 x2 x3 = some r → Rn l X mX5_placeByFacts d 6 [(0, .ref x0), (1, .int x1), (2, .int x2), (3, .int x3)] [] h (eI r) r.2 := by
  intro n
  induction n with
  | zero => intro h x0 x1 x2 x3 r E; cases E
  | succ n ih => intro h x0 x1 x2 x3 r E; exact f_Law_placeByFacts_b6_ok hst hd   ih E
def f_Law_placeByFacts_b0   (h : Hp) (x0 : Nat)  : Option (Int32 × Hp) :=
f_Law_placeByFacts_L6   FU h x0 (0 : Int32) (0 : Int32) (0 : Int32)

set_option maxRecDepth 20000 in
set_option maxHeartbeats 4000000 in
theorem f_Law_placeByFacts_b0_ok {l : Launch} {X : Nat × (Nat → Int32)} (hst : l.stackTraces = false) {d : Nat} (hd : 1 ≤ d)     {h : Hp} {x0 : Nat}  {r : Int32 × Hp} (E : f_Law_placeByFacts_b0   h x0 = some r) : Rn l X mX5_placeByFacts d 0 [(0, .ref x0)] [] h (eI r) r.2 := by
  unfold f_Law_placeByFacts_b0 at E
  refine Rn.iconst (pc' := 1) (v := (0 : Int32)) (hv := by decide) dX5_placeByFacts_0 rfl ?_
  refine Rn.istore_n (pc' := 2) (L' := [(1, .int (0 : Int32)), (0, .ref x0)]) dX5_placeByFacts_1 rfl (by decide) rfl rfl ?_
  refine Rn.iconst (pc' := 3) (v := (0 : Int32)) (hv := by decide) dX5_placeByFacts_2 rfl ?_
  refine Rn.istore_n (pc' := 4) (L' := [(2, .int (0 : Int32)), (1, .int (0 : Int32)), (0, .ref x0)]) dX5_placeByFacts_3 rfl (by decide) rfl rfl ?_
  refine Rn.iconst (pc' := 5) (v := (0 : Int32)) (hv := by decide) dX5_placeByFacts_4 rfl ?_
  refine Rn.istore_n (pc' := 6) (L' := [(3, .int (0 : Int32)), (2, .int (0 : Int32)), (1, .int (0 : Int32)), (0, .ref x0)]) dX5_placeByFacts_5 rfl (by decide) rfl rfl ?_
  refine Rn.sub [3, 2, 1, 0] rfl ?_
  exact f_Law_placeByFacts_L6_ok hst hd   FU _ _ _ _ _ _ E
def f_Law_placeByFacts (h : Hp) (x0 : Nat) : Option (Int32 × Hp) := f_Law_placeByFacts_b0  h x0
theorem f_Law_placeByFacts_ok {l : Launch} {X : Nat × (Nat → Int32)} (hst : l.stackTraces = false) {h : Hp} {x0 : Nat} {r : Int32 × Hp} (E : f_Law_placeByFacts h x0 = some r) : MC l X yX5_placeByFacts mX5_placeByFacts 1 [.ref x0] h (eI r) r.2 :=
  MC.body (by decide +kernel) rfl (by decide) hst (Nat.le_of_ble_eq_true rfl) (f_Law_placeByFacts_b0_ok hst (Nat.le_refl _) E)
abbrev mX3_placeIn : MI := (RX3, cX3_placeIn, 4, (some Jvm.ClassFile.FieldType.int), [], false)
theorem ws_X3_placeIn : ∀ w ∈ wsM yX3_placeIn mX3_placeIn, w ∈ gw := List.forall_mem_cons.mpr ⟨gw_at 594 (by decide +kernel) (by decide +kernel), fun _ h => h⟩
def f_Land_placeIn_b54   (h : Hp)   : Option (Int32 × Hp) :=
some ((-1 : Int32), h)

set_option maxRecDepth 20000 in
set_option maxHeartbeats 4000000 in
theorem f_Land_placeIn_b54_ok {l : Launch} {X : Nat × (Nat → Int32)} (hst : l.stackTraces = false) {d : Nat} (hd : 2 ≤ d)     {h : Hp}   {r : Int32 × Hp} (E : f_Land_placeIn_b54   h  = some r) : Rn l X mX3_placeIn d 54 [] [] h (eI r) r.2 := by
  unfold f_Land_placeIn_b54 at E
  refine Rn.iconst (pc' := 55) (v := (-1 : Int32)) (hv := by decide) dX3_placeIn_54 rfl ?_
  refine Rn.goto (pc' := 59) dX3_placeIn_55 (by decide) ?_
  cases E
  exact Rn.zret rfl rfl dX3_placeIn_59
theorem kb_X3_212 : KB RX3 212 yX5_setFact mX5_setFact 2 := ⟨gw_at 600 (by decide +kernel) (by decide +kernel), gw_at 129 (by decide +kernel) (by decide +kernel), trivial, ws_X5_setFact, by decide +kernel, by decide +kernel, by decide +kernel, by decide⟩
theorem ki_X5_setFact : Cond.instanceMethod yX5_setFact ∈ gw ∧ Cond.selects yX5_setFact.cls yX5_setFact yX5_setFact ∈ gw := ⟨gw_at 601 (by decide +kernel) (by decide +kernel), gw_at 602 (by decide +kernel) (by decide +kernel)⟩
theorem kb_X3_215 : KB RX3 215 yX5_placeByFacts mX5_placeByFacts 0 := ⟨gw_at 604 (by decide +kernel) (by decide +kernel), gw_at 129 (by decide +kernel) (by decide +kernel), trivial, ws_X5_placeByFacts, by decide +kernel, by decide +kernel, by decide +kernel, by decide⟩
theorem ki_X5_placeByFacts : Cond.instanceMethod yX5_placeByFacts ∈ gw ∧ Cond.selects yX5_placeByFacts.cls yX5_placeByFacts yX5_placeByFacts ∈ gw := ⟨gw_at 605 (by decide +kernel) (by decide +kernel), gw_at 606 (by decide +kernel) (by decide +kernel)⟩
def f_Land_placeIn_b219   (h : Hp) (x0 : Nat) (s0 : Nat) (s1 : Int32) (s2 : Int32) : Option (Int32 × Hp) :=
if hS h s0 = 6 then (
bV (f_Law_setFact h s0 s1 s2) fun h3 =>
if hS h3 x0 = 4 then (
if hS h3 (hR h3 x0 8) = 6 then (
bI (f_Law_placeByFacts h3 (hR h3 x0 8)) fun v7 h8 =>
some (v7, h8)
) else none) else none) else none
set_option maxRecDepth 20000 in
set_option maxHeartbeats 4000000 in
theorem f_Land_placeIn_b219_ok {l : Launch} {X : Nat × (Nat → Int32)} (hst : l.stackTraces = false) {d : Nat} (hd : 2 ≤ d)     {h : Hp} {x0 : Nat} {s0 : Nat} {s1 : Int32} {s2 : Int32} {r : Int32 × Hp} (E : f_Land_placeIn_b219   h x0 s0 s1 s2 = some r) : Rn l X mX3_placeIn d 219 [(0, .ref x0)] [.int s2, .int s1, .ref s0] h (eI r) r.2 := by
  unfold f_Land_placeIn_b219 at E
  obtain ⟨g1, E⟩ := gd_of E
  obtain ⟨h3, e4, E⟩ := bV_of E
  refine Rn.callV1 (pc' := 222) (As := [.int s1, .int s2]) (rest := []) (f_Law_setFact_ok hst e4) (Nat.le_trans (by decide) hd) rfl kb_X3_212 ki_X5_setFact rfl g1 rfl rfl (Nat.le_of_ble_eq_true rfl) dX3_placeIn_219 rfl rfl ?_
  refine Rn.aload_n (pc' := 223) dX3_placeIn_222 rfl 0 rfl rfl ?_
  obtain ⟨g5, E⟩ := gd_of E
  refine Rn.getR (pc' := 226) fl_X3_68_3 g5 rfl dX3_placeIn_223 rfl ?_
  obtain ⟨g6, E⟩ := gd_of E
  obtain ⟨v7, h8, e9, E⟩ := bI_of E
  refine Rn.callV1 (pc' := 229) (As := []) (rest := []) (f_Law_placeByFacts_ok hst e9) (Nat.le_trans (by decide) hd) rfl kb_X3_215 ki_X5_placeByFacts rfl g6 rfl rfl (Nat.le_of_ble_eq_true rfl) dX3_placeIn_226 rfl rfl ?_
  cases E
  exact Rn.zret rfl rfl dX3_placeIn_229
def f_Land_placeIn_b197   (h : Hp) (x0 : Nat) (x1 : Nat) (s0 : Nat) (s1 : Int32) (s2 : Int32) : Option (Int32 × Hp) :=
if hS h s0 = 6 then (
bV (f_Law_setFact h s0 s1 s2) fun h3 =>
if hS h3 x0 = 4 then (
if hS h3 x1 = 1 then (
if (hI h3 x1 2) = 0 then (
f_Land_placeIn_b219   h3 x0 (hR h3 x0 8) (1008 : Int32) (0 : Int32)

) else (
f_Land_placeIn_b219   h3 x0 (hR h3 x0 8) (1008 : Int32) (1 : Int32)

)
) else none) else none) else none
set_option maxRecDepth 20000 in
set_option maxHeartbeats 4000000 in
theorem f_Land_placeIn_b197_ok {l : Launch} {X : Nat × (Nat → Int32)} (hst : l.stackTraces = false) {d : Nat} (hd : 2 ≤ d)     {h : Hp} {x0 : Nat} {x1 : Nat} {s0 : Nat} {s1 : Int32} {s2 : Int32} {r : Int32 × Hp} (E : f_Land_placeIn_b197   h x0 x1 s0 s1 s2 = some r) : Rn l X mX3_placeIn d 197 [(0, .ref x0), (1, .ref x1)] [.int s2, .int s1, .ref s0] h (eI r) r.2 := by
  unfold f_Land_placeIn_b197 at E
  obtain ⟨g1, E⟩ := gd_of E
  obtain ⟨h3, e4, E⟩ := bV_of E
  refine Rn.callV1 (pc' := 200) (As := [.int s1, .int s2]) (rest := []) (f_Law_setFact_ok hst e4) (Nat.le_trans (by decide) hd) rfl kb_X3_212 ki_X5_setFact rfl g1 rfl rfl (Nat.le_of_ble_eq_true rfl) dX3_placeIn_197 rfl rfl ?_
  refine Rn.aload_n (pc' := 201) dX3_placeIn_200 rfl 0 rfl rfl ?_
  obtain ⟨g5, E⟩ := gd_of E
  refine Rn.getR (pc' := 204) fl_X3_68_3 g5 rfl dX3_placeIn_201 rfl ?_
  refine Rn.sipush (pc' := 207) (v := (1008 : Int32)) (hv := by decide) dX3_placeIn_204 rfl ?_
  refine Rn.aload_n (pc' := 208) dX3_placeIn_207 rfl 1 rfl rfl ?_
  obtain ⟨g6, E⟩ := gd_of E
  refine Rn.getI (pc' := 211) fl_X3_129_0 g6 rfl dX3_placeIn_208 rfl ?_
  refine Rn.if_eq (pc' := 214) (tgt := 218) dX3_placeIn_211 (by decide) rfl (fun c7 => ?_) (fun c7 => ?_)
  · replace E := (if_of E).1 c7
    refine Rn.iconst (pc' := 219) (v := (0 : Int32)) (hv := by decide) dX3_placeIn_218 rfl ?_
    refine Rn.sub [0] rfl ?_
    exact f_Land_placeIn_b219_ok hst hd   E
  · replace E := (if_of E).2 c7
    refine Rn.iconst (pc' := 215) (v := (1 : Int32)) (hv := by decide) dX3_placeIn_214 rfl ?_
    refine Rn.goto (pc' := 219) dX3_placeIn_215 (by decide) ?_
    refine Rn.sub [0] rfl ?_
    exact f_Land_placeIn_b219_ok hst hd   E
def f_Land_placeIn_b174   (h : Hp) (x0 : Nat) (x1 : Nat) (s0 : Nat) (s1 : Int32) (s2 : Int32) : Option (Int32 × Hp) :=
if hS h s0 = 6 then (
bV (f_Law_setFact h s0 s1 s2) fun h3 =>
if hS h3 x0 = 4 then (
if hS h3 x1 = 1 then (
if (hI h3 x1 1) = (3 : Int32) then (
f_Land_placeIn_b197   h3 x0 x1 (hR h3 x0 8) (1007 : Int32) (1 : Int32)

) else (
f_Land_placeIn_b197   h3 x0 x1 (hR h3 x0 8) (1007 : Int32) (0 : Int32)

)
) else none) else none) else none
set_option maxRecDepth 20000 in
set_option maxHeartbeats 4000000 in
theorem f_Land_placeIn_b174_ok {l : Launch} {X : Nat × (Nat → Int32)} (hst : l.stackTraces = false) {d : Nat} (hd : 2 ≤ d)     {h : Hp} {x0 : Nat} {x1 : Nat} {s0 : Nat} {s1 : Int32} {s2 : Int32} {r : Int32 × Hp} (E : f_Land_placeIn_b174   h x0 x1 s0 s1 s2 = some r) : Rn l X mX3_placeIn d 174 [(0, .ref x0), (1, .ref x1)] [.int s2, .int s1, .ref s0] h (eI r) r.2 := by
  unfold f_Land_placeIn_b174 at E
  obtain ⟨g1, E⟩ := gd_of E
  obtain ⟨h3, e4, E⟩ := bV_of E
  refine Rn.callV1 (pc' := 177) (As := [.int s1, .int s2]) (rest := []) (f_Law_setFact_ok hst e4) (Nat.le_trans (by decide) hd) rfl kb_X3_212 ki_X5_setFact rfl g1 rfl rfl (Nat.le_of_ble_eq_true rfl) dX3_placeIn_174 rfl rfl ?_
  refine Rn.aload_n (pc' := 178) dX3_placeIn_177 rfl 0 rfl rfl ?_
  obtain ⟨g5, E⟩ := gd_of E
  refine Rn.getR (pc' := 181) fl_X3_68_3 g5 rfl dX3_placeIn_178 rfl ?_
  refine Rn.sipush (pc' := 184) (v := (1007 : Int32)) (hv := by decide) dX3_placeIn_181 rfl ?_
  refine Rn.aload_n (pc' := 185) dX3_placeIn_184 rfl 1 rfl rfl ?_
  obtain ⟨g6, E⟩ := gd_of E
  refine Rn.getI (pc' := 188) fl_X3_153_0 g6 rfl dX3_placeIn_185 rfl ?_
  refine Rn.iconst (pc' := 189) (v := (3 : Int32)) (hv := by decide) dX3_placeIn_188 rfl ?_
  refine Rn.icmp_ne (pc' := 192) (tgt := 196) dX3_placeIn_189 (by decide) rfl (fun c7 => ?_) (fun c7 => ?_)
  · replace E := (if_of E).2 c7
    refine Rn.iconst (pc' := 197) (v := (0 : Int32)) (hv := by decide) dX3_placeIn_196 rfl ?_
    exact f_Land_placeIn_b197_ok hst hd   E
  · replace E := (if_of E).1 c7
    refine Rn.iconst (pc' := 193) (v := (1 : Int32)) (hv := by decide) dX3_placeIn_192 rfl ?_
    refine Rn.goto (pc' := 197) dX3_placeIn_193 (by decide) ?_
    exact f_Land_placeIn_b197_ok hst hd   E
def f_Land_placeIn_b151   (h : Hp) (x0 : Nat) (x1 : Nat) (s0 : Nat) (s1 : Int32) (s2 : Int32) : Option (Int32 × Hp) :=
if hS h s0 = 6 then (
bV (f_Law_setFact h s0 s1 s2) fun h3 =>
if hS h3 x0 = 4 then (
if hS h3 x1 = 1 then (
if (hI h3 x1 1) = (2 : Int32) then (
f_Land_placeIn_b174   h3 x0 x1 (hR h3 x0 8) (1006 : Int32) (1 : Int32)

) else (
f_Land_placeIn_b174   h3 x0 x1 (hR h3 x0 8) (1006 : Int32) (0 : Int32)

)
) else none) else none) else none
set_option maxRecDepth 20000 in
set_option maxHeartbeats 4000000 in
theorem f_Land_placeIn_b151_ok {l : Launch} {X : Nat × (Nat → Int32)} (hst : l.stackTraces = false) {d : Nat} (hd : 2 ≤ d)     {h : Hp} {x0 : Nat} {x1 : Nat} {s0 : Nat} {s1 : Int32} {s2 : Int32} {r : Int32 × Hp} (E : f_Land_placeIn_b151   h x0 x1 s0 s1 s2 = some r) : Rn l X mX3_placeIn d 151 [(0, .ref x0), (1, .ref x1)] [.int s2, .int s1, .ref s0] h (eI r) r.2 := by
  unfold f_Land_placeIn_b151 at E
  obtain ⟨g1, E⟩ := gd_of E
  obtain ⟨h3, e4, E⟩ := bV_of E
  refine Rn.callV1 (pc' := 154) (As := [.int s1, .int s2]) (rest := []) (f_Law_setFact_ok hst e4) (Nat.le_trans (by decide) hd) rfl kb_X3_212 ki_X5_setFact rfl g1 rfl rfl (Nat.le_of_ble_eq_true rfl) dX3_placeIn_151 rfl rfl ?_
  refine Rn.aload_n (pc' := 155) dX3_placeIn_154 rfl 0 rfl rfl ?_
  obtain ⟨g5, E⟩ := gd_of E
  refine Rn.getR (pc' := 158) fl_X3_68_3 g5 rfl dX3_placeIn_155 rfl ?_
  refine Rn.sipush (pc' := 161) (v := (1006 : Int32)) (hv := by decide) dX3_placeIn_158 rfl ?_
  refine Rn.aload_n (pc' := 162) dX3_placeIn_161 rfl 1 rfl rfl ?_
  obtain ⟨g6, E⟩ := gd_of E
  refine Rn.getI (pc' := 165) fl_X3_153_0 g6 rfl dX3_placeIn_162 rfl ?_
  refine Rn.iconst (pc' := 166) (v := (2 : Int32)) (hv := by decide) dX3_placeIn_165 rfl ?_
  refine Rn.icmp_ne (pc' := 169) (tgt := 173) dX3_placeIn_166 (by decide) rfl (fun c7 => ?_) (fun c7 => ?_)
  · replace E := (if_of E).2 c7
    refine Rn.iconst (pc' := 174) (v := (0 : Int32)) (hv := by decide) dX3_placeIn_173 rfl ?_
    exact f_Land_placeIn_b174_ok hst hd   E
  · replace E := (if_of E).1 c7
    refine Rn.iconst (pc' := 170) (v := (1 : Int32)) (hv := by decide) dX3_placeIn_169 rfl ?_
    refine Rn.goto (pc' := 174) dX3_placeIn_170 (by decide) ?_
    exact f_Land_placeIn_b174_ok hst hd   E
theorem fl_X3_190_0 : FL RX3 190 0 6 := ⟨_, rfl, by decide, "VintageWater$Cistern", gw_at 289 (by decide +kernel) (by decide +kernel), Or.inl rfl⟩
theorem kb_X3_209 : KB RX3 209 yJ9_max_7cf53 mJ9_max_7cf53 2 := ⟨gw_at 599 (by decide +kernel) (by decide +kernel), gw_at 128 (by decide +kernel) (by decide +kernel), trivial, ws_J9_max_7cf53, by decide +kernel, by decide +kernel, by decide +kernel, by decide⟩
def f_Land_placeIn_b0   (h : Hp) (x0 : Nat) (x1 : Nat) (x2 : Int32)  : Option (Int32 × Hp) :=
if x2 < 0 then (
some ((-1 : Int32), h)

) else (
if (30 : Int32) ≤ x2 then (
some ((-1 : Int32), h)

) else (
if hS h x1 = 1 then (
if hS h (hR h x1 6) = 20 then (
if ib x2 (hL h (hR h x1 6)) = true then (
if 0 < (hI h (hR h x1 6) (ix x2)) then (
if hS h x0 = 4 then (
bI (f_Land_yearNow h x0) fun v8 h9 =>
bI (f_Math_max h9 (0 : Int32) (v8 - x2)) fun v11 h12 =>
if hS h12 x0 = 4 then (
if (hR h12 x0 8) = 0 then (
if hS h12 x1 = 1 then (
if (hI h12 x1 1) = (1 : Int32) then (
f_Land_placeIn_b54   h12

) else (
if (hI h12 x1 2) = 0 then (
some (v11, h12)

) else (
f_Land_placeIn_b54   h12

)

)
) else none
) else (
if hS h12 (hR h12 x0 8) = 6 then (
bV (f_Law_setFact h12 (hR h12 x0 8) (1000 : Int32) x2) fun h21 =>
if hS h21 x0 = 4 then (
if hS h21 (hR h21 x0 8) = 6 then (
bV (f_Law_setFact h21 (hR h21 x0 8) (1001 : Int32) v11) fun h26 =>
if hS h26 x0 = 4 then (
if hS h26 (hR h26 x0 6) = 20 then (
if ib x2 (hL h26 (hR h26 x0 6)) = true then (
if hS h26 (hR h26 x0 8) = 6 then (
bV (f_Law_setFact h26 (hR h26 x0 8) (1002 : Int32) (hI h26 (hR h26 x0 6) (ix x2))) fun h33 =>
if hS h33 x0 = 4 then (
if hS h33 (hR h33 x0 8) = 6 then (
bV (f_Law_setFact h33 (hR h33 x0 8) (1003 : Int32) (jrem (hI h33 x0 10) (12 : Int32))) fun h38 =>
if hS h38 x0 = 4 then (
if hS h38 x1 = 1 then (
if hS h38 (hR h38 x1 6) = 20 then (
if ib x2 (hL h38 (hR h38 x1 6)) = true then (
if hS h38 (hR h38 x0 8) = 6 then (
bV (f_Law_setFact h38 (hR h38 x0 8) (1004 : Int32) (hI h38 (hR h38 x1 6) (ix x2))) fun h46 =>
if hS h46 x0 = 4 then (
if hS h46 x1 = 1 then (
if (hI h46 x1 1) = (1 : Int32) then (
f_Land_placeIn_b151   h46 x0 x1 (hR h46 x0 8) (1005 : Int32) (1 : Int32)

) else (
f_Land_placeIn_b151   h46 x0 x1 (hR h46 x0 8) (1005 : Int32) (0 : Int32)

)
) else none) else none) else none) else none) else none) else none) else none) else none) else none) else none) else none) else none) else none) else none) else none) else none
)
) else none) else none
) else (
some ((-1 : Int32), h)

)
) else none) else none) else none
)

)

set_option maxRecDepth 20000 in
set_option maxHeartbeats 4000000 in
theorem f_Land_placeIn_b0_ok {l : Launch} {X : Nat × (Nat → Int32)} (hst : l.stackTraces = false) {d : Nat} (hd : 2 ≤ d)     {h : Hp} {x0 : Nat} {x1 : Nat} {x2 : Int32}  {r : Int32 × Hp} (E : f_Land_placeIn_b0   h x0 x1 x2 = some r) : Rn l X mX3_placeIn d 0 [(0, .ref x0), (1, .ref x1), (2, .int x2)] [] h (eI r) r.2 := by
  unfold f_Land_placeIn_b0 at E
  refine Rn.iload_n (pc' := 1) dX3_placeIn_0 rfl 2 rfl rfl ?_
  refine Rn.if_lt (pc' := 4) (tgt := 19) dX3_placeIn_1 (by decide) rfl (fun c1 => ?_) (fun c1 => ?_)
  · replace E := (if_of E).1 c1
    refine Rn.iconst (pc' := 20) (v := (-1 : Int32)) (hv := by decide) dX3_placeIn_19 rfl ?_
    cases E
    exact Rn.zret rfl rfl dX3_placeIn_20
  · replace E := (if_of E).2 c1
    refine Rn.iload_n (pc' := 5) dX3_placeIn_4 rfl 2 rfl rfl ?_
    refine Rn.bipush (pc' := 7) (v := (30 : Int32)) (hv := by decide) dX3_placeIn_5 rfl ?_
    refine Rn.icmp_ge (pc' := 10) (tgt := 19) dX3_placeIn_7 (by decide) rfl (fun c2 => ?_) (fun c2 => ?_)
    · replace E := (if_of E).1 c2
      refine Rn.iconst (pc' := 20) (v := (-1 : Int32)) (hv := by decide) dX3_placeIn_19 rfl ?_
      cases E
      exact Rn.zret rfl rfl dX3_placeIn_20
    · replace E := (if_of E).2 c2
      refine Rn.aload_n (pc' := 11) dX3_placeIn_10 rfl 1 rfl rfl ?_
      obtain ⟨g3, E⟩ := gd_of E
      refine Rn.getR (pc' := 14) fl_X3_190_0 g3 rfl dX3_placeIn_11 rfl ?_
      refine Rn.iload_n (pc' := 15) dX3_placeIn_14 rfl 2 rfl rfl ?_
      obtain ⟨g4, E⟩ := gd_of E
      obtain ⟨g5, E⟩ := gd_of E
      refine Rn.iald (pc' := 16) g4 g5 dX3_placeIn_15 rfl ?_
      refine Rn.if_gt (pc' := 19) (tgt := 21) dX3_placeIn_16 (by decide) rfl (fun c6 => ?_) (fun c6 => ?_)
      · replace E := (if_of E).1 c6
        refine Rn.iconst (pc' := 22) (v := (0 : Int32)) (hv := by decide) dX3_placeIn_21 rfl ?_
        refine Rn.aload_n (pc' := 23) dX3_placeIn_22 rfl 0 rfl rfl ?_
        obtain ⟨g7, E⟩ := gd_of E
        obtain ⟨v8, h9, e10, E⟩ := bI_of E
        refine Rn.callV1 (pc' := 26) (As := []) (rest := [.int (0 : Int32)]) (f_Land_yearNow_ok hst e10) (Nat.le_trans (by decide) hd) rfl kb_X3_206 ki_X3_yearNow rfl g7 rfl rfl (Nat.le_of_ble_eq_true rfl) dX3_placeIn_23 rfl rfl ?_
        refine Rn.iload_n (pc' := 27) dX3_placeIn_26 rfl 2 rfl rfl ?_
        refine Rn.isub (pc' := 28) dX3_placeIn_27 rfl ?_
        obtain ⟨v11, h12, e13, E⟩ := bI_of E
        refine Rn.callS1 (pc' := 31) (As := [.int (0 : Int32), .int (v8 - x2)]) (rest := []) (f_Math_max_ok hst e13) (Nat.le_trans (by decide) hd) rfl kb_X3_209 ks_J9_max_7cf53 rfl rfl (Nat.le_of_ble_eq_true rfl) dX3_placeIn_28 rfl rfl ?_
        refine Rn.istore_n (pc' := 32) (L' := [(3, .int v11), (0, .ref x0), (1, .ref x1), (2, .int x2)]) dX3_placeIn_31 rfl (by decide) rfl rfl ?_
        refine Rn.aload_n (pc' := 33) dX3_placeIn_32 rfl 1 rfl rfl ?_
        obtain ⟨g14, E⟩ := gd_of E
        refine Rn.getR (pc' := 36) fl_X3_68_3 g14 rfl dX3_placeIn_33 rfl ?_
        refine Rn.ifnonnull (pc' := 39) (tgt := 60) dX3_placeIn_36 (by decide) rfl (fun c15 => ?_) (fun c15 => ?_)
        · replace E := (if_of E).1 c15
          refine Rn.aload_n (pc' := 40) dX3_placeIn_39 rfl 2 rfl rfl ?_
          obtain ⟨g16, E⟩ := gd_of E
          refine Rn.getI (pc' := 43) fl_X3_153_0 g16 rfl dX3_placeIn_40 rfl ?_
          refine Rn.iconst (pc' := 44) (v := (1 : Int32)) (hv := by decide) dX3_placeIn_43 rfl ?_
          refine Rn.icmp_eq (pc' := 47) (tgt := 54) dX3_placeIn_44 (by decide) rfl (fun c17 => ?_) (fun c17 => ?_)
          · replace E := (if_of E).1 c17
            refine Rn.sub [] rfl ?_
            exact f_Land_placeIn_b54_ok hst hd   E
          · replace E := (if_of E).2 c17
            refine Rn.aload_n (pc' := 48) dX3_placeIn_47 rfl 2 rfl rfl ?_
            refine Rn.getI (pc' := 51) fl_X3_129_0 g16 rfl dX3_placeIn_48 rfl ?_
            refine Rn.if_eq (pc' := 54) (tgt := 58) dX3_placeIn_51 (by decide) rfl (fun c18 => ?_) (fun c18 => ?_)
            · replace E := (if_of E).1 c18
              refine Rn.iload_n (pc' := 59) dX3_placeIn_58 rfl 0 rfl rfl ?_
              cases E
              exact Rn.zret rfl rfl dX3_placeIn_59
            · replace E := (if_of E).2 c18
              refine Rn.sub [] rfl ?_
              exact f_Land_placeIn_b54_ok hst hd   E
        · replace E := (if_of E).2 c15
          refine Rn.aload_n (pc' := 61) dX3_placeIn_60 rfl 1 rfl rfl ?_
          refine Rn.getR (pc' := 64) fl_X3_68_3 g14 rfl dX3_placeIn_61 rfl ?_
          refine Rn.sipush (pc' := 67) (v := (1000 : Int32)) (hv := by decide) dX3_placeIn_64 rfl ?_
          refine Rn.iload_n (pc' := 68) dX3_placeIn_67 rfl 3 rfl rfl ?_
          obtain ⟨g19, E⟩ := gd_of E
          obtain ⟨h21, e22, E⟩ := bV_of E
          refine Rn.callV1 (pc' := 71) (As := [.int (1000 : Int32), .int x2]) (rest := []) (f_Law_setFact_ok hst e22) (Nat.le_trans (by decide) hd) rfl kb_X3_212 ki_X5_setFact rfl g19 rfl rfl (Nat.le_of_ble_eq_true rfl) dX3_placeIn_68 rfl rfl ?_
          refine Rn.aload_n (pc' := 72) dX3_placeIn_71 rfl 1 rfl rfl ?_
          obtain ⟨g23, E⟩ := gd_of E
          refine Rn.getR (pc' := 75) fl_X3_68_3 g23 rfl dX3_placeIn_72 rfl ?_
          refine Rn.sipush (pc' := 78) (v := (1001 : Int32)) (hv := by decide) dX3_placeIn_75 rfl ?_
          refine Rn.iload_n (pc' := 79) dX3_placeIn_78 rfl 0 rfl rfl ?_
          obtain ⟨g24, E⟩ := gd_of E
          obtain ⟨h26, e27, E⟩ := bV_of E
          refine Rn.callV1 (pc' := 82) (As := [.int (1001 : Int32), .int v11]) (rest := []) (f_Law_setFact_ok hst e27) (Nat.le_trans (by decide) hd) rfl kb_X3_212 ki_X5_setFact rfl g24 rfl rfl (Nat.le_of_ble_eq_true rfl) dX3_placeIn_79 rfl rfl ?_
          refine Rn.aload_n (pc' := 83) dX3_placeIn_82 rfl 1 rfl rfl ?_
          obtain ⟨g28, E⟩ := gd_of E
          refine Rn.getR (pc' := 86) fl_X3_68_3 g28 rfl dX3_placeIn_83 rfl ?_
          refine Rn.sipush (pc' := 89) (v := (1002 : Int32)) (hv := by decide) dX3_placeIn_86 rfl ?_
          refine Rn.aload_n (pc' := 90) dX3_placeIn_89 rfl 1 rfl rfl ?_
          refine Rn.getR (pc' := 93) fl_X3_29_3 g28 rfl dX3_placeIn_90 rfl ?_
          refine Rn.iload_n (pc' := 94) dX3_placeIn_93 rfl 3 rfl rfl ?_
          obtain ⟨g29, E⟩ := gd_of E
          obtain ⟨g30, E⟩ := gd_of E
          refine Rn.iald (pc' := 95) g29 g30 dX3_placeIn_94 rfl ?_
          obtain ⟨g31, E⟩ := gd_of E
          obtain ⟨h33, e34, E⟩ := bV_of E
          refine Rn.callV1 (pc' := 98) (As := [.int (1002 : Int32), .int (hI h26 (hR h26 x0 6) (ix x2))]) (rest := []) (f_Law_setFact_ok hst e34) (Nat.le_trans (by decide) hd) rfl kb_X3_212 ki_X5_setFact rfl g31 rfl rfl (Nat.le_of_ble_eq_true rfl) dX3_placeIn_95 rfl rfl ?_
          refine Rn.aload_n (pc' := 99) dX3_placeIn_98 rfl 1 rfl rfl ?_
          obtain ⟨g35, E⟩ := gd_of E
          refine Rn.getR (pc' := 102) fl_X3_68_3 g35 rfl dX3_placeIn_99 rfl ?_
          refine Rn.sipush (pc' := 105) (v := (1003 : Int32)) (hv := by decide) dX3_placeIn_102 rfl ?_
          refine Rn.aload_n (pc' := 106) dX3_placeIn_105 rfl 1 rfl rfl ?_
          refine Rn.getI (pc' := 109) fl_X3_75_3 g35 rfl dX3_placeIn_106 rfl ?_
          refine Rn.bipush (pc' := 111) (v := (12 : Int32)) (hv := by decide) dX3_placeIn_109 rfl ?_
          refine Rn.irem (pc' := 112) (hne := (by decide)) dX3_placeIn_111 rfl ?_
          obtain ⟨g36, E⟩ := gd_of E
          obtain ⟨h38, e39, E⟩ := bV_of E
          refine Rn.callV1 (pc' := 115) (As := [.int (1003 : Int32), .int (jrem (hI h33 x0 10) (12 : Int32))]) (rest := []) (f_Law_setFact_ok hst e39) (Nat.le_trans (by decide) hd) rfl kb_X3_212 ki_X5_setFact rfl g36 rfl rfl (Nat.le_of_ble_eq_true rfl) dX3_placeIn_112 rfl rfl ?_
          refine Rn.aload_n (pc' := 116) dX3_placeIn_115 rfl 1 rfl rfl ?_
          obtain ⟨g40, E⟩ := gd_of E
          refine Rn.getR (pc' := 119) fl_X3_68_3 g40 rfl dX3_placeIn_116 rfl ?_
          refine Rn.sipush (pc' := 122) (v := (1004 : Int32)) (hv := by decide) dX3_placeIn_119 rfl ?_
          refine Rn.aload_n (pc' := 123) dX3_placeIn_122 rfl 2 rfl rfl ?_
          obtain ⟨g41, E⟩ := gd_of E
          refine Rn.getR (pc' := 126) fl_X3_190_0 g41 rfl dX3_placeIn_123 rfl ?_
          refine Rn.iload_n (pc' := 127) dX3_placeIn_126 rfl 3 rfl rfl ?_
          obtain ⟨g42, E⟩ := gd_of E
          obtain ⟨g43, E⟩ := gd_of E
          refine Rn.iald (pc' := 128) g42 g43 dX3_placeIn_127 rfl ?_
          obtain ⟨g44, E⟩ := gd_of E
          obtain ⟨h46, e47, E⟩ := bV_of E
          refine Rn.callV1 (pc' := 131) (As := [.int (1004 : Int32), .int (hI h38 (hR h38 x1 6) (ix x2))]) (rest := []) (f_Law_setFact_ok hst e47) (Nat.le_trans (by decide) hd) rfl kb_X3_212 ki_X5_setFact rfl g44 rfl rfl (Nat.le_of_ble_eq_true rfl) dX3_placeIn_128 rfl rfl ?_
          refine Rn.aload_n (pc' := 132) dX3_placeIn_131 rfl 1 rfl rfl ?_
          obtain ⟨g48, E⟩ := gd_of E
          refine Rn.getR (pc' := 135) fl_X3_68_3 g48 rfl dX3_placeIn_132 rfl ?_
          refine Rn.sipush (pc' := 138) (v := (1005 : Int32)) (hv := by decide) dX3_placeIn_135 rfl ?_
          refine Rn.aload_n (pc' := 139) dX3_placeIn_138 rfl 2 rfl rfl ?_
          obtain ⟨g49, E⟩ := gd_of E
          refine Rn.getI (pc' := 142) fl_X3_153_0 g49 rfl dX3_placeIn_139 rfl ?_
          refine Rn.iconst (pc' := 143) (v := (1 : Int32)) (hv := by decide) dX3_placeIn_142 rfl ?_
          refine Rn.icmp_ne (pc' := 146) (tgt := 150) dX3_placeIn_143 (by decide) rfl (fun c50 => ?_) (fun c50 => ?_)
          · replace E := (if_of E).2 c50
            refine Rn.iconst (pc' := 151) (v := (0 : Int32)) (hv := by decide) dX3_placeIn_150 rfl ?_
            refine Rn.sub [1, 2] rfl ?_
            exact f_Land_placeIn_b151_ok hst hd   E
          · replace E := (if_of E).1 c50
            refine Rn.iconst (pc' := 147) (v := (1 : Int32)) (hv := by decide) dX3_placeIn_146 rfl ?_
            refine Rn.goto (pc' := 151) dX3_placeIn_147 (by decide) ?_
            refine Rn.sub [1, 2] rfl ?_
            exact f_Land_placeIn_b151_ok hst hd   E
      · replace E := (if_of E).2 c6
        refine Rn.iconst (pc' := 20) (v := (-1 : Int32)) (hv := by decide) dX3_placeIn_19 rfl ?_
        cases E
        exact Rn.zret rfl rfl dX3_placeIn_20
def f_Land_placeIn (h : Hp) (x0 : Nat) (x1 : Nat) (x2 : Int32) : Option (Int32 × Hp) := f_Land_placeIn_b0  h x0 x1 x2
theorem f_Land_placeIn_ok {l : Launch} {X : Nat × (Nat → Int32)} (hst : l.stackTraces = false) {h : Hp} {x0 : Nat} {x1 : Nat} {x2 : Int32} {r : Int32 × Hp} (E : f_Land_placeIn h x0 x1 x2 = some r) : MC l X yX3_placeIn mX3_placeIn 2 [.ref x0, .ref x1, .int x2] h (eI r) r.2 :=
  MC.body (by decide +kernel) rfl (by decide) hst (Nat.le_of_ble_eq_true rfl) (f_Land_placeIn_b0_ok hst (Nat.le_refl _) E)
abbrev mX3_weighAll : MI := (RX3, cX3_weighAll, 3, none, [], false)
theorem ws_X3_weighAll : ∀ w ∈ wsM yX3_weighAll mX3_weighAll, w ∈ gw := List.forall_mem_cons.mpr ⟨gw_at 590 (by decide +kernel) (by decide +kernel), fun _ h => h⟩
def f_Land_weighAll_b32  (k2 : Hp → Nat → Nat → Int32 → Option (Hp)) (h : Hp) (x0 : Nat) (x1 : Nat) (x2 : Int32) (s0 : Nat) (s1 : Int32) (s2 : Int32) : Option (Hp) :=
if hS h s0 = 20 then (
if ib s1 (hL h s0) = true then (
wr (sI h s0 (ix s1) s2) fun h3 =>
k2 h3 x0 x1 (x2 + (1 : Int32))
) else none) else none
set_option maxRecDepth 20000 in
set_option maxHeartbeats 4000000 in
theorem f_Land_weighAll_b32_ok {l : Launch} {X : Nat × (Nat → Int32)} (hst : l.stackTraces = false) {d : Nat} (hd : 3 ≤ d)   {k2 : Hp → Nat → Nat → Int32 → Option (Hp)} (hk2 : ∀ (h : Hp) (x0 : Nat) (x1 : Nat) (x2 : Int32)  (r : Hp), k2 h x0 x1 x2 = some r → Rn l X mX3_weighAll d 2 [(0, .ref x0), (1, .ref x1), (2, .int x2)] [] h (eV r) r) {h : Hp} {x0 : Nat} {x1 : Nat} {x2 : Int32} {s0 : Nat} {s1 : Int32} {s2 : Int32} {r : Hp} (E : f_Land_weighAll_b32  k2 h x0 x1 x2 s0 s1 s2 = some r) : Rn l X mX3_weighAll d 32 [(0, .ref x0), (1, .ref x1), (2, .int x2)] [.int s2, .int s1, .ref s0] h (eV r) r := by
  unfold f_Land_weighAll_b32 at E
  obtain ⟨g1, E⟩ := gd_of E
  obtain ⟨g2, E⟩ := gd_of E
  refine Rn.iast (pc' := 33) g1 g2 dX3_weighAll_32 rfl ?_
  replace E := wr_of E
  generalize eh4 : sI h s0 (ix s1) s2 = h3 at E ⊢
  refine Rn.iinc (pc' := 36) (v := (x2 + (1 : Int32))) (L' := [(2, .int (x2 + (1 : Int32))), (0, .ref x0), (1, .ref x1)]) dX3_weighAll_33 2 rfl rfl (by decide) rfl rfl ?_
  refine Rn.goto (pc' := 2) dX3_weighAll_36 (by decide) ?_
  refine Rn.sub [1, 2, 0] rfl ?_
  exact hk2 _ _ _ _ _ E
theorem kb_X3_199 : KB RX3 199 yX3_placeIn mX3_placeIn 2 := ⟨gw_at 591 (by decide +kernel) (by decide +kernel), gw_at 113 (by decide +kernel) (by decide +kernel), trivial, ws_X3_placeIn, by decide +kernel, by decide +kernel, by decide +kernel, by decide⟩
theorem ki_X3_placeIn : Cond.instanceMethod yX3_placeIn ∈ gw ∧ Cond.selects yX3_placeIn.cls yX3_placeIn yX3_placeIn ∈ gw := ⟨gw_at 592 (by decide +kernel) (by decide +kernel), gw_at 593 (by decide +kernel) (by decide +kernel)⟩
def f_Land_weighAll_b2  (k2 : Hp → Nat → Nat → Int32 → Option (Hp)) (h : Hp) (x0 : Nat) (x1 : Nat) (x2 : Int32)  : Option (Hp) :=
if (30 : Int32) ≤ x2 then (
some h

) else (
if hS h x0 = 4 then (
if hS h x1 = 1 then (
if hS h (hR h x1 6) = 20 then (
if ib x2 (hL h (hR h x1 6)) = true then (
if (hI h (hR h x1 6) (ix x2)) ≤ 0 then (
f_Land_weighAll_b32  k2 h x0 x1 x2 (hR h x0 7) x2 (-1 : Int32)

) else (
bI (f_Land_placeIn h x0 x1 x2) fun v7 h8 =>
f_Land_weighAll_b32  k2 h8 x0 x1 x2 (hR h x0 7) x2 v7

)
) else none) else none) else none) else none
)

set_option maxRecDepth 20000 in
set_option maxHeartbeats 4000000 in
theorem f_Land_weighAll_b2_ok {l : Launch} {X : Nat × (Nat → Int32)} (hst : l.stackTraces = false) {d : Nat} (hd : 3 ≤ d)   {k2 : Hp → Nat → Nat → Int32 → Option (Hp)} (hk2 : ∀ (h : Hp) (x0 : Nat) (x1 : Nat) (x2 : Int32)  (r : Hp), k2 h x0 x1 x2 = some r → Rn l X mX3_weighAll d 2 [(0, .ref x0), (1, .ref x1), (2, .int x2)] [] h (eV r) r) {h : Hp} {x0 : Nat} {x1 : Nat} {x2 : Int32}  {r : Hp} (E : f_Land_weighAll_b2  k2 h x0 x1 x2 = some r) : Rn l X mX3_weighAll d 2 [(0, .ref x0), (1, .ref x1), (2, .int x2)] [] h (eV r) r := by
  unfold f_Land_weighAll_b2 at E
  refine Rn.iload_n (pc' := 3) dX3_weighAll_2 rfl 2 rfl rfl ?_
  refine Rn.bipush (pc' := 5) (v := (30 : Int32)) (hv := by decide) dX3_weighAll_3 rfl ?_
  refine Rn.icmp_ge (pc' := 8) (tgt := 39) dX3_weighAll_5 (by decide) rfl (fun c1 => ?_) (fun c1 => ?_)
  · replace E := (if_of E).1 c1
    cases E
    exact Rn.vret rfl dX3_weighAll_39
  · replace E := (if_of E).2 c1
    refine Rn.aload_n (pc' := 9) dX3_weighAll_8 rfl 0 rfl rfl ?_
    obtain ⟨g2, E⟩ := gd_of E
    refine Rn.getR (pc' := 12) fl_X3_33_3 g2 rfl dX3_weighAll_9 rfl ?_
    refine Rn.iload_n (pc' := 13) dX3_weighAll_12 rfl 2 rfl rfl ?_
    refine Rn.aload_n (pc' := 14) dX3_weighAll_13 rfl 1 rfl rfl ?_
    obtain ⟨g3, E⟩ := gd_of E
    refine Rn.getR (pc' := 17) fl_X3_190_0 g3 rfl dX3_weighAll_14 rfl ?_
    refine Rn.iload_n (pc' := 18) dX3_weighAll_17 rfl 2 rfl rfl ?_
    obtain ⟨g4, E⟩ := gd_of E
    obtain ⟨g5, E⟩ := gd_of E
    refine Rn.iald (pc' := 19) g4 g5 dX3_weighAll_18 rfl ?_
    refine Rn.if_le (pc' := 22) (tgt := 31) dX3_weighAll_19 (by decide) rfl (fun c6 => ?_) (fun c6 => ?_)
    · replace E := (if_of E).1 c6
      refine Rn.iconst (pc' := 32) (v := (-1 : Int32)) (hv := by decide) dX3_weighAll_31 rfl ?_
      exact f_Land_weighAll_b32_ok hst hd  hk2 E
    · replace E := (if_of E).2 c6
      refine Rn.aload_n (pc' := 23) dX3_weighAll_22 rfl 0 rfl rfl ?_
      refine Rn.aload_n (pc' := 24) dX3_weighAll_23 rfl 1 rfl rfl ?_
      refine Rn.iload_n (pc' := 25) dX3_weighAll_24 rfl 2 rfl rfl ?_
      obtain ⟨v7, h8, e9, E⟩ := bI_of E
      refine Rn.callV1 (pc' := 28) (As := [.ref x1, .int x2]) (rest := [.int x2, .ref (hR h x0 7)]) (f_Land_placeIn_ok hst e9) (Nat.le_trans (by decide) hd) rfl kb_X3_199 ki_X3_placeIn rfl g2 rfl rfl (Nat.le_of_ble_eq_true rfl) dX3_weighAll_25 rfl rfl ?_
      refine Rn.goto (pc' := 32) dX3_weighAll_28 (by decide) ?_
      exact f_Land_weighAll_b32_ok hst hd  hk2 E
def f_Land_weighAll_L2   (n : Nat) : Hp → Nat → Nat → Int32 → Option (Hp) := Nat.rec (motive := fun _ => Hp → Nat → Nat → Int32 → Option (Hp)) (fun _ _ _ _ => none) (fun _ rec => f_Land_weighAll_b2   rec) n
theorem f_Land_weighAll_L2_ok {l : Launch} {X : Nat × (Nat → Int32)} (hst : l.stackTraces = false) {d : Nat} (hd : 3 ≤ d)     : ∀ (n : Nat) (h : Hp) (x0 : Nat) (x1 : Nat) (x2 : Int32)  (r : Hp), f_Land_weighAll_L2   n h x0 x1 x2 = some r → Rn l X mX3_weighAll d 2 [(0, .ref x0), (1, .ref x1), (2, .int x2)] [] h (eV r) r := by
  intro n
  induction n with
  | zero => intro h x0 x1 x2 r E; cases E
  | succ n ih => intro h x0 x1 x2 r E; exact f_Land_weighAll_b2_ok hst hd   ih E
def f_Land_weighAll_b0   (h : Hp) (x0 : Nat) (x1 : Nat)  : Option (Hp) :=
f_Land_weighAll_L2   FU h x0 x1 (0 : Int32)

set_option maxRecDepth 20000 in
set_option maxHeartbeats 4000000 in
theorem f_Land_weighAll_b0_ok {l : Launch} {X : Nat × (Nat → Int32)} (hst : l.stackTraces = false) {d : Nat} (hd : 3 ≤ d)     {h : Hp} {x0 : Nat} {x1 : Nat}  {r : Hp} (E : f_Land_weighAll_b0   h x0 x1 = some r) : Rn l X mX3_weighAll d 0 [(0, .ref x0), (1, .ref x1)] [] h (eV r) r := by
  unfold f_Land_weighAll_b0 at E
  refine Rn.iconst (pc' := 1) (v := (0 : Int32)) (hv := by decide) dX3_weighAll_0 rfl ?_
  refine Rn.istore_n (pc' := 2) (L' := [(2, .int (0 : Int32)), (0, .ref x0), (1, .ref x1)]) dX3_weighAll_1 rfl (by decide) rfl rfl ?_
  refine Rn.sub [1, 2, 0] rfl ?_
  exact f_Land_weighAll_L2_ok hst hd   FU _ _ _ _ _ E
def f_Land_weighAll (h : Hp) (x0 : Nat) (x1 : Nat) : Option (Hp) := f_Land_weighAll_b0  h x0 x1
theorem f_Land_weighAll_ok {l : Launch} {X : Nat × (Nat → Int32)} (hst : l.stackTraces = false) {h : Hp} {x0 : Nat} {x1 : Nat} {r : Hp} (E : f_Land_weighAll h x0 x1 = some r) : MC l X yX3_weighAll mX3_weighAll 3 [.ref x0, .ref x1] h (eV r) r :=
  MC.body (by decide +kernel) rfl (by decide) hst (Nat.le_of_ble_eq_true rfl) (f_Land_weighAll_b0_ok hst (Nat.le_refl _) E)
abbrev mX3_firstOfPlaces : MI := (RX3, cX3_firstOfPlaces, 3, (some Jvm.ClassFile.FieldType.int), [], false)
theorem ws_X3_firstOfPlaces : ∀ w ∈ wsM yX3_firstOfPlaces mX3_firstOfPlaces, w ∈ gw := List.forall_mem_cons.mpr ⟨gw_at 616 (by decide +kernel) (by decide +kernel), fun _ h => h⟩
def f_Land_firstOfPlaces_b42  (k4 : Hp → Nat → Int32 → Int32 → Option (Int32 × Hp)) (h : Hp) (x0 : Nat) (x1 : Int32) (x2 : Int32)  : Option (Int32 × Hp) :=
k4 h x0 x1 (x2 + (1 : Int32))

set_option maxRecDepth 20000 in
set_option maxHeartbeats 4000000 in
theorem f_Land_firstOfPlaces_b42_ok {l : Launch} {X : Nat × (Nat → Int32)} (hst : l.stackTraces = false) {d : Nat} (hd : 0 ≤ d)   {k4 : Hp → Nat → Int32 → Int32 → Option (Int32 × Hp)} (hk4 : ∀ (h : Hp) (x0 : Nat) (x1 : Int32) (x2 : Int32)  (r : Int32 × Hp), k4 h x0 x1 x2 = some r → Rn l X mX3_firstOfPlaces d 4 [(0, .ref x0), (1, .int x1), (2, .int x2)] [] h (eI r) r.2) {h : Hp} {x0 : Nat} {x1 : Int32} {x2 : Int32}  {r : Int32 × Hp} (E : f_Land_firstOfPlaces_b42  k4 h x0 x1 x2 = some r) : Rn l X mX3_firstOfPlaces d 42 [(0, .ref x0), (1, .int x1), (2, .int x2)] [] h (eI r) r.2 := by
  unfold f_Land_firstOfPlaces_b42 at E
  refine Rn.iinc (pc' := 45) (v := (x2 + (1 : Int32))) (L' := [(2, .int (x2 + (1 : Int32))), (0, .ref x0), (1, .int x1)]) dX3_firstOfPlaces_42 2 rfl rfl (by decide) rfl rfl ?_
  refine Rn.goto (pc' := 4) dX3_firstOfPlaces_45 (by decide) ?_
  refine Rn.sub [1, 2, 0] rfl ?_
  exact hk4 _ _ _ _ _ E
def f_Land_firstOfPlaces_b40  (k4 : Hp → Nat → Int32 → Int32 → Option (Int32 × Hp)) (h : Hp) (x0 : Nat) (x2 : Int32)  : Option (Int32 × Hp) :=
f_Land_firstOfPlaces_b42  k4 h x0 x2 x2

set_option maxRecDepth 20000 in
set_option maxHeartbeats 4000000 in
theorem f_Land_firstOfPlaces_b40_ok {l : Launch} {X : Nat × (Nat → Int32)} (hst : l.stackTraces = false) {d : Nat} (hd : 0 ≤ d)   {k4 : Hp → Nat → Int32 → Int32 → Option (Int32 × Hp)} (hk4 : ∀ (h : Hp) (x0 : Nat) (x1 : Int32) (x2 : Int32)  (r : Int32 × Hp), k4 h x0 x1 x2 = some r → Rn l X mX3_firstOfPlaces d 4 [(0, .ref x0), (1, .int x1), (2, .int x2)] [] h (eI r) r.2) {h : Hp} {x0 : Nat} {x2 : Int32}  {r : Int32 × Hp} (E : f_Land_firstOfPlaces_b40  k4 h x0 x2 = some r) : Rn l X mX3_firstOfPlaces d 40 [(0, .ref x0), (2, .int x2)] [] h (eI r) r.2 := by
  unfold f_Land_firstOfPlaces_b40 at E
  refine Rn.iload_n (pc' := 41) dX3_firstOfPlaces_40 rfl 1 rfl rfl ?_
  refine Rn.istore_n (pc' := 42) (L' := [(1, .int x2), (0, .ref x0), (2, .int x2)]) dX3_firstOfPlaces_41 rfl (by decide) rfl rfl ?_
  refine Rn.sub [1, 0, 2] rfl ?_
  exact f_Land_firstOfPlaces_b42_ok hst hd  hk4 E
def f_Land_firstOfPlaces_b4  (k4 : Hp → Nat → Int32 → Int32 → Option (Int32 × Hp)) (h : Hp) (x0 : Nat) (x1 : Int32) (x2 : Int32)  : Option (Int32 × Hp) :=
if (30 : Int32) ≤ x2 then (
some (x1, h)

) else (
if hS h x0 = 4 then (
if hS h (hR h x0 7) = 20 then (
if ib x2 (hL h (hR h x0 7)) = true then (
if (hI h (hR h x0 7) (ix x2)) = (-1 : Int32) then (
f_Land_firstOfPlaces_b42  k4 h x0 x1 x2

) else (
if x1 = (-1 : Int32) then (
f_Land_firstOfPlaces_b40  k4 h x0 x2

) else (
if ib x2 (hL h (hR h x0 7)) = true then (
if ib x1 (hL h (hR h x0 7)) = true then (
if (hI h (hR h x0 7) (ix x2)) ≤ (hI h (hR h x0 7) (ix x1)) then (
f_Land_firstOfPlaces_b42  k4 h x0 x1 x2

) else (
f_Land_firstOfPlaces_b40  k4 h x0 x2

)
) else none) else none
)

)
) else none) else none) else none
)

set_option maxRecDepth 20000 in
set_option maxHeartbeats 4000000 in
theorem f_Land_firstOfPlaces_b4_ok {l : Launch} {X : Nat × (Nat → Int32)} (hst : l.stackTraces = false) {d : Nat} (hd : 0 ≤ d)   {k4 : Hp → Nat → Int32 → Int32 → Option (Int32 × Hp)} (hk4 : ∀ (h : Hp) (x0 : Nat) (x1 : Int32) (x2 : Int32)  (r : Int32 × Hp), k4 h x0 x1 x2 = some r → Rn l X mX3_firstOfPlaces d 4 [(0, .ref x0), (1, .int x1), (2, .int x2)] [] h (eI r) r.2) {h : Hp} {x0 : Nat} {x1 : Int32} {x2 : Int32}  {r : Int32 × Hp} (E : f_Land_firstOfPlaces_b4  k4 h x0 x1 x2 = some r) : Rn l X mX3_firstOfPlaces d 4 [(0, .ref x0), (1, .int x1), (2, .int x2)] [] h (eI r) r.2 := by
  unfold f_Land_firstOfPlaces_b4 at E
  refine Rn.iload_n (pc' := 5) dX3_firstOfPlaces_4 rfl 2 rfl rfl ?_
  refine Rn.bipush (pc' := 7) (v := (30 : Int32)) (hv := by decide) dX3_firstOfPlaces_5 rfl ?_
  refine Rn.icmp_ge (pc' := 10) (tgt := 48) dX3_firstOfPlaces_7 (by decide) rfl (fun c1 => ?_) (fun c1 => ?_)
  · replace E := (if_of E).1 c1
    refine Rn.iload_n (pc' := 49) dX3_firstOfPlaces_48 rfl 1 rfl rfl ?_
    cases E
    exact Rn.zret rfl rfl dX3_firstOfPlaces_49
  · replace E := (if_of E).2 c1
    refine Rn.aload_n (pc' := 11) dX3_firstOfPlaces_10 rfl 0 rfl rfl ?_
    obtain ⟨g2, E⟩ := gd_of E
    refine Rn.getR (pc' := 14) fl_X3_33_3 g2 rfl dX3_firstOfPlaces_11 rfl ?_
    refine Rn.iload_n (pc' := 15) dX3_firstOfPlaces_14 rfl 2 rfl rfl ?_
    obtain ⟨g3, E⟩ := gd_of E
    obtain ⟨g4, E⟩ := gd_of E
    refine Rn.iald (pc' := 16) g3 g4 dX3_firstOfPlaces_15 rfl ?_
    refine Rn.iconst (pc' := 17) (v := (-1 : Int32)) (hv := by decide) dX3_firstOfPlaces_16 rfl ?_
    refine Rn.icmp_eq (pc' := 20) (tgt := 42) dX3_firstOfPlaces_17 (by decide) rfl (fun c5 => ?_) (fun c5 => ?_)
    · replace E := (if_of E).1 c5
      exact f_Land_firstOfPlaces_b42_ok hst hd  hk4 E
    · replace E := (if_of E).2 c5
      refine Rn.iload_n (pc' := 21) dX3_firstOfPlaces_20 rfl 1 rfl rfl ?_
      refine Rn.iconst (pc' := 22) (v := (-1 : Int32)) (hv := by decide) dX3_firstOfPlaces_21 rfl ?_
      refine Rn.icmp_eq (pc' := 25) (tgt := 40) dX3_firstOfPlaces_22 (by decide) rfl (fun c6 => ?_) (fun c6 => ?_)
      · replace E := (if_of E).1 c6
        refine Rn.sub [0, 2] rfl ?_
        exact f_Land_firstOfPlaces_b40_ok hst hd  hk4 E
      · replace E := (if_of E).2 c6
        refine Rn.aload_n (pc' := 26) dX3_firstOfPlaces_25 rfl 0 rfl rfl ?_
        refine Rn.getR (pc' := 29) fl_X3_33_3 g2 rfl dX3_firstOfPlaces_26 rfl ?_
        refine Rn.iload_n (pc' := 30) dX3_firstOfPlaces_29 rfl 2 rfl rfl ?_
        obtain ⟨g7, E⟩ := gd_of E
        refine Rn.iald (pc' := 31) g3 g7 dX3_firstOfPlaces_30 rfl ?_
        refine Rn.aload_n (pc' := 32) dX3_firstOfPlaces_31 rfl 0 rfl rfl ?_
        refine Rn.getR (pc' := 35) fl_X3_33_3 g2 rfl dX3_firstOfPlaces_32 rfl ?_
        refine Rn.iload_n (pc' := 36) dX3_firstOfPlaces_35 rfl 1 rfl rfl ?_
        obtain ⟨g8, E⟩ := gd_of E
        refine Rn.iald (pc' := 37) g3 g8 dX3_firstOfPlaces_36 rfl ?_
        refine Rn.icmp_le (pc' := 40) (tgt := 42) dX3_firstOfPlaces_37 (by decide) rfl (fun c9 => ?_) (fun c9 => ?_)
        · replace E := (if_of E).1 c9
          exact f_Land_firstOfPlaces_b42_ok hst hd  hk4 E
        · replace E := (if_of E).2 c9
          refine Rn.sub [0, 2] rfl ?_
          exact f_Land_firstOfPlaces_b40_ok hst hd  hk4 E
def f_Land_firstOfPlaces_L4   (n : Nat) : Hp → Nat → Int32 → Int32 → Option (Int32 × Hp) := Nat.rec (motive := fun _ => Hp → Nat → Int32 → Int32 → Option (Int32 × Hp)) (fun _ _ _ _ => none) (fun _ rec => f_Land_firstOfPlaces_b4   rec) n
theorem f_Land_firstOfPlaces_L4_ok {l : Launch} {X : Nat × (Nat → Int32)} (hst : l.stackTraces = false) {d : Nat} (hd : 0 ≤ d)     : ∀ (n : Nat) (h : Hp) (x0 : Nat) (x1 : Int32) (x2 : Int32)  (r : Int32 × Hp), f_Land_firstOfPlaces_L4   n h x0 x1 x2 = some r → Rn l X mX3_firstOfPlaces d 4 [(0, .ref x0), (1, .int x1), (2, .int x2)] [] h (eI r) r.2 := by
  intro n
  induction n with
  | zero => intro h x0 x1 x2 r E; cases E
  | succ n ih => intro h x0 x1 x2 r E; exact f_Land_firstOfPlaces_b4_ok hst hd   ih E
def f_Land_firstOfPlaces_b0   (h : Hp) (x0 : Nat)  : Option (Int32 × Hp) :=
f_Land_firstOfPlaces_L4   FU h x0 (-1 : Int32) (0 : Int32)

set_option maxRecDepth 20000 in
set_option maxHeartbeats 4000000 in
theorem f_Land_firstOfPlaces_b0_ok {l : Launch} {X : Nat × (Nat → Int32)} (hst : l.stackTraces = false) {d : Nat} (hd : 0 ≤ d)     {h : Hp} {x0 : Nat}  {r : Int32 × Hp} (E : f_Land_firstOfPlaces_b0   h x0 = some r) : Rn l X mX3_firstOfPlaces d 0 [(0, .ref x0)] [] h (eI r) r.2 := by
  unfold f_Land_firstOfPlaces_b0 at E
  refine Rn.iconst (pc' := 1) (v := (-1 : Int32)) (hv := by decide) dX3_firstOfPlaces_0 rfl ?_
  refine Rn.istore_n (pc' := 2) (L' := [(1, .int (-1 : Int32)), (0, .ref x0)]) dX3_firstOfPlaces_1 rfl (by decide) rfl rfl ?_
  refine Rn.iconst (pc' := 3) (v := (0 : Int32)) (hv := by decide) dX3_firstOfPlaces_2 rfl ?_
  refine Rn.istore_n (pc' := 4) (L' := [(2, .int (0 : Int32)), (1, .int (-1 : Int32)), (0, .ref x0)]) dX3_firstOfPlaces_3 rfl (by decide) rfl rfl ?_
  refine Rn.sub [2, 1, 0] rfl ?_
  exact f_Land_firstOfPlaces_L4_ok hst hd   FU _ _ _ _ _ E
def f_Land_firstOfPlaces (h : Hp) (x0 : Nat) : Option (Int32 × Hp) := f_Land_firstOfPlaces_b0  h x0
theorem f_Land_firstOfPlaces_ok {l : Launch} {X : Nat × (Nat → Int32)} (hst : l.stackTraces = false) {h : Hp} {x0 : Nat} {r : Int32 × Hp} (E : f_Land_firstOfPlaces h x0 = some r) : MC l X yX3_firstOfPlaces mX3_firstOfPlaces 0 [.ref x0] h (eI r) r.2 :=
  MC.body (by decide +kernel) rfl (by decide) hst (Nat.le_of_ble_eq_true rfl) (f_Land_firstOfPlaces_b0_ok hst (Nat.le_refl _) E)
