/-! ===== by program out of the bytecode (wip/whole/gen/emit.py) ===== -/
abbrev mX2_drink : MI := (RX2, cX2_drink, 3, none, [], false)
theorem ws_X2_drink : ∀ w ∈ wsM yX2_drink mX2_drink, w ∈ gw := List.forall_mem_cons.mpr ⟨gw_at 621 (by decide +kernel) (by decide +kernel), fun _ h => h⟩
def f_House_drink_b0   (h : Hp) (x0 : Nat) (x1 : Int32) (x2 : Int32)  : Option (Hp) :=
if x1 < 0 then (
some h

) else (
if (30 : Int32) ≤ x1 then (
some h

) else (
if hS h x0 = 3 then (
if hS h (hR h x0 5) = 20 then (
if ib x1 (hL h (hR h x0 5)) = true then (
if ib x1 (hL h (hR h x0 5)) = true then (
wr (sI h (hR h x0 5) (ix x1) ((hI h (hR h x0 5) (ix x1)) + x2)) fun h7 =>
some h7
) else none) else none) else none) else none
)

)

set_option maxRecDepth 20000 in
set_option maxHeartbeats 4000000 in
theorem f_House_drink_b0_ok {l : Launch} {X : Nat × (Nat → Int32)} (hst : l.stackTraces = false) {d : Nat} (hd : 0 ≤ d)     {h : Hp} {x0 : Nat} {x1 : Int32} {x2 : Int32}  {r : Hp} (E : f_House_drink_b0   h x0 x1 x2 = some r) : Rn l X mX2_drink d 0 [(0, .ref x0), (1, .int x1), (2, .int x2)] [] h (eV r) r := by
  unfold f_House_drink_b0 at E
  refine Rn.iload_n (pc' := 1) dX2_drink_0 rfl 1 rfl rfl ?_
  refine Rn.if_lt (pc' := 4) (tgt := 20) dX2_drink_1 (by decide) rfl (fun c1 => ?_) (fun c1 => ?_)
  · replace E := (if_of E).1 c1
    cases E
    exact Rn.vret rfl dX2_drink_20
  · replace E := (if_of E).2 c1
    refine Rn.iload_n (pc' := 5) dX2_drink_4 rfl 1 rfl rfl ?_
    refine Rn.bipush (pc' := 7) (v := (30 : Int32)) (hv := by decide) dX2_drink_5 rfl ?_
    refine Rn.icmp_ge (pc' := 10) (tgt := 20) dX2_drink_7 (by decide) rfl (fun c2 => ?_) (fun c2 => ?_)
    · replace E := (if_of E).1 c2
      cases E
      exact Rn.vret rfl dX2_drink_20
    · replace E := (if_of E).2 c2
      refine Rn.aload_n (pc' := 11) dX2_drink_10 rfl 0 rfl rfl ?_
      obtain ⟨g3, E⟩ := gd_of E
      refine Rn.getR (pc' := 14) fl_X2_9_2 g3 rfl dX2_drink_11 rfl ?_
      refine Rn.iload_n (pc' := 15) dX2_drink_14 rfl 1 rfl rfl ?_
      refine Rn.dup2 (pc' := 16) (hc := rfl) (hd := rfl) dX2_drink_15 rfl ?_
      obtain ⟨g4, E⟩ := gd_of E
      obtain ⟨g5, E⟩ := gd_of E
      refine Rn.iald (pc' := 17) g4 g5 dX2_drink_16 rfl ?_
      refine Rn.iload_n (pc' := 18) dX2_drink_17 rfl 2 rfl rfl ?_
      refine Rn.iadd (pc' := 19) dX2_drink_18 rfl ?_
      obtain ⟨g6, E⟩ := gd_of E
      refine Rn.iast (pc' := 20) g4 g6 dX2_drink_19 rfl ?_
      replace E := wr_of E
      generalize eh8 : sI h (hR h x0 5) (ix x1) ((hI h (hR h x0 5) (ix x1)) + x2) = h7 at E ⊢
      cases E
      exact Rn.vret rfl dX2_drink_20
def f_House_drink (h : Hp) (x0 : Nat) (x1 : Int32) (x2 : Int32) : Option (Hp) := f_House_drink_b0  h x0 x1 x2
theorem f_House_drink_ok {l : Launch} {X : Nat × (Nat → Int32)} (hst : l.stackTraces = false) {h : Hp} {x0 : Nat} {x1 : Int32} {x2 : Int32} {r : Hp} (E : f_House_drink h x0 x1 x2 = some r) : MC l X yX2_drink mX2_drink 0 [.ref x0, .int x1, .int x2] h (eV r) r :=
  MC.body (by decide +kernel) rfl (by decide) hst (Nat.le_of_ble_eq_true rfl) (f_House_drink_b0_ok hst (Nat.le_refl _) E)
abbrev mX3_lackOf : MI := (RX3, cX3_lackOf, 8, (some Jvm.ClassFile.FieldType.int), [], false)
theorem ws_X3_lackOf : ∀ w ∈ wsM yX3_lackOf mX3_lackOf, w ∈ gw := List.forall_mem_cons.mpr ⟨gw_at 586 (by decide +kernel) (by decide +kernel), fun _ h => h⟩
theorem fl_X3_147_2 : FL RX3 147 2 4 := ⟨_, rfl, by decide, "VintageWater$House", gw_at 323 (by decide +kernel) (by decide +kernel), Or.inl rfl⟩
def f_Land_lackOf_b187   (h : Hp) (x1 : Nat) (x2 : Int32)  : Option (Int32 × Hp) :=
if hS h x1 = 3 then (
wr (sI h x1 4 x2) fun h2 =>
wr (sI h2 x1 3 ((hI h2 x1 3) + x2)) fun h4 =>
some (x2, h4)
) else none
set_option maxRecDepth 20000 in
set_option maxHeartbeats 4000000 in
theorem f_Land_lackOf_b187_ok {l : Launch} {X : Nat × (Nat → Int32)} (hst : l.stackTraces = false) {d : Nat} (hd : 4 ≤ d)     {h : Hp} {x1 : Nat} {x2 : Int32}  {r : Int32 × Hp} (E : f_Land_lackOf_b187   h x1 x2 = some r) : Rn l X mX3_lackOf d 187 [(1, .ref x1), (2, .int x2)] [] h (eI r) r.2 := by
  unfold f_Land_lackOf_b187 at E
  refine Rn.aload_n (pc' := 188) dX3_lackOf_187 rfl 0 rfl rfl ?_
  refine Rn.iload_n (pc' := 189) dX3_lackOf_188 rfl 1 rfl rfl ?_
  obtain ⟨g1, E⟩ := gd_of E
  refine Rn.putI (pc' := 192) fl_X3_147_2 (fun q hq => by cases hq; decide) g1 rfl rfl rfl dX3_lackOf_189 rfl ?_
  replace E := wr_of E
  generalize eh3 : sI h x1 4 x2 = h2 at E ⊢
  refine Rn.aload_n (pc' := 193) dX3_lackOf_192 rfl 0 rfl rfl ?_
  refine Rn.dup (pc' := 194) (hc := rfl) dX3_lackOf_193 rfl ?_
  refine Rn.getI (pc' := 197) fl_X3_203_2 (kp_sI eh3 g1) rfl dX3_lackOf_194 rfl ?_
  refine Rn.iload_n (pc' := 198) dX3_lackOf_197 rfl 1 rfl rfl ?_
  refine Rn.iadd (pc' := 199) dX3_lackOf_198 rfl ?_
  refine Rn.putI (pc' := 202) fl_X3_203_2 (fun q hq => by cases hq; decide) (kp_sI eh3 g1) rfl rfl rfl dX3_lackOf_199 rfl ?_
  replace E := wr_of E
  generalize eh5 : sI h2 x1 3 ((hI h2 x1 3) + x2) = h4 at E ⊢
  refine Rn.iload_n (pc' := 203) dX3_lackOf_202 rfl 1 rfl rfl ?_
  cases E
  exact Rn.zret rfl rfl dX3_lackOf_203
def f_Land_lackOf_b180  (k58 : Hp → Nat → Nat → Int32 → Nat → Int32 → Int32 → Option (Int32 × Hp)) (h : Hp) (x0 : Nat) (x1 : Nat) (x2 : Int32) (x3 : Nat) (x4 : Int32) (x5 : Int32) (s0 : Nat) (s1 : Int32) (s2 : Int32) : Option (Int32 × Hp) :=
if hS h s0 = 20 then (
if ib s1 (hL h s0) = true then (
wr (sI h s0 (ix s1) s2) fun h3 =>
k58 h3 x0 x1 x2 x3 x4 (x5 + (1 : Int32))
) else none) else none
set_option maxRecDepth 20000 in
set_option maxHeartbeats 4000000 in
theorem f_Land_lackOf_b180_ok {l : Launch} {X : Nat × (Nat → Int32)} (hst : l.stackTraces = false) {d : Nat} (hd : 4 ≤ d)   {k58 : Hp → Nat → Nat → Int32 → Nat → Int32 → Int32 → Option (Int32 × Hp)} (hk58 : ∀ (h : Hp) (x0 : Nat) (x1 : Nat) (x2 : Int32) (x3 : Nat) (x4 : Int32) (x5 : Int32)  (r : Int32 × Hp), k58 h x0 x1 x2 x3 x4 x5 = some r → Rn l X mX3_lackOf d 58 [(0, .ref x0), (1, .ref x1), (2, .int x2), (3, .ref x3), (4, .int x4), (5, .int x5)] [] h (eI r) r.2) {h : Hp} {x0 : Nat} {x1 : Nat} {x2 : Int32} {x3 : Nat} {x4 : Int32} {x5 : Int32} {s0 : Nat} {s1 : Int32} {s2 : Int32} {r : Int32 × Hp} (E : f_Land_lackOf_b180  k58 h x0 x1 x2 x3 x4 x5 s0 s1 s2 = some r) : Rn l X mX3_lackOf d 180 [(0, .ref x0), (1, .ref x1), (2, .int x2), (3, .ref x3), (4, .int x4), (5, .int x5)] [.int s2, .int s1, .ref s0] h (eI r) r.2 := by
  unfold f_Land_lackOf_b180 at E
  obtain ⟨g1, E⟩ := gd_of E
  obtain ⟨g2, E⟩ := gd_of E
  refine Rn.iast (pc' := 181) g1 g2 dX3_lackOf_180 rfl ?_
  replace E := wr_of E
  generalize eh4 : sI h s0 (ix s1) s2 = h3 at E ⊢
  refine Rn.iinc (pc' := 184) (v := (x5 + (1 : Int32))) (L' := [(5, .int (x5 + (1 : Int32))), (0, .ref x0), (1, .ref x1), (2, .int x2), (3, .ref x3), (4, .int x4)]) dX3_lackOf_181 5 rfl rfl (by decide) rfl rfl ?_
  refine Rn.goto (pc' := 58) dX3_lackOf_184 (by decide) ?_
  refine Rn.sub [1, 2, 3, 4, 5, 0] rfl ?_
  exact hk58 _ _ _ _ _ _ _ _ E
def f_Land_lackOf_b163  (k58 : Hp → Nat → Nat → Int32 → Nat → Int32 → Int32 → Option (Int32 × Hp)) (h : Hp) (x0 : Nat) (x1 : Nat) (x2 : Int32) (x3 : Nat) (x4 : Int32) (x5 : Int32) (x6 : Int32) (s0 : Nat) (s1 : Int32) : Option (Int32 × Hp) :=
if hS h x0 = 4 then (
bI (f_Land_placeIn h x0 x3 x6) fun v2 h3 =>
f_Land_lackOf_b180  k58 h3 x0 x1 x2 x3 x4 x5 s0 s1 v2
) else none
set_option maxRecDepth 20000 in
set_option maxHeartbeats 4000000 in
theorem f_Land_lackOf_b163_ok {l : Launch} {X : Nat × (Nat → Int32)} (hst : l.stackTraces = false) {d : Nat} (hd : 4 ≤ d)   {k58 : Hp → Nat → Nat → Int32 → Nat → Int32 → Int32 → Option (Int32 × Hp)} (hk58 : ∀ (h : Hp) (x0 : Nat) (x1 : Nat) (x2 : Int32) (x3 : Nat) (x4 : Int32) (x5 : Int32)  (r : Int32 × Hp), k58 h x0 x1 x2 x3 x4 x5 = some r → Rn l X mX3_lackOf d 58 [(0, .ref x0), (1, .ref x1), (2, .int x2), (3, .ref x3), (4, .int x4), (5, .int x5)] [] h (eI r) r.2) {h : Hp} {x0 : Nat} {x1 : Nat} {x2 : Int32} {x3 : Nat} {x4 : Int32} {x5 : Int32} {x6 : Int32} {s0 : Nat} {s1 : Int32} {r : Int32 × Hp} (E : f_Land_lackOf_b163  k58 h x0 x1 x2 x3 x4 x5 x6 s0 s1 = some r) : Rn l X mX3_lackOf d 163 [(0, .ref x0), (1, .ref x1), (2, .int x2), (3, .ref x3), (4, .int x4), (5, .int x5), (6, .int x6)] [.int s1, .ref s0] h (eI r) r.2 := by
  unfold f_Land_lackOf_b163 at E
  refine Rn.aload_n (pc' := 164) dX3_lackOf_163 rfl 0 rfl rfl ?_
  refine Rn.aload_n (pc' := 165) dX3_lackOf_164 rfl 3 rfl rfl ?_
  refine Rn.iload (pc' := 167) dX3_lackOf_165 6 rfl rfl ?_
  obtain ⟨g1, E⟩ := gd_of E
  obtain ⟨v2, h3, e4, E⟩ := bI_of E
  refine Rn.callV1 (pc' := 170) (As := [.ref x3, .int x6]) (rest := [.int s1, .ref s0]) (f_Land_placeIn_ok hst e4) (Nat.le_trans (by decide) hd) rfl kb_X3_199 ki_X3_placeIn rfl g1 rfl rfl (Nat.le_of_ble_eq_true rfl) dX3_lackOf_167 rfl rfl ?_
  refine Rn.goto (pc' := 180) dX3_lackOf_170 (by decide) ?_
  refine Rn.sub [0, 1, 2, 3, 4, 5] rfl ?_
  exact f_Land_lackOf_b180_ok hst hd  hk58 E
theorem kb_X3_193 : KB RX3 193 yX0_take mX0_take 2 := ⟨gw_at 617 (by decide +kernel) (by decide +kernel), gw_at 114 (by decide +kernel) (by decide +kernel), trivial, ws_X0_take, by decide +kernel, by decide +kernel, by decide +kernel, by decide⟩
theorem kb_X3_196 : KB RX3 196 yX2_drink mX2_drink 2 := ⟨gw_at 618 (by decide +kernel) (by decide +kernel), gw_at 115 (by decide +kernel) (by decide +kernel), trivial, ws_X2_drink, by decide +kernel, by decide +kernel, by decide +kernel, by decide⟩
theorem ki_X2_drink : Cond.instanceMethod yX2_drink ∈ gw ∧ Cond.selects yX2_drink.cls yX2_drink yX2_drink ∈ gw := ⟨gw_at 619 (by decide +kernel) (by decide +kernel), gw_at 620 (by decide +kernel) (by decide +kernel)⟩
def f_Land_lackOf_b119  (k58 : Hp → Nat → Nat → Int32 → Nat → Int32 → Int32 → Option (Int32 × Hp)) (h : Hp) (x0 : Nat) (x1 : Nat) (x2 : Int32) (x3 : Nat) (x4 : Int32) (x5 : Int32) (x6 : Int32) (s0 : Int32) : Option (Int32 × Hp) :=
if hS h x3 = 1 then (
bV (f_Cistern_take h x3 x6 s0) fun h3 =>
if hS h3 x1 = 3 then (
bV (f_House_drink h3 x1 x6 s0) fun h7 =>
if hS h7 x0 = 4 then (
if x4 = 0 then (
if hS h7 x3 = 1 then (
if hS h7 (hR h7 x3 6) = 20 then (
if ib x6 (hL h7 (hR h7 x3 6)) = true then (
if (hI h7 (hR h7 x3 6) (ix x6)) = 0 then (
f_Land_lackOf_b163  k58 h7 x0 x1 (x2 - s0) x3 x4 x5 x6 (hR h7 x0 7) x6

) else (
if hS h7 (hR h7 x0 7) = 20 then (
if ib x6 (hL h7 (hR h7 x0 7)) = true then (
f_Land_lackOf_b180  k58 h7 x0 x1 (x2 - s0) x3 x4 x5 (hR h7 x0 7) x6 (hI h7 (hR h7 x0 7) (ix x6))
) else none) else none
)
) else none) else none) else none
) else (
f_Land_lackOf_b163  k58 h7 x0 x1 (x2 - s0) x3 x4 x5 x6 (hR h7 x0 7) x6

)
) else none) else none) else none
set_option maxRecDepth 20000 in
set_option maxHeartbeats 4000000 in
theorem f_Land_lackOf_b119_ok {l : Launch} {X : Nat × (Nat → Int32)} (hst : l.stackTraces = false) {d : Nat} (hd : 4 ≤ d)   {k58 : Hp → Nat → Nat → Int32 → Nat → Int32 → Int32 → Option (Int32 × Hp)} (hk58 : ∀ (h : Hp) (x0 : Nat) (x1 : Nat) (x2 : Int32) (x3 : Nat) (x4 : Int32) (x5 : Int32)  (r : Int32 × Hp), k58 h x0 x1 x2 x3 x4 x5 = some r → Rn l X mX3_lackOf d 58 [(0, .ref x0), (1, .ref x1), (2, .int x2), (3, .ref x3), (4, .int x4), (5, .int x5)] [] h (eI r) r.2) {h : Hp} {x0 : Nat} {x1 : Nat} {x2 : Int32} {x3 : Nat} {x4 : Int32} {x5 : Int32} {x6 : Int32} {s0 : Int32} {r : Int32 × Hp} (E : f_Land_lackOf_b119  k58 h x0 x1 x2 x3 x4 x5 x6 s0 = some r) : Rn l X mX3_lackOf d 119 [(0, .ref x0), (1, .ref x1), (2, .int x2), (3, .ref x3), (4, .int x4), (5, .int x5), (6, .int x6)] [.int s0] h (eI r) r.2 := by
  unfold f_Land_lackOf_b119 at E
  refine Rn.istore (pc' := 121) (L' := [(7, .int s0), (0, .ref x0), (1, .ref x1), (2, .int x2), (3, .ref x3), (4, .int x4), (5, .int x5), (6, .int x6)]) dX3_lackOf_119 (by decide) rfl rfl ?_
  refine Rn.aload_n (pc' := 122) dX3_lackOf_121 rfl 4 rfl rfl ?_
  refine Rn.iload (pc' := 124) dX3_lackOf_122 7 rfl rfl ?_
  refine Rn.iload (pc' := 126) dX3_lackOf_124 0 rfl rfl ?_
  obtain ⟨g1, E⟩ := gd_of E
  obtain ⟨h3, e4, E⟩ := bV_of E
  refine Rn.callV1 (pc' := 129) (As := [.int x6, .int s0]) (rest := []) (f_Cistern_take_ok hst e4) (Nat.le_trans (by decide) hd) rfl kb_X3_193 ki_X0_take rfl g1 rfl rfl (Nat.le_of_ble_eq_true rfl) dX3_lackOf_126 rfl rfl ?_
  refine Rn.aload_n (pc' := 130) dX3_lackOf_129 rfl 2 rfl rfl ?_
  refine Rn.iload (pc' := 132) dX3_lackOf_130 7 rfl rfl ?_
  refine Rn.iload (pc' := 134) dX3_lackOf_132 0 rfl rfl ?_
  obtain ⟨g5, E⟩ := gd_of E
  obtain ⟨h7, e8, E⟩ := bV_of E
  refine Rn.callV1 (pc' := 137) (As := [.int x6, .int s0]) (rest := []) (f_House_drink_ok hst e8) (Nat.le_trans (by decide) hd) rfl kb_X3_196 ki_X2_drink rfl g5 rfl rfl (Nat.le_of_ble_eq_true rfl) dX3_lackOf_134 rfl rfl ?_
  refine Rn.iload_n (pc' := 138) dX3_lackOf_137 rfl 3 rfl rfl ?_
  refine Rn.iload (pc' := 140) dX3_lackOf_138 0 rfl rfl ?_
  refine Rn.isub (pc' := 141) dX3_lackOf_140 rfl ?_
  refine Rn.istore_n (pc' := 142) (L' := [(2, .int (x2 - s0)), (7, .int s0), (0, .ref x0), (1, .ref x1), (3, .ref x3), (4, .int x4), (5, .int x5), (6, .int x6)]) dX3_lackOf_141 rfl (by decide) rfl rfl ?_
  refine Rn.aload_n (pc' := 143) dX3_lackOf_142 rfl 2 rfl rfl ?_
  obtain ⟨g9, E⟩ := gd_of E
  refine Rn.getR (pc' := 146) fl_X3_33_3 g9 rfl dX3_lackOf_143 rfl ?_
  refine Rn.iload (pc' := 148) dX3_lackOf_146 7 rfl rfl ?_
  refine Rn.iload (pc' := 150) dX3_lackOf_148 5 rfl rfl ?_
  refine Rn.if_ne (pc' := 153) (tgt := 163) dX3_lackOf_150 (by decide) rfl (fun c10 => ?_) (fun c10 => ?_)
  · replace E := (if_of E).2 c10
    refine Rn.sub [2, 3, 0, 4, 5, 6, 7] rfl ?_
    exact f_Land_lackOf_b163_ok hst hd  hk58 E
  · replace E := (if_of E).1 c10
    refine Rn.aload_n (pc' := 154) dX3_lackOf_153 rfl 4 rfl rfl ?_
    obtain ⟨g11, E⟩ := gd_of E
    refine Rn.getR (pc' := 157) fl_X3_190_0 g11 rfl dX3_lackOf_154 rfl ?_
    refine Rn.iload (pc' := 159) dX3_lackOf_157 7 rfl rfl ?_
    obtain ⟨g12, E⟩ := gd_of E
    obtain ⟨g13, E⟩ := gd_of E
    refine Rn.iald (pc' := 160) g12 g13 dX3_lackOf_159 rfl ?_
    refine Rn.if_ne (pc' := 163) (tgt := 173) dX3_lackOf_160 (by decide) rfl (fun c14 => ?_) (fun c14 => ?_)
    · replace E := (if_of E).2 c14
      refine Rn.aload_n (pc' := 174) dX3_lackOf_173 rfl 2 rfl rfl ?_
      refine Rn.getR (pc' := 177) fl_X3_33_3 g9 rfl dX3_lackOf_174 rfl ?_
      refine Rn.iload (pc' := 179) dX3_lackOf_177 7 rfl rfl ?_
      obtain ⟨g15, E⟩ := gd_of E
      obtain ⟨g16, E⟩ := gd_of E
      refine Rn.iald (pc' := 180) g15 g16 dX3_lackOf_179 rfl ?_
      refine Rn.sub [2, 3, 0, 4, 5, 6] rfl ?_
      exact f_Land_lackOf_b180_ok hst hd  hk58 E
    · replace E := (if_of E).1 c14
      refine Rn.sub [2, 3, 0, 4, 5, 6, 7] rfl ?_
      exact f_Land_lackOf_b163_ok hst hd  hk58 E
theorem fl_X3_170_2 : FL RX3 170 2 0 := ⟨_, rfl, by decide, "VintageWater$House", gw_at 312 (by decide +kernel) (by decide +kernel), Or.inl rfl⟩
theorem kb_X3_184 : KB RX3 184 yX3_firstOfPlaces mX3_firstOfPlaces 0 := ⟨gw_at 613 (by decide +kernel) (by decide +kernel), gw_at 113 (by decide +kernel) (by decide +kernel), trivial, ws_X3_firstOfPlaces, by decide +kernel, by decide +kernel, by decide +kernel, by decide⟩
theorem ki_X3_firstOfPlaces : Cond.instanceMethod yX3_firstOfPlaces ∈ gw ∧ Cond.selects yX3_firstOfPlaces.cls yX3_firstOfPlaces yX3_firstOfPlaces ∈ gw := ⟨gw_at 615 (by decide +kernel) (by decide +kernel), gw_at 6 (by decide +kernel) (by decide +kernel)⟩
theorem fl_X3_187_2 : FL RX3 187 2 2 := ⟨_, rfl, by decide, "VintageWater$House", gw_at 318 (by decide +kernel) (by decide +kernel), Or.inl rfl⟩
def f_Land_lackOf_b58  (k58 : Hp → Nat → Nat → Int32 → Nat → Int32 → Int32 → Option (Int32 × Hp)) (h : Hp) (x0 : Nat) (x1 : Nat) (x2 : Int32) (x3 : Nat) (x4 : Int32) (x5 : Int32)  : Option (Int32 × Hp) :=
if hS h x1 = 3 then (
if (hI h x1 0) ≤ x5 then (
f_Land_lackOf_b187   h x1 x2

) else (
if x2 ≤ 0 then (
f_Land_lackOf_b187   h x1 x2

) else (
if hS h x0 = 4 then (
bI (f_Land_firstOfPlaces h x0) fun v5 h6 =>
if v5 < 0 then (
f_Land_lackOf_b187   h6 x1 x2

) else (
if hS h6 x0 = 4 then (
if hS h6 (hR h6 x0 6) = 20 then (
if ib v5 (hL h6 (hR h6 x0 6)) = true then (
if hS h6 x1 = 3 then (
if (hI h6 (hR h6 x0 6) (ix v5)) ≤ (hI h6 x1 2) then (
if x4 = 0 then (
if hS h6 x3 = 1 then (
if hS h6 (hR h6 x3 6) = 20 then (
if ib v5 (hL h6 (hR h6 x3 6)) = true then (
bI (f_Math_min h6 x2 (hI h6 (hR h6 x3 6) (ix v5))) fun v18 h19 =>
f_Land_lackOf_b119  k58 h19 x0 x1 x2 x3 x4 x5 v5 v18
) else none) else none) else none
) else (
f_Land_lackOf_b119  k58 h6 x0 x1 x2 x3 x4 x5 v5 (1 : Int32)

)

) else (
f_Land_lackOf_b187   h6 x1 x2

)
) else none) else none) else none) else none
)
) else none
)

)
) else none
set_option maxRecDepth 20000 in
set_option maxHeartbeats 4000000 in
theorem f_Land_lackOf_b58_ok {l : Launch} {X : Nat × (Nat → Int32)} (hst : l.stackTraces = false) {d : Nat} (hd : 4 ≤ d)   {k58 : Hp → Nat → Nat → Int32 → Nat → Int32 → Int32 → Option (Int32 × Hp)} (hk58 : ∀ (h : Hp) (x0 : Nat) (x1 : Nat) (x2 : Int32) (x3 : Nat) (x4 : Int32) (x5 : Int32)  (r : Int32 × Hp), k58 h x0 x1 x2 x3 x4 x5 = some r → Rn l X mX3_lackOf d 58 [(0, .ref x0), (1, .ref x1), (2, .int x2), (3, .ref x3), (4, .int x4), (5, .int x5)] [] h (eI r) r.2) {h : Hp} {x0 : Nat} {x1 : Nat} {x2 : Int32} {x3 : Nat} {x4 : Int32} {x5 : Int32}  {r : Int32 × Hp} (E : f_Land_lackOf_b58  k58 h x0 x1 x2 x3 x4 x5 = some r) : Rn l X mX3_lackOf d 58 [(0, .ref x0), (1, .ref x1), (2, .int x2), (3, .ref x3), (4, .int x4), (5, .int x5)] [] h (eI r) r.2 := by
  unfold f_Land_lackOf_b58 at E
  refine Rn.iload (pc' := 60) dX3_lackOf_58 5 rfl rfl ?_
  refine Rn.aload_n (pc' := 61) dX3_lackOf_60 rfl 1 rfl rfl ?_
  obtain ⟨g1, E⟩ := gd_of E
  refine Rn.getI (pc' := 64) fl_X3_170_2 g1 rfl dX3_lackOf_61 rfl ?_
  refine Rn.icmp_ge (pc' := 67) (tgt := 187) dX3_lackOf_64 (by decide) rfl (fun c2 => ?_) (fun c2 => ?_)
  · replace E := (if_of E).1 c2
    refine Rn.sub [1, 2] rfl ?_
    exact f_Land_lackOf_b187_ok hst hd   E
  · replace E := (if_of E).2 c2
    refine Rn.iload_n (pc' := 68) dX3_lackOf_67 rfl 2 rfl rfl ?_
    refine Rn.if_le (pc' := 71) (tgt := 187) dX3_lackOf_68 (by decide) rfl (fun c3 => ?_) (fun c3 => ?_)
    · replace E := (if_of E).1 c3
      refine Rn.sub [1, 2] rfl ?_
      exact f_Land_lackOf_b187_ok hst hd   E
    · replace E := (if_of E).2 c3
      refine Rn.aload_n (pc' := 72) dX3_lackOf_71 rfl 0 rfl rfl ?_
      obtain ⟨g4, E⟩ := gd_of E
      obtain ⟨v5, h6, e7, E⟩ := bI_of E
      refine Rn.callV1 (pc' := 75) (As := []) (rest := []) (f_Land_firstOfPlaces_ok hst e7) (Nat.le_trans (by decide) hd) rfl kb_X3_184 ki_X3_firstOfPlaces rfl g4 rfl rfl (Nat.le_of_ble_eq_true rfl) dX3_lackOf_72 rfl rfl ?_
      refine Rn.istore (pc' := 77) (L' := [(6, .int v5), (0, .ref x0), (1, .ref x1), (2, .int x2), (3, .ref x3), (4, .int x4), (5, .int x5)]) dX3_lackOf_75 (by decide) rfl rfl ?_
      refine Rn.iload (pc' := 79) dX3_lackOf_77 0 rfl rfl ?_
      refine Rn.if_lt (pc' := 82) (tgt := 187) dX3_lackOf_79 (by decide) rfl (fun c8 => ?_) (fun c8 => ?_)
      · replace E := (if_of E).1 c8
        refine Rn.sub [2, 3] rfl ?_
        exact f_Land_lackOf_b187_ok hst hd   E
      · replace E := (if_of E).2 c8
        refine Rn.aload_n (pc' := 83) dX3_lackOf_82 rfl 1 rfl rfl ?_
        obtain ⟨g9, E⟩ := gd_of E
        refine Rn.getR (pc' := 86) fl_X3_29_3 g9 rfl dX3_lackOf_83 rfl ?_
        refine Rn.iload (pc' := 88) dX3_lackOf_86 0 rfl rfl ?_
        obtain ⟨g10, E⟩ := gd_of E
        obtain ⟨g11, E⟩ := gd_of E
        refine Rn.iald (pc' := 89) g10 g11 dX3_lackOf_88 rfl ?_
        refine Rn.aload_n (pc' := 90) dX3_lackOf_89 rfl 2 rfl rfl ?_
        obtain ⟨g12, E⟩ := gd_of E
        refine Rn.getI (pc' := 93) fl_X3_187_2 g12 rfl dX3_lackOf_90 rfl ?_
        refine Rn.icmp_le (pc' := 96) (tgt := 99) dX3_lackOf_93 (by decide) rfl (fun c13 => ?_) (fun c13 => ?_)
        · replace E := (if_of E).1 c13
          refine Rn.iload (pc' := 101) dX3_lackOf_99 5 rfl rfl ?_
          refine Rn.if_eq (pc' := 104) (tgt := 108) dX3_lackOf_101 (by decide) rfl (fun c14 => ?_) (fun c14 => ?_)
          · replace E := (if_of E).1 c14
            refine Rn.iload_n (pc' := 109) dX3_lackOf_108 rfl 3 rfl rfl ?_
            refine Rn.aload_n (pc' := 110) dX3_lackOf_109 rfl 4 rfl rfl ?_
            obtain ⟨g15, E⟩ := gd_of E
            refine Rn.getR (pc' := 113) fl_X3_190_0 g15 rfl dX3_lackOf_110 rfl ?_
            refine Rn.iload (pc' := 115) dX3_lackOf_113 0 rfl rfl ?_
            obtain ⟨g16, E⟩ := gd_of E
            obtain ⟨g17, E⟩ := gd_of E
            refine Rn.iald (pc' := 116) g16 g17 dX3_lackOf_115 rfl ?_
            obtain ⟨v18, h19, e20, E⟩ := bI_of E
            refine Rn.callS1 (pc' := 119) (As := [.int x2, .int (hI h6 (hR h6 x3 6) (ix v5))]) (rest := []) (f_Math_min_ok hst e20) (Nat.le_trans (by decide) hd) rfl kb_X3_114 ks_J9_min_7cf53 rfl rfl (Nat.le_of_ble_eq_true rfl) dX3_lackOf_116 rfl rfl ?_
            refine Rn.sub [1, 2, 3, 4, 5, 6, 0] rfl ?_
            exact f_Land_lackOf_b119_ok hst hd  hk58 E
          · replace E := (if_of E).2 c14
            refine Rn.iconst (pc' := 105) (v := (1 : Int32)) (hv := by decide) dX3_lackOf_104 rfl ?_
            refine Rn.goto (pc' := 119) dX3_lackOf_105 (by decide) ?_
            refine Rn.sub [1, 2, 3, 4, 5, 6, 0] rfl ?_
            exact f_Land_lackOf_b119_ok hst hd  hk58 E
        · replace E := (if_of E).2 c13
          refine Rn.goto (pc' := 187) dX3_lackOf_96 (by decide) ?_
          refine Rn.sub [2, 3] rfl ?_
          exact f_Land_lackOf_b187_ok hst hd   E
def f_Land_lackOf_L58   (n : Nat) : Hp → Nat → Nat → Int32 → Nat → Int32 → Int32 → Option (Int32 × Hp) := Nat.rec (motive := fun _ => Hp → Nat → Nat → Int32 → Nat → Int32 → Int32 → Option (Int32 × Hp)) (fun _ _ _ _ _ _ _ => none) (fun _ rec => f_Land_lackOf_b58   rec) n
theorem f_Land_lackOf_L58_ok {l : Launch} {X : Nat × (Nat → Int32)} (hst : l.stackTraces = false) {d : Nat} (hd : 4 ≤ d)     : ∀ (n : Nat) (h : Hp) (x0 : Nat) (x1 : Nat) (x2 : Int32) (x3 : Nat) (x4 : Int32) (x5 : Int32)  (r : Int32 × Hp), f_Land_lackOf_L58   n h x0 x1 x2 x3 x4 x5 = some r → Rn l X mX3_lackOf d 58 [(0, .ref x0), (1, .ref x1), (2, .int x2), (3, .ref x3), (4, .int x4), (5, .int x5)] [] h (eI r) r.2 := by
  intro n
  induction n with
  | zero => intro h x0 x1 x2 x3 x4 x5 r E; cases E
  | succ n ih => intro h x0 x1 x2 x3 x4 x5 r E; exact f_Land_lackOf_b58_ok hst hd   ih E
theorem kb_X3_181 : KB RX3 181 yX3_weighAll mX3_weighAll 1 := ⟨gw_at 587 (by decide +kernel) (by decide +kernel), gw_at 113 (by decide +kernel) (by decide +kernel), trivial, ws_X3_weighAll, by decide +kernel, by decide +kernel, by decide +kernel, by decide⟩
theorem ki_X3_weighAll : Cond.instanceMethod yX3_weighAll ∈ gw ∧ Cond.selects yX3_weighAll.cls yX3_weighAll yX3_weighAll ∈ gw := ⟨gw_at 589 (by decide +kernel) (by decide +kernel), gw_at 4 (by decide +kernel) (by decide +kernel)⟩
def f_Land_lackOf_b48   (h : Hp) (x0 : Nat) (x1 : Nat) (x2 : Int32) (x3 : Nat) (s0 : Int32) : Option (Int32 × Hp) :=
if hS h x0 = 4 then (
bV (f_Land_weighAll h x0 x3) fun h3 =>
f_Land_lackOf_L58   FU h3 x0 x1 x2 x3 s0 (0 : Int32)
) else none
set_option maxRecDepth 20000 in
set_option maxHeartbeats 4000000 in
theorem f_Land_lackOf_b48_ok {l : Launch} {X : Nat × (Nat → Int32)} (hst : l.stackTraces = false) {d : Nat} (hd : 4 ≤ d)     {h : Hp} {x0 : Nat} {x1 : Nat} {x2 : Int32} {x3 : Nat} {s0 : Int32} {r : Int32 × Hp} (E : f_Land_lackOf_b48   h x0 x1 x2 x3 s0 = some r) : Rn l X mX3_lackOf d 48 [(0, .ref x0), (1, .ref x1), (2, .int x2), (3, .ref x3)] [.int s0] h (eI r) r.2 := by
  unfold f_Land_lackOf_b48 at E
  refine Rn.istore (pc' := 50) (L' := [(4, .int s0), (0, .ref x0), (1, .ref x1), (2, .int x2), (3, .ref x3)]) dX3_lackOf_48 (by decide) rfl rfl ?_
  refine Rn.aload_n (pc' := 51) dX3_lackOf_50 rfl 1 rfl rfl ?_
  refine Rn.aload_n (pc' := 52) dX3_lackOf_51 rfl 4 rfl rfl ?_
  obtain ⟨g1, E⟩ := gd_of E
  obtain ⟨h3, e4, E⟩ := bV_of E
  refine Rn.callV1 (pc' := 55) (As := [.ref x3]) (rest := []) (f_Land_weighAll_ok hst e4) (Nat.le_trans (by decide) hd) rfl kb_X3_181 ki_X3_weighAll rfl g1 rfl rfl (Nat.le_of_ble_eq_true rfl) dX3_lackOf_52 rfl rfl ?_
  refine Rn.iconst (pc' := 56) (v := (0 : Int32)) (hv := by decide) dX3_lackOf_55 rfl ?_
  refine Rn.istore (pc' := 58) (L' := [(5, .int (0 : Int32)), (4, .int s0), (0, .ref x0), (1, .ref x1), (2, .int x2), (3, .ref x3)]) dX3_lackOf_56 (by decide) rfl rfl ?_
  refine Rn.sub [2, 3, 4, 5, 1, 0] rfl ?_
  exact f_Land_lackOf_L58_ok hst hd   FU _ _ _ _ _ _ _ _ E
def f_Land_lackOf_b47   (h : Hp) (x0 : Nat) (x1 : Nat) (x2 : Int32) (x3 : Nat)  : Option (Int32 × Hp) :=
f_Land_lackOf_b48   h x0 x1 x2 x3 (0 : Int32)

set_option maxRecDepth 20000 in
set_option maxHeartbeats 4000000 in
theorem f_Land_lackOf_b47_ok {l : Launch} {X : Nat × (Nat → Int32)} (hst : l.stackTraces = false) {d : Nat} (hd : 4 ≤ d)     {h : Hp} {x0 : Nat} {x1 : Nat} {x2 : Int32} {x3 : Nat}  {r : Int32 × Hp} (E : f_Land_lackOf_b47   h x0 x1 x2 x3 = some r) : Rn l X mX3_lackOf d 47 [(0, .ref x0), (1, .ref x1), (2, .int x2), (3, .ref x3)] [] h (eI r) r.2 := by
  unfold f_Land_lackOf_b47 at E
  refine Rn.iconst (pc' := 48) (v := (0 : Int32)) (hv := by decide) dX3_lackOf_47 rfl ?_
  exact f_Land_lackOf_b48_ok hst hd   E
theorem fl_X3_173_2 : FL RX3 173 2 1 := ⟨_, rfl, by decide, "VintageWater$House", gw_at 315 (by decide +kernel) (by decide +kernel), Or.inl rfl⟩
theorem fl_X3_176_5 : FL RX3 176 5 6 := ⟨_, rfl, by decide, "VintageWater$Law", gw_at 1085 (by decide +kernel) (by decide +kernel), Or.inl rfl⟩
def f_Land_lackOf_b0   (h : Hp) (x0 : Nat) (x1 : Nat)  : Option (Int32 × Hp) :=
if hS h x1 = 3 then (
if hS h x0 = 4 then (
bI (f_Land_hasCistern h x0 (hI h x1 1)) fun v3 h4 =>
if v3 = 0 then (
f_Land_lackOf_b187   h4 x1 (hI h x1 0)

) else (
if hS h4 x0 = 4 then (
if hS h4 x1 = 3 then (
if hS h4 (hR h4 x0 3) = 23 then (
if ib (hI h4 x1 1) (hL h4 (hR h4 x0 3)) = true then (
if (hR h4 x0 8) = 0 then (
f_Land_lackOf_b47   h4 x0 x1 (hI h x1 0) (hR h4 (hR h4 x0 3) (ix (hI h4 x1 1)))

) else (
if hS h4 (hR h4 x0 8) = 6 then (
if (hI h4 (hR h4 x0 8) 6) = 0 then (
f_Land_lackOf_b47   h4 x0 x1 (hI h x1 0) (hR h4 (hR h4 x0 3) (ix (hI h4 x1 1)))

) else (
f_Land_lackOf_b48   h4 x0 x1 (hI h x1 0) (hR h4 (hR h4 x0 3) (ix (hI h4 x1 1))) (1 : Int32)

)
) else none
)
) else none) else none) else none) else none
)
) else none) else none
set_option maxRecDepth 20000 in
set_option maxHeartbeats 4000000 in
theorem f_Land_lackOf_b0_ok {l : Launch} {X : Nat × (Nat → Int32)} (hst : l.stackTraces = false) {d : Nat} (hd : 4 ≤ d)     {h : Hp} {x0 : Nat} {x1 : Nat}  {r : Int32 × Hp} (E : f_Land_lackOf_b0   h x0 x1 = some r) : Rn l X mX3_lackOf d 0 [(0, .ref x0), (1, .ref x1)] [] h (eI r) r.2 := by
  unfold f_Land_lackOf_b0 at E
  refine Rn.aload_n (pc' := 1) dX3_lackOf_0 rfl 1 rfl rfl ?_
  obtain ⟨g1, E⟩ := gd_of E
  refine Rn.getI (pc' := 4) fl_X3_170_2 g1 rfl dX3_lackOf_1 rfl ?_
  refine Rn.istore_n (pc' := 5) (L' := [(2, .int (hI h x1 0)), (0, .ref x0), (1, .ref x1)]) dX3_lackOf_4 rfl (by decide) rfl rfl ?_
  refine Rn.aload_n (pc' := 6) dX3_lackOf_5 rfl 1 rfl rfl ?_
  refine Rn.aload_n (pc' := 7) dX3_lackOf_6 rfl 2 rfl rfl ?_
  refine Rn.getI (pc' := 10) fl_X3_173_2 g1 rfl dX3_lackOf_7 rfl ?_
  obtain ⟨g2, E⟩ := gd_of E
  obtain ⟨v3, h4, e5, E⟩ := bI_of E
  refine Rn.callV1 (pc' := 13) (As := [.int (hI h x1 1)]) (rest := []) (f_Land_hasCistern_ok hst e5) (Nat.le_trans (by decide) hd) rfl kb_X3_106 ki_X3_hasCistern rfl g2 rfl rfl (Nat.le_of_ble_eq_true rfl) dX3_lackOf_10 rfl rfl ?_
  refine Rn.if_eq (pc' := 16) (tgt := 187) dX3_lackOf_13 (by decide) rfl (fun c6 => ?_) (fun c6 => ?_)
  · replace E := (if_of E).1 c6
    refine Rn.sub [2, 0] rfl ?_
    exact f_Land_lackOf_b187_ok hst hd   E
  · replace E := (if_of E).2 c6
    refine Rn.aload_n (pc' := 17) dX3_lackOf_16 rfl 1 rfl rfl ?_
    obtain ⟨g7, E⟩ := gd_of E
    refine Rn.getR (pc' := 20) fl_X3_11_3 g7 rfl dX3_lackOf_17 rfl ?_
    refine Rn.aload_n (pc' := 21) dX3_lackOf_20 rfl 2 rfl rfl ?_
    obtain ⟨g8, E⟩ := gd_of E
    refine Rn.getI (pc' := 24) fl_X3_173_2 g8 rfl dX3_lackOf_21 rfl ?_
    obtain ⟨g9, E⟩ := gd_of E
    obtain ⟨g10, E⟩ := gd_of E
    refine Rn.aald (pc' := 25) g9 (by decide) (by decide) g10 dX3_lackOf_24 rfl ?_
    refine Rn.astore_n (pc' := 26) (L' := [(3, .ref (hR h4 (hR h4 x0 3) (ix (hI h4 x1 1)))), (2, .int (hI h x1 0)), (0, .ref x0), (1, .ref x1)]) dX3_lackOf_25 rfl (by decide) rfl rfl ?_
    refine Rn.aload_n (pc' := 27) dX3_lackOf_26 rfl 2 rfl rfl ?_
    refine Rn.getR (pc' := 30) fl_X3_68_3 g7 rfl dX3_lackOf_27 rfl ?_
    refine Rn.ifnull (pc' := 33) (tgt := 47) dX3_lackOf_30 (by decide) rfl (fun c11 => ?_) (fun c11 => ?_)
    · replace E := (if_of E).1 c11
      refine Rn.sub [2, 3, 1, 0] rfl ?_
      exact f_Land_lackOf_b47_ok hst hd   E
    · replace E := (if_of E).2 c11
      refine Rn.aload_n (pc' := 34) dX3_lackOf_33 rfl 2 rfl rfl ?_
      refine Rn.getR (pc' := 37) fl_X3_68_3 g7 rfl dX3_lackOf_34 rfl ?_
      obtain ⟨g12, E⟩ := gd_of E
      refine Rn.getI (pc' := 40) fl_X3_176_5 g12 rfl dX3_lackOf_37 rfl ?_
      refine Rn.if_eq (pc' := 43) (tgt := 47) dX3_lackOf_40 (by decide) rfl (fun c13 => ?_) (fun c13 => ?_)
      · replace E := (if_of E).1 c13
        refine Rn.sub [2, 3, 1, 0] rfl ?_
        exact f_Land_lackOf_b47_ok hst hd   E
      · replace E := (if_of E).2 c13
        refine Rn.iconst (pc' := 44) (v := (1 : Int32)) (hv := by decide) dX3_lackOf_43 rfl ?_
        refine Rn.goto (pc' := 48) dX3_lackOf_44 (by decide) ?_
        refine Rn.sub [2, 3, 1, 0] rfl ?_
        exact f_Land_lackOf_b48_ok hst hd   E
def f_Land_lackOf (h : Hp) (x0 : Nat) (x1 : Nat) : Option (Int32 × Hp) := f_Land_lackOf_b0  h x0 x1
theorem f_Land_lackOf_ok {l : Launch} {X : Nat × (Nat → Int32)} (hst : l.stackTraces = false) {h : Hp} {x0 : Nat} {x1 : Nat} {r : Int32 × Hp} (E : f_Land_lackOf h x0 x1 = some r) : MC l X yX3_lackOf mX3_lackOf 4 [.ref x0, .ref x1] h (eI r) r.2 :=
  MC.body (by decide +kernel) rfl (by decide) hst (Nat.le_of_ble_eq_true rfl) (f_Land_lackOf_b0_ok hst (Nat.le_refl _) E)
abbrev mX3_draw : MI := (RX3, cX3_draw, 1, (some Jvm.ClassFile.FieldType.int), [], false)
theorem ws_X3_draw : ∀ w ∈ wsM yX3_draw mX3_draw, w ∈ gw := List.forall_mem_cons.mpr ⟨gw_at 629 (by decide +kernel) (by decide +kernel), fun _ h => h⟩
theorem kc_X3_133 : Jvm.Cond.constant RX3 133 (1103515245 : Int32) ∈ gw := gw_at 630 (by decide +kernel) (by decide +kernel)
def f_Land_draw_b0   (h : Hp) (x0 : Nat)  : Option (Int32 × Hp) :=
if hS h x0 = 4 then (
wr (sI h x0 11 (((1103515245 : Int32) * (hI h x0 11)) + (12345 : Int32))) fun h2 =>
some (((jshr (hI h2 x0 11) (16 : Int32)) &&& (32767 : Int32)), h2)
) else none
set_option maxRecDepth 20000 in
set_option maxHeartbeats 4000000 in
theorem f_Land_draw_b0_ok {l : Launch} {X : Nat × (Nat → Int32)} (hst : l.stackTraces = false) {d : Nat} (hd : 0 ≤ d)     {h : Hp} {x0 : Nat}  {r : Int32 × Hp} (E : f_Land_draw_b0   h x0 = some r) : Rn l X mX3_draw d 0 [(0, .ref x0)] [] h (eI r) r.2 := by
  unfold f_Land_draw_b0 at E
  refine Rn.aload_n (pc' := 1) dX3_draw_0 rfl 0 rfl rfl ?_
  refine Rn.ldcI (pc' := 3) kc_X3_133 dX3_draw_1 rfl ?_
  refine Rn.aload_n (pc' := 4) dX3_draw_3 rfl 0 rfl rfl ?_
  obtain ⟨g1, E⟩ := gd_of E
  refine Rn.getI (pc' := 7) fl_X3_36_3 g1 rfl dX3_draw_4 rfl ?_
  refine Rn.imul (pc' := 8) dX3_draw_7 rfl ?_
  refine Rn.sipush (pc' := 11) (v := (12345 : Int32)) (hv := by decide) dX3_draw_8 rfl ?_
  refine Rn.iadd (pc' := 12) dX3_draw_11 rfl ?_
  refine Rn.putI (pc' := 15) fl_X3_36_3 (fun q hq => by cases hq; decide) g1 rfl rfl rfl dX3_draw_12 rfl ?_
  replace E := wr_of E
  generalize eh3 : sI h x0 11 (((1103515245 : Int32) * (hI h x0 11)) + (12345 : Int32)) = h2 at E ⊢
  refine Rn.aload_n (pc' := 16) dX3_draw_15 rfl 0 rfl rfl ?_
  refine Rn.getI (pc' := 19) fl_X3_36_3 (kp_sI eh3 g1) rfl dX3_draw_16 rfl ?_
  refine Rn.bipush (pc' := 21) (v := (16 : Int32)) (hv := by decide) dX3_draw_19 rfl ?_
  refine Rn.ishr (pc' := 22) dX3_draw_21 rfl ?_
  refine Rn.sipush (pc' := 25) (v := (32767 : Int32)) (hv := by decide) dX3_draw_22 rfl ?_
  refine Rn.iand (pc' := 26) dX3_draw_25 rfl ?_
  cases E
  exact Rn.zret rfl rfl dX3_draw_26
def f_Land_draw (h : Hp) (x0 : Nat) : Option (Int32 × Hp) := f_Land_draw_b0  h x0
theorem f_Land_draw_ok {l : Launch} {X : Nat × (Nat → Int32)} (hst : l.stackTraces = false) {h : Hp} {x0 : Nat} {r : Int32 × Hp} (E : f_Land_draw h x0 = some r) : MC l X yX3_draw mX3_draw 0 [.ref x0] h (eI r) r.2 :=
  MC.body (by decide +kernel) rfl (by decide) hst (Nat.le_of_ble_eq_true rfl) (f_Land_draw_b0_ok hst (Nat.le_refl _) E)
abbrev mX3_freeze : MI := (RX3, cX3_freeze, 2, none, [], false)
theorem ws_X3_freeze : ∀ w ∈ wsM yX3_freeze mX3_freeze, w ∈ gw := List.forall_mem_cons.mpr ⟨gw_at 625 (by decide +kernel) (by decide +kernel), fun _ h => h⟩
def f_Land_freeze_b15  (k15 : Hp → Nat → Int32 → Option (Hp)) (h : Hp) (x0 : Nat) (x1 : Int32)  : Option (Hp) :=
if hS h x0 = 4 then (
if (hI h x0 0) ≤ x1 then (
some h

) else (
if hS h (hR h x0 3) = 23 then (
if ib x1 (hL h (hR h x0 3)) = true then (
if hS h (hR h (hR h x0 3) (ix x1)) = 1 then (
if (hI h (hR h (hR h x0 3) (ix x1)) 2) = 0 then (
k15 h x0 (x1 + (1 : Int32))

) else (
if ib x1 (hL h (hR h x0 3)) = true then (
wr (sI h (hR h (hR h x0 3) (ix x1)) 2 (0 : Int32)) fun h8 =>
some h8
) else none
)
) else none) else none) else none
)
) else none
set_option maxRecDepth 20000 in
set_option maxHeartbeats 4000000 in
theorem f_Land_freeze_b15_ok {l : Launch} {X : Nat × (Nat → Int32)} (hst : l.stackTraces = false) {d : Nat} (hd : 1 ≤ d)   {k15 : Hp → Nat → Int32 → Option (Hp)} (hk15 : ∀ (h : Hp) (x0 : Nat) (x1 : Int32)  (r : Hp), k15 h x0 x1 = some r → Rn l X mX3_freeze d 15 [(0, .ref x0), (1, .int x1)] [] h (eV r) r) {h : Hp} {x0 : Nat} {x1 : Int32}  {r : Hp} (E : f_Land_freeze_b15  k15 h x0 x1 = some r) : Rn l X mX3_freeze d 15 [(0, .ref x0), (1, .int x1)] [] h (eV r) r := by
  unfold f_Land_freeze_b15 at E
  refine Rn.iload_n (pc' := 16) dX3_freeze_15 rfl 1 rfl rfl ?_
  refine Rn.aload_n (pc' := 17) dX3_freeze_16 rfl 0 rfl rfl ?_
  obtain ⟨g1, E⟩ := gd_of E
  refine Rn.getI (pc' := 20) fl_X3_43_3 g1 rfl dX3_freeze_17 rfl ?_
  refine Rn.icmp_ge (pc' := 23) (tgt := 52) dX3_freeze_20 (by decide) rfl (fun c2 => ?_) (fun c2 => ?_)
  · replace E := (if_of E).1 c2
    cases E
    exact Rn.vret rfl dX3_freeze_52
  · replace E := (if_of E).2 c2
    refine Rn.aload_n (pc' := 24) dX3_freeze_23 rfl 0 rfl rfl ?_
    refine Rn.getR (pc' := 27) fl_X3_11_3 g1 rfl dX3_freeze_24 rfl ?_
    refine Rn.iload_n (pc' := 28) dX3_freeze_27 rfl 1 rfl rfl ?_
    obtain ⟨g3, E⟩ := gd_of E
    obtain ⟨g4, E⟩ := gd_of E
    refine Rn.aald (pc' := 29) g3 (by decide) (by decide) g4 dX3_freeze_28 rfl ?_
    obtain ⟨g5, E⟩ := gd_of E
    refine Rn.getI (pc' := 32) fl_X3_129_0 g5 rfl dX3_freeze_29 rfl ?_
    refine Rn.if_eq (pc' := 35) (tgt := 46) dX3_freeze_32 (by decide) rfl (fun c6 => ?_) (fun c6 => ?_)
    · replace E := (if_of E).1 c6
      refine Rn.iinc (pc' := 49) (v := (x1 + (1 : Int32))) (L' := [(1, .int (x1 + (1 : Int32))), (0, .ref x0)]) dX3_freeze_46 1 rfl rfl (by decide) rfl rfl ?_
      refine Rn.goto (pc' := 15) dX3_freeze_49 (by decide) ?_
      refine Rn.sub [1, 0] rfl ?_
      exact hk15 _ _ _ _ E
    · replace E := (if_of E).2 c6
      refine Rn.aload_n (pc' := 36) dX3_freeze_35 rfl 0 rfl rfl ?_
      refine Rn.getR (pc' := 39) fl_X3_11_3 g1 rfl dX3_freeze_36 rfl ?_
      refine Rn.iload_n (pc' := 40) dX3_freeze_39 rfl 1 rfl rfl ?_
      obtain ⟨g7, E⟩ := gd_of E
      refine Rn.aald (pc' := 41) g3 (by decide) (by decide) g7 dX3_freeze_40 rfl ?_
      refine Rn.iconst (pc' := 42) (v := (0 : Int32)) (hv := by decide) dX3_freeze_41 rfl ?_
      refine Rn.putI (pc' := 45) fl_X3_129_0 (fun q hq => by cases hq; decide) g5 rfl rfl rfl dX3_freeze_42 rfl ?_
      replace E := wr_of E
      generalize eh9 : sI h (hR h (hR h x0 3) (ix x1)) 2 (0 : Int32) = h8 at E ⊢
      cases E
      exact Rn.vret rfl dX3_freeze_45
def f_Land_freeze_L15   (n : Nat) : Hp → Nat → Int32 → Option (Hp) := Nat.rec (motive := fun _ => Hp → Nat → Int32 → Option (Hp)) (fun _ _ _ => none) (fun _ rec => f_Land_freeze_b15   rec) n
theorem f_Land_freeze_L15_ok {l : Launch} {X : Nat × (Nat → Int32)} (hst : l.stackTraces = false) {d : Nat} (hd : 1 ≤ d)     : ∀ (n : Nat) (h : Hp) (x0 : Nat) (x1 : Int32)  (r : Hp), f_Land_freeze_L15   n h x0 x1 = some r → Rn l X mX3_freeze d 15 [(0, .ref x0), (1, .int x1)] [] h (eV r) r := by
  intro n
  induction n with
  | zero => intro h x0 x1 r E; cases E
  | succ n ih => intro h x0 x1 r E; exact f_Land_freeze_b15_ok hst hd   ih E
theorem kb_X3_150 : KB RX3 150 yX3_draw mX3_draw 0 := ⟨gw_at 626 (by decide +kernel) (by decide +kernel), gw_at 113 (by decide +kernel) (by decide +kernel), trivial, ws_X3_draw, by decide +kernel, by decide +kernel, by decide +kernel, by decide⟩
theorem ki_X3_draw : Cond.instanceMethod yX3_draw ∈ gw ∧ Cond.selects yX3_draw.cls yX3_draw yX3_draw ∈ gw := ⟨gw_at 627 (by decide +kernel) (by decide +kernel), gw_at 628 (by decide +kernel) (by decide +kernel)⟩
def f_Land_freeze_b0   (h : Hp) (x0 : Nat)  : Option (Hp) :=
if hS h x0 = 4 then (
bI (f_Land_draw h x0) fun v2 h3 =>
if (jrem v2 (100 : Int32)) < (20 : Int32) then (
f_Land_freeze_L15   FU h3 x0 (0 : Int32)

) else (
some h3

)
) else none
set_option maxRecDepth 20000 in
set_option maxHeartbeats 4000000 in
theorem f_Land_freeze_b0_ok {l : Launch} {X : Nat × (Nat → Int32)} (hst : l.stackTraces = false) {d : Nat} (hd : 1 ≤ d)     {h : Hp} {x0 : Nat}  {r : Hp} (E : f_Land_freeze_b0   h x0 = some r) : Rn l X mX3_freeze d 0 [(0, .ref x0)] [] h (eV r) r := by
  unfold f_Land_freeze_b0 at E
  refine Rn.aload_n (pc' := 1) dX3_freeze_0 rfl 0 rfl rfl ?_
  obtain ⟨g1, E⟩ := gd_of E
  obtain ⟨v2, h3, e4, E⟩ := bI_of E
  refine Rn.callV1 (pc' := 4) (As := []) (rest := []) (f_Land_draw_ok hst e4) (Nat.le_trans (by decide) hd) rfl kb_X3_150 ki_X3_draw rfl g1 rfl rfl (Nat.le_of_ble_eq_true rfl) dX3_freeze_1 rfl rfl ?_
  refine Rn.bipush (pc' := 6) (v := (100 : Int32)) (hv := by decide) dX3_freeze_4 rfl ?_
  refine Rn.irem (pc' := 7) (hne := (by decide)) dX3_freeze_6 rfl ?_
  refine Rn.bipush (pc' := 9) (v := (20 : Int32)) (hv := by decide) dX3_freeze_7 rfl ?_
  refine Rn.icmp_lt (pc' := 12) (tgt := 13) dX3_freeze_9 (by decide) rfl (fun c5 => ?_) (fun c5 => ?_)
  · replace E := (if_of E).1 c5
    refine Rn.iconst (pc' := 14) (v := (0 : Int32)) (hv := by decide) dX3_freeze_13 rfl ?_
    refine Rn.istore_n (pc' := 15) (L' := [(1, .int (0 : Int32)), (0, .ref x0)]) dX3_freeze_14 rfl (by decide) rfl rfl ?_
    refine Rn.sub [1, 0] rfl ?_
    exact f_Land_freeze_L15_ok hst hd   FU _ _ _ _ E
  · replace E := (if_of E).2 c5
    cases E
    exact Rn.vret rfl dX3_freeze_12
def f_Land_freeze (h : Hp) (x0 : Nat) : Option (Hp) := f_Land_freeze_b0  h x0
theorem f_Land_freeze_ok {l : Launch} {X : Nat × (Nat → Int32)} (hst : l.stackTraces = false) {h : Hp} {x0 : Nat} {r : Hp} (E : f_Land_freeze h x0 = some r) : MC l X yX3_freeze mX3_freeze 1 [.ref x0] h (eV r) r :=
  MC.body (by decide +kernel) rfl (by decide) hst (Nat.le_of_ble_eq_true rfl) (f_Land_freeze_b0_ok hst (Nat.le_refl _) E)
abbrev mX3_passMonth : MI := (RX3, cX3_passMonth, 3, (some Jvm.ClassFile.FieldType.int), [], false)
theorem ws_X3_passMonth : ∀ w ∈ wsM yX3_passMonth mX3_passMonth, w ∈ gw := List.forall_mem_cons.mpr ⟨gw_at 542 (by decide +kernel) (by decide +kernel), fun _ h => h⟩
theorem kb_X3_141 : KB RX3 141 yX3_freeze mX3_freeze 0 := ⟨gw_at 622 (by decide +kernel) (by decide +kernel), gw_at 113 (by decide +kernel) (by decide +kernel), trivial, ws_X3_freeze, by decide +kernel, by decide +kernel, by decide +kernel, by decide⟩
theorem ki_X3_freeze : Cond.instanceMethod yX3_freeze ∈ gw ∧ Cond.selects yX3_freeze.cls yX3_freeze yX3_freeze ∈ gw := ⟨gw_at 624 (by decide +kernel) (by decide +kernel), gw_at 7 (by decide +kernel) (by decide +kernel)⟩
theorem kb_X3_137 : KB RX3 137 yX3_lackOf mX3_lackOf 1 := ⟨gw_at 583 (by decide +kernel) (by decide +kernel), gw_at 113 (by decide +kernel) (by decide +kernel), trivial, ws_X3_lackOf, by decide +kernel, by decide +kernel, by decide +kernel, by decide⟩
theorem ki_X3_lackOf : Cond.instanceMethod yX3_lackOf ∈ gw ∧ Cond.selects yX3_lackOf.cls yX3_lackOf yX3_lackOf ∈ gw := ⟨gw_at 585 (by decide +kernel) (by decide +kernel), gw_at 3 (by decide +kernel) (by decide +kernel)⟩
def f_Land_passMonth_b8  (k8 : Hp → Nat → Int32 → Int32 → Option (Int32 × Hp)) (h : Hp) (x0 : Nat) (x1 : Int32) (x2 : Int32)  : Option (Int32 × Hp) :=
if hS h x0 = 4 then (
if (hI h x0 1) ≤ x2 then (
wr (sI h x0 10 ((hI h x0 10) + (1 : Int32))) fun h3 =>
if (jrem (hI h3 x0 10) (12 : Int32)) = 0 then (
bV (f_Land_freeze h3 x0) fun h7 =>
some (x1, h7)

) else (
some (x1, h3)

)

) else (
if hS h (hR h x0 4) = 24 then (
if ib x2 (hL h (hR h x0 4)) = true then (
bI (f_Land_lackOf h x0 (hR h (hR h x0 4) (ix x2))) fun v11 h12 =>
k8 h12 x0 (x1 + v11) (x2 + (1 : Int32))
) else none) else none
)
) else none
set_option maxRecDepth 20000 in
set_option maxHeartbeats 4000000 in
theorem f_Land_passMonth_b8_ok {l : Launch} {X : Nat × (Nat → Int32)} (hst : l.stackTraces = false) {d : Nat} (hd : 5 ≤ d)   {k8 : Hp → Nat → Int32 → Int32 → Option (Int32 × Hp)} (hk8 : ∀ (h : Hp) (x0 : Nat) (x1 : Int32) (x2 : Int32)  (r : Int32 × Hp), k8 h x0 x1 x2 = some r → Rn l X mX3_passMonth d 8 [(0, .ref x0), (1, .int x1), (2, .int x2)] [] h (eI r) r.2) {h : Hp} {x0 : Nat} {x1 : Int32} {x2 : Int32}  {r : Int32 × Hp} (E : f_Land_passMonth_b8  k8 h x0 x1 x2 = some r) : Rn l X mX3_passMonth d 8 [(0, .ref x0), (1, .int x1), (2, .int x2)] [] h (eI r) r.2 := by
  unfold f_Land_passMonth_b8 at E
  refine Rn.iload_n (pc' := 9) dX3_passMonth_8 rfl 2 rfl rfl ?_
  refine Rn.aload_n (pc' := 10) dX3_passMonth_9 rfl 0 rfl rfl ?_
  obtain ⟨g1, E⟩ := gd_of E
  refine Rn.getI (pc' := 13) fl_X3_46_3 g1 rfl dX3_passMonth_10 rfl ?_
  refine Rn.icmp_ge (pc' := 16) (tgt := 35) dX3_passMonth_13 (by decide) rfl (fun c2 => ?_) (fun c2 => ?_)
  · replace E := (if_of E).1 c2
    refine Rn.aload_n (pc' := 36) dX3_passMonth_35 rfl 0 rfl rfl ?_
    refine Rn.dup (pc' := 37) (hc := rfl) dX3_passMonth_36 rfl ?_
    refine Rn.getI (pc' := 40) fl_X3_75_3 g1 rfl dX3_passMonth_37 rfl ?_
    refine Rn.iconst (pc' := 41) (v := (1 : Int32)) (hv := by decide) dX3_passMonth_40 rfl ?_
    refine Rn.iadd (pc' := 42) dX3_passMonth_41 rfl ?_
    refine Rn.putI (pc' := 45) fl_X3_75_3 (fun q hq => by cases hq; decide) g1 rfl rfl rfl dX3_passMonth_42 rfl ?_
    replace E := wr_of E
    generalize eh4 : sI h x0 10 ((hI h x0 10) + (1 : Int32)) = h3 at E ⊢
    refine Rn.aload_n (pc' := 46) dX3_passMonth_45 rfl 0 rfl rfl ?_
    refine Rn.getI (pc' := 49) fl_X3_75_3 (kp_sI eh4 g1) rfl dX3_passMonth_46 rfl ?_
    refine Rn.bipush (pc' := 51) (v := (12 : Int32)) (hv := by decide) dX3_passMonth_49 rfl ?_
    refine Rn.irem (pc' := 52) (hne := (by decide)) dX3_passMonth_51 rfl ?_
    refine Rn.if_ne (pc' := 55) (tgt := 59) dX3_passMonth_52 (by decide) rfl (fun c5 => ?_) (fun c5 => ?_)
    · replace E := (if_of E).2 c5
      refine Rn.iload_n (pc' := 60) dX3_passMonth_59 rfl 1 rfl rfl ?_
      cases E
      exact Rn.zret rfl rfl dX3_passMonth_60
    · replace E := (if_of E).1 c5
      refine Rn.aload_n (pc' := 56) dX3_passMonth_55 rfl 0 rfl rfl ?_
      obtain ⟨h7, e8, E⟩ := bV_of E
      refine Rn.callV1 (pc' := 59) (As := []) (rest := []) (f_Land_freeze_ok hst e8) (Nat.le_trans (by decide) hd) rfl kb_X3_141 ki_X3_freeze rfl (kp_sI eh4 g1) rfl rfl (Nat.le_of_ble_eq_true rfl) dX3_passMonth_56 rfl rfl ?_
      refine Rn.iload_n (pc' := 60) dX3_passMonth_59 rfl 1 rfl rfl ?_
      cases E
      exact Rn.zret rfl rfl dX3_passMonth_60
  · replace E := (if_of E).2 c2
    refine Rn.iload_n (pc' := 17) dX3_passMonth_16 rfl 1 rfl rfl ?_
    refine Rn.aload_n (pc' := 18) dX3_passMonth_17 rfl 0 rfl rfl ?_
    refine Rn.aload_n (pc' := 19) dX3_passMonth_18 rfl 0 rfl rfl ?_
    refine Rn.getR (pc' := 22) fl_X3_19_3 g1 rfl dX3_passMonth_19 rfl ?_
    refine Rn.iload_n (pc' := 23) dX3_passMonth_22 rfl 2 rfl rfl ?_
    obtain ⟨g9, E⟩ := gd_of E
    obtain ⟨g10, E⟩ := gd_of E
    refine Rn.aald (pc' := 24) g9 (by decide) (by decide) g10 dX3_passMonth_23 rfl ?_
    obtain ⟨v11, h12, e13, E⟩ := bI_of E
    refine Rn.callV1 (pc' := 27) (As := [.ref (hR h (hR h x0 4) (ix x2))]) (rest := [.int x1]) (f_Land_lackOf_ok hst e13) (Nat.le_trans (by decide) hd) rfl kb_X3_137 ki_X3_lackOf rfl g1 rfl rfl (Nat.le_of_ble_eq_true rfl) dX3_passMonth_24 rfl rfl ?_
    refine Rn.iadd (pc' := 28) dX3_passMonth_27 rfl ?_
    refine Rn.istore_n (pc' := 29) (L' := [(1, .int (x1 + v11)), (0, .ref x0), (2, .int x2)]) dX3_passMonth_28 rfl (by decide) rfl rfl ?_
    refine Rn.iinc (pc' := 32) (v := (x2 + (1 : Int32))) (L' := [(2, .int (x2 + (1 : Int32))), (1, .int (x1 + v11)), (0, .ref x0)]) dX3_passMonth_29 2 rfl rfl (by decide) rfl rfl ?_
    refine Rn.goto (pc' := 8) dX3_passMonth_32 (by decide) ?_
    refine Rn.sub [2, 1, 0] rfl ?_
    exact hk8 _ _ _ _ _ E
def f_Land_passMonth_L8   (n : Nat) : Hp → Nat → Int32 → Int32 → Option (Int32 × Hp) := Nat.rec (motive := fun _ => Hp → Nat → Int32 → Int32 → Option (Int32 × Hp)) (fun _ _ _ _ => none) (fun _ rec => f_Land_passMonth_b8   rec) n
theorem f_Land_passMonth_L8_ok {l : Launch} {X : Nat × (Nat → Int32)} (hst : l.stackTraces = false) {d : Nat} (hd : 5 ≤ d)     : ∀ (n : Nat) (h : Hp) (x0 : Nat) (x1 : Int32) (x2 : Int32)  (r : Int32 × Hp), f_Land_passMonth_L8   n h x0 x1 x2 = some r → Rn l X mX3_passMonth d 8 [(0, .ref x0), (1, .int x1), (2, .int x2)] [] h (eI r) r.2 := by
  intro n
  induction n with
  | zero => intro h x0 x1 x2 r E; cases E
  | succ n ih => intro h x0 x1 x2 r E; exact f_Land_passMonth_b8_ok hst hd   ih E
theorem kb_X3_134 : KB RX3 134 yX3_leakAll mX3_leakAll 0 := ⟨gw_at 543 (by decide +kernel) (by decide +kernel), gw_at 113 (by decide +kernel) (by decide +kernel), trivial, ws_X3_leakAll, by decide +kernel, by decide +kernel, by decide +kernel, by decide⟩
theorem ki_X3_leakAll : Cond.instanceMethod yX3_leakAll ∈ gw ∧ Cond.selects yX3_leakAll.cls yX3_leakAll yX3_leakAll ∈ gw := ⟨gw_at 544 (by decide +kernel) (by decide +kernel), gw_at 545 (by decide +kernel) (by decide +kernel)⟩
def f_Land_passMonth_b0   (h : Hp) (x0 : Nat)  : Option (Int32 × Hp) :=
if hS h x0 = 4 then (
bV (f_Land_leakAll h x0) fun h3 =>
f_Land_passMonth_L8   FU h3 x0 (0 : Int32) (0 : Int32)
) else none
set_option maxRecDepth 20000 in
set_option maxHeartbeats 4000000 in
theorem f_Land_passMonth_b0_ok {l : Launch} {X : Nat × (Nat → Int32)} (hst : l.stackTraces = false) {d : Nat} (hd : 5 ≤ d)     {h : Hp} {x0 : Nat}  {r : Int32 × Hp} (E : f_Land_passMonth_b0   h x0 = some r) : Rn l X mX3_passMonth d 0 [(0, .ref x0)] [] h (eI r) r.2 := by
  unfold f_Land_passMonth_b0 at E
  refine Rn.aload_n (pc' := 1) dX3_passMonth_0 rfl 0 rfl rfl ?_
  obtain ⟨g1, E⟩ := gd_of E
  obtain ⟨h3, e4, E⟩ := bV_of E
  refine Rn.callV1 (pc' := 4) (As := []) (rest := []) (f_Land_leakAll_ok hst e4) (Nat.le_trans (by decide) hd) rfl kb_X3_134 ki_X3_leakAll rfl g1 rfl rfl (Nat.le_of_ble_eq_true rfl) dX3_passMonth_1 rfl rfl ?_
  refine Rn.iconst (pc' := 5) (v := (0 : Int32)) (hv := by decide) dX3_passMonth_4 rfl ?_
  refine Rn.istore_n (pc' := 6) (L' := [(1, .int (0 : Int32)), (0, .ref x0)]) dX3_passMonth_5 rfl (by decide) rfl rfl ?_
  refine Rn.iconst (pc' := 7) (v := (0 : Int32)) (hv := by decide) dX3_passMonth_6 rfl ?_
  refine Rn.istore_n (pc' := 8) (L' := [(2, .int (0 : Int32)), (1, .int (0 : Int32)), (0, .ref x0)]) dX3_passMonth_7 rfl (by decide) rfl rfl ?_
  refine Rn.sub [2, 1, 0] rfl ?_
  exact f_Land_passMonth_L8_ok hst hd   FU _ _ _ _ _ E
def f_Land_passMonth (h : Hp) (x0 : Nat) : Option (Int32 × Hp) := f_Land_passMonth_b0  h x0
theorem f_Land_passMonth_ok {l : Launch} {X : Nat × (Nat → Int32)} (hst : l.stackTraces = false) {h : Hp} {x0 : Nat} {r : Int32 × Hp} (E : f_Land_passMonth h x0 = some r) : MC l X yX3_passMonth mX3_passMonth 5 [.ref x0] h (eI r) r.2 :=
  MC.body (by decide +kernel) rfl (by decide) hst (Nat.le_of_ble_eq_true rfl) (f_Land_passMonth_b0_ok hst (Nat.le_refl _) E)
abbrev mX3_passQuietMonths : MI := (RX3, cX3_passQuietMonths, 3, (some Jvm.ClassFile.FieldType.int), [], false)
theorem ws_X3_passQuietMonths : ∀ w ∈ wsM yX3_passQuietMonths mX3_passQuietMonths, w ∈ gw := List.forall_mem_cons.mpr ⟨gw_at 538 (by decide +kernel) (by decide +kernel), fun _ h => h⟩
theorem kb_X3_144 : KB RX3 144 yX3_passMonth mX3_passMonth 0 := ⟨gw_at 539 (by decide +kernel) (by decide +kernel), gw_at 113 (by decide +kernel) (by decide +kernel), trivial, ws_X3_passMonth, by decide +kernel, by decide +kernel, by decide +kernel, by decide⟩
theorem ki_X3_passMonth : Cond.instanceMethod yX3_passMonth ∈ gw ∧ Cond.selects yX3_passMonth.cls yX3_passMonth yX3_passMonth ∈ gw := ⟨gw_at 540 (by decide +kernel) (by decide +kernel), gw_at 541 (by decide +kernel) (by decide +kernel)⟩
def f_Land_passQuietMonths_b2  (k2 : Hp → Nat → Int32 → Int32 → Option (Int32 × Hp)) (h : Hp) (x0 : Nat) (x1 : Int32) (x2 : Int32)  : Option (Int32 × Hp) :=
if x1 ≤ x2 then (
some (x1, h)

) else (
if hS h x0 = 4 then (
bI (f_Land_passMonth h x0) fun v3 h4 =>
if v3 ≤ 0 then (
k2 h4 x0 x1 (x2 + (1 : Int32))

) else (
some (x2, h4)

)
) else none
)

set_option maxRecDepth 20000 in
set_option maxHeartbeats 4000000 in
theorem f_Land_passQuietMonths_b2_ok {l : Launch} {X : Nat × (Nat → Int32)} (hst : l.stackTraces = false) {d : Nat} (hd : 6 ≤ d)   {k2 : Hp → Nat → Int32 → Int32 → Option (Int32 × Hp)} (hk2 : ∀ (h : Hp) (x0 : Nat) (x1 : Int32) (x2 : Int32)  (r : Int32 × Hp), k2 h x0 x1 x2 = some r → Rn l X mX3_passQuietMonths d 2 [(0, .ref x0), (1, .int x1), (2, .int x2)] [] h (eI r) r.2) {h : Hp} {x0 : Nat} {x1 : Int32} {x2 : Int32}  {r : Int32 × Hp} (E : f_Land_passQuietMonths_b2  k2 h x0 x1 x2 = some r) : Rn l X mX3_passQuietMonths d 2 [(0, .ref x0), (1, .int x1), (2, .int x2)] [] h (eI r) r.2 := by
  unfold f_Land_passQuietMonths_b2 at E
  refine Rn.iload_n (pc' := 3) dX3_passQuietMonths_2 rfl 2 rfl rfl ?_
  refine Rn.iload_n (pc' := 4) dX3_passQuietMonths_3 rfl 1 rfl rfl ?_
  refine Rn.icmp_ge (pc' := 7) (tgt := 22) dX3_passQuietMonths_4 (by decide) rfl (fun c1 => ?_) (fun c1 => ?_)
  · replace E := (if_of E).1 c1
    refine Rn.iload_n (pc' := 23) dX3_passQuietMonths_22 rfl 1 rfl rfl ?_
    cases E
    exact Rn.zret rfl rfl dX3_passQuietMonths_23
  · replace E := (if_of E).2 c1
    refine Rn.aload_n (pc' := 8) dX3_passQuietMonths_7 rfl 0 rfl rfl ?_
    obtain ⟨g2, E⟩ := gd_of E
    obtain ⟨v3, h4, e5, E⟩ := bI_of E
    refine Rn.callV1 (pc' := 11) (As := []) (rest := []) (f_Land_passMonth_ok hst e5) (Nat.le_trans (by decide) hd) rfl kb_X3_144 ki_X3_passMonth rfl g2 rfl rfl (Nat.le_of_ble_eq_true rfl) dX3_passQuietMonths_8 rfl rfl ?_
    refine Rn.if_le (pc' := 14) (tgt := 16) dX3_passQuietMonths_11 (by decide) rfl (fun c6 => ?_) (fun c6 => ?_)
    · replace E := (if_of E).1 c6
      refine Rn.iinc (pc' := 19) (v := (x2 + (1 : Int32))) (L' := [(2, .int (x2 + (1 : Int32))), (0, .ref x0), (1, .int x1)]) dX3_passQuietMonths_16 2 rfl rfl (by decide) rfl rfl ?_
      refine Rn.goto (pc' := 2) dX3_passQuietMonths_19 (by decide) ?_
      refine Rn.sub [1, 2, 0] rfl ?_
      exact hk2 _ _ _ _ _ E
    · replace E := (if_of E).2 c6
      refine Rn.iload_n (pc' := 15) dX3_passQuietMonths_14 rfl 2 rfl rfl ?_
      cases E
      exact Rn.zret rfl rfl dX3_passQuietMonths_15
def f_Land_passQuietMonths_L2   (n : Nat) : Hp → Nat → Int32 → Int32 → Option (Int32 × Hp) := Nat.rec (motive := fun _ => Hp → Nat → Int32 → Int32 → Option (Int32 × Hp)) (fun _ _ _ _ => none) (fun _ rec => f_Land_passQuietMonths_b2   rec) n
theorem f_Land_passQuietMonths_L2_ok {l : Launch} {X : Nat × (Nat → Int32)} (hst : l.stackTraces = false) {d : Nat} (hd : 6 ≤ d)     : ∀ (n : Nat) (h : Hp) (x0 : Nat) (x1 : Int32) (x2 : Int32)  (r : Int32 × Hp), f_Land_passQuietMonths_L2   n h x0 x1 x2 = some r → Rn l X mX3_passQuietMonths d 2 [(0, .ref x0), (1, .int x1), (2, .int x2)] [] h (eI r) r.2 := by
  intro n
  induction n with
  | zero => intro h x0 x1 x2 r E; cases E
  | succ n ih => intro h x0 x1 x2 r E; exact f_Land_passQuietMonths_b2_ok hst hd   ih E
def f_Land_passQuietMonths_b0   (h : Hp) (x0 : Nat) (x1 : Int32)  : Option (Int32 × Hp) :=
f_Land_passQuietMonths_L2   FU h x0 x1 (0 : Int32)

set_option maxRecDepth 20000 in
set_option maxHeartbeats 4000000 in
theorem f_Land_passQuietMonths_b0_ok {l : Launch} {X : Nat × (Nat → Int32)} (hst : l.stackTraces = false) {d : Nat} (hd : 6 ≤ d)     {h : Hp} {x0 : Nat} {x1 : Int32}  {r : Int32 × Hp} (E : f_Land_passQuietMonths_b0   h x0 x1 = some r) : Rn l X mX3_passQuietMonths d 0 [(0, .ref x0), (1, .int x1)] [] h (eI r) r.2 := by
  unfold f_Land_passQuietMonths_b0 at E
  refine Rn.iconst (pc' := 1) (v := (0 : Int32)) (hv := by decide) dX3_passQuietMonths_0 rfl ?_
  refine Rn.istore_n (pc' := 2) (L' := [(2, .int (0 : Int32)), (0, .ref x0), (1, .int x1)]) dX3_passQuietMonths_1 rfl (by decide) rfl rfl ?_
  refine Rn.sub [1, 2, 0] rfl ?_
  exact f_Land_passQuietMonths_L2_ok hst hd   FU _ _ _ _ _ E
def f_Land_passQuietMonths (h : Hp) (x0 : Nat) (x1 : Int32) : Option (Int32 × Hp) := f_Land_passQuietMonths_b0  h x0 x1
theorem f_Land_passQuietMonths_ok {l : Launch} {X : Nat × (Nat → Int32)} (hst : l.stackTraces = false) {h : Hp} {x0 : Nat} {x1 : Int32} {r : Int32 × Hp} (E : f_Land_passQuietMonths h x0 x1 = some r) : MC l X yX3_passQuietMonths mX3_passQuietMonths 6 [.ref x0, .int x1] h (eI r) r.2 :=
  MC.body (by decide +kernel) rfl (by decide) hst (Nat.le_of_ble_eq_true rfl) (f_Land_passQuietMonths_b0_ok hst (Nat.le_refl _) E)
abbrev mX10_enough : MI := (RX10, cX10_enough, 5, (some Jvm.ClassFile.FieldType.int), [], false)
theorem ws_X10_enough : ∀ w ∈ wsM yX10_enough mX10_enough, w ∈ gw := List.forall_mem_cons.mpr ⟨gw_at 1407 (by decide +kernel) (by decide +kernel), fun _ h => h⟩
set_option maxRecDepth 20000 in
theorem kt_X10_88_92 : TH RX10 88 92 (xn 2) := ⟨⟨gw_at 916 (by decide +kernel) (by decide +kernel), gw_at 125 (by decide +kernel) (by decide +kernel)⟩, by decide +kernel, by decide +kernel, by decide +kernel⟩
def f_Water_enough_b22   (h : Hp)   : Option ((Int32 ⊕ Nat) × Hp) :=
some (.inr 2, hA h 0 0 6)

set_option maxRecDepth 20000 in
set_option maxHeartbeats 4000000 in
theorem f_Water_enough_b22_ok {l : Launch} {X : Nat × (Nat → Int32)} (hst : l.stackTraces = false) {d : Nat} (hd : 7 ≤ d)     {h : Hp}   {r : (Int32 ⊕ Nat) × Hp} (E : f_Water_enough_b22   h  = some r) : Rn l X mX10_enough d 22 [] [] h (xI r) r.2 := by
  unfold f_Water_enough_b22 at E
  cases E
  exact Rn.throwSW (x := 2) (i := 21) kt_X10_88_92 rfl rfl dX10_enough_22 dX10_enough_25 dX10_enough_26 dX10_enough_29 dX10_enough_32 (Nat.le_of_ble_eq_true rfl)
def f_Water_enough_b80  (k38 : Hp → Nat → Int32 → Int32 → Int32 → Int32 → Option ((Int32 ⊕ Nat) × Hp)) (h : Hp) (x0 : Nat) (x1 : Int32) (x2 : Int32) (x3 : Int32) (x4 : Int32)  : Option ((Int32 ⊕ Nat) × Hp) :=
k38 h x0 x1 x2 x3 (x4 + (1 : Int32))

set_option maxRecDepth 20000 in
set_option maxHeartbeats 4000000 in
theorem f_Water_enough_b80_ok {l : Launch} {X : Nat × (Nat → Int32)} (hst : l.stackTraces = false) {d : Nat} (hd : 7 ≤ d)   {k38 : Hp → Nat → Int32 → Int32 → Int32 → Int32 → Option ((Int32 ⊕ Nat) × Hp)} (hk38 : ∀ (h : Hp) (x0 : Nat) (x1 : Int32) (x2 : Int32) (x3 : Int32) (x4 : Int32)  (r : (Int32 ⊕ Nat) × Hp), k38 h x0 x1 x2 x3 x4 = some r → Rn l X mX10_enough d 38 [(0, .ref x0), (1, .int x1), (2, .int x2), (3, .int x3), (4, .int x4)] [] h (xI r) r.2) {h : Hp} {x0 : Nat} {x1 : Int32} {x2 : Int32} {x3 : Int32} {x4 : Int32}  {r : (Int32 ⊕ Nat) × Hp} (E : f_Water_enough_b80  k38 h x0 x1 x2 x3 x4 = some r) : Rn l X mX10_enough d 80 [(0, .ref x0), (1, .int x1), (2, .int x2), (3, .int x3), (4, .int x4)] [] h (xI r) r.2 := by
  unfold f_Water_enough_b80 at E
  refine Rn.iinc (pc' := 83) (v := (x4 + (1 : Int32))) (L' := [(4, .int (x4 + (1 : Int32))), (0, .ref x0), (1, .int x1), (2, .int x2), (3, .int x3)]) dX10_enough_80 4 rfl rfl (by decide) rfl rfl ?_
  refine Rn.goto (pc' := 38) dX10_enough_83 (by decide) ?_
  refine Rn.sub [1, 2, 3, 4, 0] rfl ?_
  exact hk38 _ _ _ _ _ _ _ E
theorem kb_X10_238 : KB RX10 238 yX3_fillFirstEmpty mX3_fillFirstEmpty 1 := ⟨gw_at 1250 (by decide +kernel) (by decide +kernel), gw_at 113 (by decide +kernel) (by decide +kernel), trivial, ws_X3_fillFirstEmpty, by decide +kernel, by decide +kernel, by decide +kernel, by decide⟩
theorem ki_X3_fillFirstEmpty : Cond.instanceMethod yX3_fillFirstEmpty ∈ gw ∧ Cond.selects yX3_fillFirstEmpty.cls yX3_fillFirstEmpty yX3_fillFirstEmpty ∈ gw := ⟨gw_at 1251 (by decide +kernel) (by decide +kernel), gw_at 1252 (by decide +kernel) (by decide +kernel)⟩
theorem kb_X10_251 : KB RX10 251 yX3_passQuietMonths mX3_passQuietMonths 1 := ⟨gw_at 535 (by decide +kernel) (by decide +kernel), gw_at 113 (by decide +kernel) (by decide +kernel), trivial, ws_X3_passQuietMonths, by decide +kernel, by decide +kernel, by decide +kernel, by decide⟩
theorem ki_X3_passQuietMonths : Cond.instanceMethod yX3_passQuietMonths ∈ gw ∧ Cond.selects yX3_passQuietMonths.cls yX3_passQuietMonths yX3_passQuietMonths ∈ gw := ⟨gw_at 536 (by decide +kernel) (by decide +kernel), gw_at 537 (by decide +kernel) (by decide +kernel)⟩
def f_Water_enough_b38  (k38 : Hp → Nat → Int32 → Int32 → Int32 → Int32 → Option ((Int32 ⊕ Nat) × Hp)) (h : Hp) (x0 : Nat) (x1 : Int32) (x2 : Int32) (x3 : Int32) (x4 : Int32)  : Option ((Int32 ⊕ Nat) × Hp) :=
if x1 < x4 then (
some (.inl x3, h)

) else (
if hS h x0 = 10 then (
if hS h (hR h x0 5) = 4 then (
bV (f_Land_copyFrom h (hR h x0 5) (hR h x0 4)) fun h5 =>
if hS h5 x0 = 10 then (
if hS h5 (hR h5 x0 5) = 4 then (
bI (f_Land_fillFirstEmpty h5 (hR h5 x0 5) x4) fun v9 h10 =>
if hS h10 x0 = 10 then (
if hS h10 (hR h10 x0 5) = 4 then (
bI (f_Land_passQuietMonths h10 (hR h10 x0 5) x2) fun v14 h15 =>
if v14 = x2 then (
f_Water_enough_b80  k38 h15 x0 x1 x2 (x3 + (1 : Int32)) x4

) else (
f_Water_enough_b80  k38 h15 x0 x1 x2 x3 x4

)
) else none) else none) else none) else none) else none) else none
)

set_option maxRecDepth 20000 in
set_option maxHeartbeats 4000000 in
theorem f_Water_enough_b38_ok {l : Launch} {X : Nat × (Nat → Int32)} (hst : l.stackTraces = false) {d : Nat} (hd : 7 ≤ d)   {k38 : Hp → Nat → Int32 → Int32 → Int32 → Int32 → Option ((Int32 ⊕ Nat) × Hp)} (hk38 : ∀ (h : Hp) (x0 : Nat) (x1 : Int32) (x2 : Int32) (x3 : Int32) (x4 : Int32)  (r : (Int32 ⊕ Nat) × Hp), k38 h x0 x1 x2 x3 x4 = some r → Rn l X mX10_enough d 38 [(0, .ref x0), (1, .int x1), (2, .int x2), (3, .int x3), (4, .int x4)] [] h (xI r) r.2) {h : Hp} {x0 : Nat} {x1 : Int32} {x2 : Int32} {x3 : Int32} {x4 : Int32}  {r : (Int32 ⊕ Nat) × Hp} (E : f_Water_enough_b38  k38 h x0 x1 x2 x3 x4 = some r) : Rn l X mX10_enough d 38 [(0, .ref x0), (1, .int x1), (2, .int x2), (3, .int x3), (4, .int x4)] [] h (xI r) r.2 := by
  unfold f_Water_enough_b38 at E
  refine Rn.iload (pc' := 40) dX10_enough_38 4 rfl rfl ?_
  refine Rn.iload_n (pc' := 41) dX10_enough_40 rfl 1 rfl rfl ?_
  refine Rn.icmp_gt (pc' := 44) (tgt := 86) dX10_enough_41 (by decide) rfl (fun c1 => ?_) (fun c1 => ?_)
  · replace E := (if_of E).1 c1
    refine Rn.iload_n (pc' := 87) dX10_enough_86 rfl 3 rfl rfl ?_
    cases E
    exact Rn.zret rfl rfl dX10_enough_87
  · replace E := (if_of E).2 c1
    refine Rn.aload_n (pc' := 45) dX10_enough_44 rfl 0 rfl rfl ?_
    obtain ⟨g2, E⟩ := gd_of E
    refine Rn.getR (pc' := 48) fl_X10_46_9 g2 rfl dX10_enough_45 rfl ?_
    refine Rn.aload_n (pc' := 49) dX10_enough_48 rfl 0 rfl rfl ?_
    refine Rn.getR (pc' := 52) fl_X10_42_9 g2 rfl dX10_enough_49 rfl ?_
    obtain ⟨g3, E⟩ := gd_of E
    obtain ⟨h5, e6, E⟩ := bV_of E
    refine Rn.callV1 (pc' := 55) (As := [.ref (hR h x0 4)]) (rest := []) (f_Land_copyFrom_ok hst e6) (Nat.le_trans (by decide) hd) rfl kb_X10_219 ki_X3_copyFrom rfl g3 rfl rfl (Nat.le_of_ble_eq_true rfl) dX10_enough_52 rfl rfl ?_
    refine Rn.aload_n (pc' := 56) dX10_enough_55 rfl 0 rfl rfl ?_
    obtain ⟨g7, E⟩ := gd_of E
    refine Rn.getR (pc' := 59) fl_X10_46_9 g7 rfl dX10_enough_56 rfl ?_
    refine Rn.iload (pc' := 61) dX10_enough_59 4 rfl rfl ?_
    obtain ⟨g8, E⟩ := gd_of E
    obtain ⟨v9, h10, e11, E⟩ := bI_of E
    refine Rn.callV1 (pc' := 64) (As := [.int x4]) (rest := []) (f_Land_fillFirstEmpty_ok hst e11) (Nat.le_trans (by decide) hd) rfl kb_X10_238 ki_X3_fillFirstEmpty rfl g8 rfl rfl (Nat.le_of_ble_eq_true rfl) dX10_enough_61 rfl rfl ?_
    refine Rn.pop (pc' := 65) (hc := rfl) dX10_enough_64 rfl ?_
    refine Rn.aload_n (pc' := 66) dX10_enough_65 rfl 0 rfl rfl ?_
    obtain ⟨g12, E⟩ := gd_of E
    refine Rn.getR (pc' := 69) fl_X10_46_9 g12 rfl dX10_enough_66 rfl ?_
    refine Rn.iload_n (pc' := 70) dX10_enough_69 rfl 2 rfl rfl ?_
    obtain ⟨g13, E⟩ := gd_of E
    obtain ⟨v14, h15, e16, E⟩ := bI_of E
    refine Rn.callV1 (pc' := 73) (As := [.int x2]) (rest := []) (f_Land_passQuietMonths_ok hst e16) (Nat.le_trans (by decide) hd) rfl kb_X10_251 ki_X3_passQuietMonths rfl g13 rfl rfl (Nat.le_of_ble_eq_true rfl) dX10_enough_70 rfl rfl ?_
    refine Rn.iload_n (pc' := 74) dX10_enough_73 rfl 2 rfl rfl ?_
    refine Rn.icmp_ne (pc' := 77) (tgt := 80) dX10_enough_74 (by decide) rfl (fun c17 => ?_) (fun c17 => ?_)
    · replace E := (if_of E).2 c17
      exact f_Water_enough_b80_ok hst hd  hk38 E
    · replace E := (if_of E).1 c17
      refine Rn.iinc (pc' := 80) (v := (x3 + (1 : Int32))) (L' := [(3, .int (x3 + (1 : Int32))), (0, .ref x0), (1, .int x1), (2, .int x2), (4, .int x4)]) dX10_enough_77 3 rfl rfl (by decide) rfl rfl ?_
      refine Rn.sub [1, 2, 3, 0, 4] rfl ?_
      exact f_Water_enough_b80_ok hst hd  hk38 E
def f_Water_enough_L38   (n : Nat) : Hp → Nat → Int32 → Int32 → Int32 → Int32 → Option ((Int32 ⊕ Nat) × Hp) := Nat.rec (motive := fun _ => Hp → Nat → Int32 → Int32 → Int32 → Int32 → Option ((Int32 ⊕ Nat) × Hp)) (fun _ _ _ _ _ _ => none) (fun _ rec => f_Water_enough_b38   rec) n
theorem f_Water_enough_L38_ok {l : Launch} {X : Nat × (Nat → Int32)} (hst : l.stackTraces = false) {d : Nat} (hd : 7 ≤ d)     : ∀ (n : Nat) (h : Hp) (x0 : Nat) (x1 : Int32) (x2 : Int32) (x3 : Int32) (x4 : Int32)  (r : (Int32 ⊕ Nat) × Hp), f_Water_enough_L38   n h x0 x1 x2 x3 x4 = some r → Rn l X mX10_enough d 38 [(0, .ref x0), (1, .int x1), (2, .int x2), (3, .int x3), (4, .int x4)] [] h (xI r) r.2 := by
  intro n
  induction n with
  | zero => intro h x0 x1 x2 x3 x4 r E; cases E
  | succ n ih => intro h x0 x1 x2 x3 x4 r E; exact f_Water_enough_b38_ok hst hd   ih E
def f_Water_enough_b0   (h : Hp) (x0 : Nat) (x1 : Int32) (x2 : Int32)  : Option ((Int32 ⊕ Nat) × Hp) :=
if x1 < (1 : Int32) then (
f_Water_enough_b22   h

) else (
if (60 : Int32) < x1 then (
f_Water_enough_b22   h

) else (
if x2 < (1 : Int32) then (
f_Water_enough_b22   h

) else (
if x2 ≤ (24 : Int32) then (
f_Water_enough_L38   FU h x0 x1 x2 (0 : Int32) (1 : Int32)

) else (
f_Water_enough_b22   h

)

)

)

)

set_option maxRecDepth 20000 in
set_option maxHeartbeats 4000000 in
theorem f_Water_enough_b0_ok {l : Launch} {X : Nat × (Nat → Int32)} (hst : l.stackTraces = false) {d : Nat} (hd : 7 ≤ d)     {h : Hp} {x0 : Nat} {x1 : Int32} {x2 : Int32}  {r : (Int32 ⊕ Nat) × Hp} (E : f_Water_enough_b0   h x0 x1 x2 = some r) : Rn l X mX10_enough d 0 [(0, .ref x0), (1, .int x1), (2, .int x2)] [] h (xI r) r.2 := by
  unfold f_Water_enough_b0 at E
  refine Rn.iload_n (pc' := 1) dX10_enough_0 rfl 1 rfl rfl ?_
  refine Rn.iconst (pc' := 2) (v := (1 : Int32)) (hv := by decide) dX10_enough_1 rfl ?_
  refine Rn.icmp_lt (pc' := 5) (tgt := 22) dX10_enough_2 (by decide) rfl (fun c1 => ?_) (fun c1 => ?_)
  · replace E := (if_of E).1 c1
    refine Rn.sub [] rfl ?_
    exact f_Water_enough_b22_ok hst hd   E
  · replace E := (if_of E).2 c1
    refine Rn.iload_n (pc' := 6) dX10_enough_5 rfl 1 rfl rfl ?_
    refine Rn.bipush (pc' := 8) (v := (60 : Int32)) (hv := by decide) dX10_enough_6 rfl ?_
    refine Rn.icmp_gt (pc' := 11) (tgt := 22) dX10_enough_8 (by decide) rfl (fun c2 => ?_) (fun c2 => ?_)
    · replace E := (if_of E).1 c2
      refine Rn.sub [] rfl ?_
      exact f_Water_enough_b22_ok hst hd   E
    · replace E := (if_of E).2 c2
      refine Rn.iload_n (pc' := 12) dX10_enough_11 rfl 2 rfl rfl ?_
      refine Rn.iconst (pc' := 13) (v := (1 : Int32)) (hv := by decide) dX10_enough_12 rfl ?_
      refine Rn.icmp_lt (pc' := 16) (tgt := 22) dX10_enough_13 (by decide) rfl (fun c3 => ?_) (fun c3 => ?_)
      · replace E := (if_of E).1 c3
        refine Rn.sub [] rfl ?_
        exact f_Water_enough_b22_ok hst hd   E
      · replace E := (if_of E).2 c3
        refine Rn.iload_n (pc' := 17) dX10_enough_16 rfl 2 rfl rfl ?_
        refine Rn.bipush (pc' := 19) (v := (24 : Int32)) (hv := by decide) dX10_enough_17 rfl ?_
        refine Rn.icmp_le (pc' := 22) (tgt := 33) dX10_enough_19 (by decide) rfl (fun c4 => ?_) (fun c4 => ?_)
        · replace E := (if_of E).1 c4
          refine Rn.iconst (pc' := 34) (v := (0 : Int32)) (hv := by decide) dX10_enough_33 rfl ?_
          refine Rn.istore_n (pc' := 35) (L' := [(3, .int (0 : Int32)), (0, .ref x0), (1, .int x1), (2, .int x2)]) dX10_enough_34 rfl (by decide) rfl rfl ?_
          refine Rn.iconst (pc' := 36) (v := (1 : Int32)) (hv := by decide) dX10_enough_35 rfl ?_
          refine Rn.istore (pc' := 38) (L' := [(4, .int (1 : Int32)), (3, .int (0 : Int32)), (0, .ref x0), (1, .int x1), (2, .int x2)]) dX10_enough_36 (by decide) rfl rfl ?_
          refine Rn.sub [2, 3, 4, 1, 0] rfl ?_
          exact f_Water_enough_L38_ok hst hd   FU _ _ _ _ _ _ _ E
        · replace E := (if_of E).2 c4
          refine Rn.sub [] rfl ?_
          exact f_Water_enough_b22_ok hst hd   E
def f_Water_enough (h : Hp) (x0 : Nat) (x1 : Int32) (x2 : Int32) : Option ((Int32 ⊕ Nat) × Hp) := f_Water_enough_b0  h x0 x1 x2
theorem f_Water_enough_ok {l : Launch} {X : Nat × (Nat → Int32)} (hst : l.stackTraces = false) {h : Hp} {x0 : Nat} {x1 : Int32} {x2 : Int32} {r : (Int32 ⊕ Nat) × Hp} (E : f_Water_enough h x0 x1 x2 = some r) : MC l X yX10_enough mX10_enough 7 [.ref x0, .int x1, .int x2] h (xI r) r.2 :=
  MC.body (by decide +kernel) rfl (by decide) hst (Nat.le_of_ble_eq_true rfl) (f_Water_enough_b0_ok hst (Nat.le_refl _) E)
abbrev mL_enough : MI := (RL, cL_enough, 5, (some Jvm.ClassFile.FieldType.int), [(0, 10, 13, 13)], false)
theorem ws_L_enough : ∀ w ∈ wsM yL_enough mL_enough, w ∈ gw := List.forall_mem_cons.mpr ⟨gw_at 1403 (by decide +kernel) (by decide +kernel), fun _ h => h⟩
theorem kb_L_92 : KB RL 92 yX10_enough mX10_enough 2 := ⟨gw_at 1404 (by decide +kernel) (by decide +kernel), gw_at 107 (by decide +kernel) (by decide +kernel), trivial, ws_X10_enough, by decide +kernel, by decide +kernel, by decide +kernel, by decide⟩
theorem ki_X10_enough : Cond.instanceMethod yX10_enough ∈ gw ∧ Cond.selects yX10_enough.cls yX10_enough yX10_enough ∈ gw := ⟨gw_at 1405 (by decide +kernel) (by decide +kernel), gw_at 1406 (by decide +kernel) (by decide +kernel)⟩
theorem kk_L_13 : Cond.classLink RL 13 "java/lang/IllegalArgumentException" ∈ gw := gw_at 713 (by decide +kernel) (by decide +kernel)
def f_Lw_enough_b0   (h : Hp) (x0 : Nat) (x1 : Int32) (x2 : Int32) (x3 : Nat)  : Option (Int32 × Hp) :=
if hS h x0 = 10 then (
bC (f_Water_enough h x0 x1 x2) (fun v2 h3 =>
if hS h3 x3 = 22 then (
if ib (0 : Int32) (hL h3 x3) = true then (
wr (sJ h3 x3 (ix (0 : Int32)) (Int32.toInt64 v2)) fun h7 =>
some ((0 : Int32), h7)
) else none) else none
) (fun x_ h3 =>
if x_ = 2 then (
some ((1 : Int32), h3)

) else (
none))
) else none
set_option maxRecDepth 20000 in
set_option maxHeartbeats 4000000 in
theorem f_Lw_enough_b0_ok {l : Launch} {X : Nat × (Nat → Int32)} (hst : l.stackTraces = false) {d : Nat} (hd : 8 ≤ d)     {h : Hp} {x0 : Nat} {x1 : Int32} {x2 : Int32} {x3 : Nat}  {r : Int32 × Hp} (E : f_Lw_enough_b0   h x0 x1 x2 x3 = some r) : Rn l X mL_enough d 0 [(0, .ref x0), (1, .int x1), (2, .int x2), (3, .ref x3)] [] h (eI r) r.2 := by
  unfold f_Lw_enough_b0 at E
  refine Rn.aload_n (pc' := 1) dL_enough_0 rfl 3 rfl rfl ?_
  refine Rn.iconst (pc' := 2) (v := (0 : Int32)) (hv := by decide) dL_enough_1 rfl ?_
  refine Rn.aload_n (pc' := 3) dL_enough_2 rfl 0 rfl rfl ?_
  refine Rn.iload_n (pc' := 4) dL_enough_3 rfl 1 rfl rfl ?_
  refine Rn.iload_n (pc' := 5) dL_enough_4 rfl 2 rfl rfl ?_
  obtain ⟨g1, E⟩ := gd_of E
  rcases bC_of E with ⟨v2, h3, e4, E⟩ | ⟨x_, h3, e4, E⟩
  · refine Rn.callV1 (pc' := 8) (As := [.int x1, .int x2]) (rest := [.int (0 : Int32), .ref x3]) (f_Water_enough_ok hst e4) (Nat.le_trans (by decide) hd) rfl kb_L_92 ki_X10_enough rfl g1 rfl rfl (Nat.le_of_ble_eq_true rfl) dL_enough_5 rfl rfl ?_
    refine Rn.i2l (pc' := 9) dL_enough_8 rfl ?_
    obtain ⟨g5, E⟩ := gd_of E
    obtain ⟨g6, E⟩ := gd_of E
    refine Rn.last (pc' := 10) g5 g6 dL_enough_9 rfl ?_
    replace E := wr_of E
    generalize eh8 : sJ h3 x3 (ix (0 : Int32)) (Int32.toInt64 v2) = h7 at E ⊢
    refine Rn.goto (pc' := 17) dL_enough_10 (by decide) ?_
    refine Rn.iconst (pc' := 18) (v := (0 : Int32)) (hv := by decide) dL_enough_17 rfl ?_
    cases E
    exact Rn.zret rfl rfl dL_enough_18
  · refine Rn.callVX (As := [.int x1, .int x2]) (rest := [.int (0 : Int32), .ref x3]) (f_Water_enough_ok hst e4) (Nat.le_trans (by decide) hd) rfl kb_L_92 ki_X10_enough rfl g1 rfl rfl (Nat.le_of_ble_eq_true rfl) dL_enough_5 ?_
    by_cases c9 : x_ = 2
    · replace E := (if_of E).1 c9
      subst c9
      refine RnX.catch (x := 2) (i := 4) (pch := 15) 0 rfl (pre0) (by decide) (by decide) kk_L_13 (by decide) (Or.inr ⟨dL_enough_13, rfl⟩) (by decide) ?_
      change Rn _ _ _ _ _ [(0, .ref x0), (1, .int x1), (2, .int x2), (3, .ref x3)] _ _ _ _
      refine Rn.iconst (pc' := 16) (v := (1 : Int32)) (hv := by decide) dL_enough_15 rfl ?_
      cases E
      exact Rn.zret rfl rfl dL_enough_16
    replace E := (if_of E).2 c9
    cases E
def f_Lw_enough (h : Hp) (x0 : Nat) (x1 : Int32) (x2 : Int32) (x3 : Nat) : Option (Int32 × Hp) := f_Lw_enough_b0  h x0 x1 x2 x3
theorem f_Lw_enough_ok {l : Launch} {X : Nat × (Nat → Int32)} (hst : l.stackTraces = false) {h : Hp} {x0 : Nat} {x1 : Int32} {x2 : Int32} {x3 : Nat} {r : Int32 × Hp} (E : f_Lw_enough h x0 x1 x2 x3 = some r) : MC l X yL_enough mL_enough 8 [.ref x0, .int x1, .int x2, .ref x3] h (eI r) r.2 :=
  MC.body (by decide +kernel) rfl (by decide) hst (Nat.le_of_ble_eq_true rfl) (f_Lw_enough_b0_ok hst (Nat.le_refl _) E)
abbrev mX11_keeps : MI := (RX11, cX11_keeps, 2, none, [], false)
theorem ws_X11_keeps : ∀ w ∈ wsM yX11_keeps mX11_keeps, w ∈ gw := List.forall_mem_cons.mpr ⟨gw_at 1848 (by decide +kernel) (by decide +kernel), fun _ h => h⟩
def f_Model_keeps_b2  (k2 : Hp → Nat → Int32 → Option (Hp)) (h : Hp) (x0 : Nat) (x1 : Int32)  : Option (Hp) :=
if (617 : Int32) ≤ x1 then (
some h

) else (
if hS h x0 = 11 then (
if hS h (hR h x0 1) = 20 then (
if ib x1 (hL h (hR h x0 1)) = true then (
if hS h (hR h x0 4) = 20 then (
if ib x1 (hL h (hR h x0 4)) = true then (
wr (sI h (hR h x0 4) (ix x1) (hI h (hR h x0 1) (ix x1))) fun h7 =>
k2 h7 x0 (x1 + (1 : Int32))
) else none) else none) else none) else none) else none
)

set_option maxRecDepth 20000 in
set_option maxHeartbeats 4000000 in
theorem f_Model_keeps_b2_ok {l : Launch} {X : Nat × (Nat → Int32)} (hst : l.stackTraces = false) {d : Nat} (hd : 0 ≤ d)   {k2 : Hp → Nat → Int32 → Option (Hp)} (hk2 : ∀ (h : Hp) (x0 : Nat) (x1 : Int32)  (r : Hp), k2 h x0 x1 = some r → Rn l X mX11_keeps d 2 [(0, .ref x0), (1, .int x1)] [] h (eV r) r) {h : Hp} {x0 : Nat} {x1 : Int32}  {r : Hp} (E : f_Model_keeps_b2  k2 h x0 x1 = some r) : Rn l X mX11_keeps d 2 [(0, .ref x0), (1, .int x1)] [] h (eV r) r := by
  unfold f_Model_keeps_b2 at E
  refine Rn.iload_n (pc' := 3) dX11_keeps_2 rfl 1 rfl rfl ?_
  refine Rn.sipush (pc' := 6) (v := (617 : Int32)) (hv := by decide) dX11_keeps_3 rfl ?_
  refine Rn.icmp_ge (pc' := 9) (tgt := 27) dX11_keeps_6 (by decide) rfl (fun c1 => ?_) (fun c1 => ?_)
  · replace E := (if_of E).1 c1
    cases E
    exact Rn.vret rfl dX11_keeps_27
  · replace E := (if_of E).2 c1
    refine Rn.aload_n (pc' := 10) dX11_keeps_9 rfl 0 rfl rfl ?_
    obtain ⟨g2, E⟩ := gd_of E
    refine Rn.getR (pc' := 13) fl_X11_23_10 g2 rfl dX11_keeps_10 rfl ?_
    refine Rn.iload_n (pc' := 14) dX11_keeps_13 rfl 1 rfl rfl ?_
    refine Rn.aload_n (pc' := 15) dX11_keeps_14 rfl 0 rfl rfl ?_
    refine Rn.getR (pc' := 18) fl_X11_13_10 g2 rfl dX11_keeps_15 rfl ?_
    refine Rn.iload_n (pc' := 19) dX11_keeps_18 rfl 1 rfl rfl ?_
    obtain ⟨g3, E⟩ := gd_of E
    obtain ⟨g4, E⟩ := gd_of E
    refine Rn.iald (pc' := 20) g3 g4 dX11_keeps_19 rfl ?_
    obtain ⟨g5, E⟩ := gd_of E
    obtain ⟨g6, E⟩ := gd_of E
    refine Rn.iast (pc' := 21) g5 g6 dX11_keeps_20 rfl ?_
    replace E := wr_of E
    generalize eh8 : sI h (hR h x0 4) (ix x1) (hI h (hR h x0 1) (ix x1)) = h7 at E ⊢
    refine Rn.iinc (pc' := 24) (v := (x1 + (1 : Int32))) (L' := [(1, .int (x1 + (1 : Int32))), (0, .ref x0)]) dX11_keeps_21 1 rfl rfl (by decide) rfl rfl ?_
    refine Rn.goto (pc' := 2) dX11_keeps_24 (by decide) ?_
    refine Rn.sub [1, 0] rfl ?_
    exact hk2 _ _ _ _ E
def f_Model_keeps_L2   (n : Nat) : Hp → Nat → Int32 → Option (Hp) := Nat.rec (motive := fun _ => Hp → Nat → Int32 → Option (Hp)) (fun _ _ _ => none) (fun _ rec => f_Model_keeps_b2   rec) n
theorem f_Model_keeps_L2_ok {l : Launch} {X : Nat × (Nat → Int32)} (hst : l.stackTraces = false) {d : Nat} (hd : 0 ≤ d)     : ∀ (n : Nat) (h : Hp) (x0 : Nat) (x1 : Int32)  (r : Hp), f_Model_keeps_L2   n h x0 x1 = some r → Rn l X mX11_keeps d 2 [(0, .ref x0), (1, .int x1)] [] h (eV r) r := by
  intro n
  induction n with
  | zero => intro h x0 x1 r E; cases E
  | succ n ih => intro h x0 x1 r E; exact f_Model_keeps_b2_ok hst hd   ih E
def f_Model_keeps_b0   (h : Hp) (x0 : Nat)  : Option (Hp) :=
f_Model_keeps_L2   FU h x0 (0 : Int32)

set_option maxRecDepth 20000 in
set_option maxHeartbeats 4000000 in
theorem f_Model_keeps_b0_ok {l : Launch} {X : Nat × (Nat → Int32)} (hst : l.stackTraces = false) {d : Nat} (hd : 0 ≤ d)     {h : Hp} {x0 : Nat}  {r : Hp} (E : f_Model_keeps_b0   h x0 = some r) : Rn l X mX11_keeps d 0 [(0, .ref x0)] [] h (eV r) r := by
  unfold f_Model_keeps_b0 at E
  refine Rn.iconst (pc' := 1) (v := (0 : Int32)) (hv := by decide) dX11_keeps_0 rfl ?_
  refine Rn.istore_n (pc' := 2) (L' := [(1, .int (0 : Int32)), (0, .ref x0)]) dX11_keeps_1 rfl (by decide) rfl rfl ?_
  refine Rn.sub [1, 0] rfl ?_
  exact f_Model_keeps_L2_ok hst hd   FU _ _ _ _ E
def f_Model_keeps (h : Hp) (x0 : Nat) : Option (Hp) := f_Model_keeps_b0  h x0
theorem f_Model_keeps_ok {l : Launch} {X : Nat × (Nat → Int32)} (hst : l.stackTraces = false) {h : Hp} {x0 : Nat} {r : Hp} (E : f_Model_keeps h x0 = some r) : MC l X yX11_keeps mX11_keeps 0 [.ref x0] h (eV r) r :=
  MC.body (by decide +kernel) rfl (by decide) hst (Nat.le_of_ble_eq_true rfl) (f_Model_keeps_b0_ok hst (Nat.le_refl _) E)
abbrev mX11_adds : MI := (RX11, cX11_adds, 4, none, [], false)
theorem ws_X11_adds : ∀ w ∈ wsM yX11_adds mX11_adds, w ∈ gw := List.forall_mem_cons.mpr ⟨gw_at 1604 (by decide +kernel) (by decide +kernel), fun _ h => h⟩
def f_Model_adds_b0   (h : Hp) (x0 : Nat) (x1 : Int32) (x2 : Int32) (x3 : Int32)  : Option (Hp) :=
if hS h x0 = 11 then (
if hS h (hR h x0 1) = 20 then (
if ib ((((65 : Int32) + ((35 : Int32) * x1)) + (5 : Int32)) + x2) (hL h (hR h x0 1)) = true then (
if ib ((((65 : Int32) + ((35 : Int32) * x1)) + (5 : Int32)) + x2) (hL h (hR h x0 1)) = true then (
wr (sI h (hR h x0 1) (ix ((((65 : Int32) + ((35 : Int32) * x1)) + (5 : Int32)) + x2)) ((hI h (hR h x0 1) (ix ((((65 : Int32) + ((35 : Int32) * x1)) + (5 : Int32)) + x2))) + x3)) fun h5 =>
some h5
) else none) else none) else none) else none
set_option maxRecDepth 20000 in
set_option maxHeartbeats 4000000 in
theorem f_Model_adds_b0_ok {l : Launch} {X : Nat × (Nat → Int32)} (hst : l.stackTraces = false) {d : Nat} (hd : 0 ≤ d)     {h : Hp} {x0 : Nat} {x1 : Int32} {x2 : Int32} {x3 : Int32}  {r : Hp} (E : f_Model_adds_b0   h x0 x1 x2 x3 = some r) : Rn l X mX11_adds d 0 [(0, .ref x0), (1, .int x1), (2, .int x2), (3, .int x3)] [] h (eV r) r := by
  unfold f_Model_adds_b0 at E
  refine Rn.aload_n (pc' := 1) dX11_adds_0 rfl 0 rfl rfl ?_
  obtain ⟨g1, E⟩ := gd_of E
  refine Rn.getR (pc' := 4) fl_X11_13_10 g1 rfl dX11_adds_1 rfl ?_
  refine Rn.bipush (pc' := 6) (v := (65 : Int32)) (hv := by decide) dX11_adds_4 rfl ?_
  refine Rn.bipush (pc' := 8) (v := (35 : Int32)) (hv := by decide) dX11_adds_6 rfl ?_
  refine Rn.iload_n (pc' := 9) dX11_adds_8 rfl 1 rfl rfl ?_
  refine Rn.imul (pc' := 10) dX11_adds_9 rfl ?_
  refine Rn.iadd (pc' := 11) dX11_adds_10 rfl ?_
  refine Rn.iconst (pc' := 12) (v := (5 : Int32)) (hv := by decide) dX11_adds_11 rfl ?_
  refine Rn.iadd (pc' := 13) dX11_adds_12 rfl ?_
  refine Rn.iload_n (pc' := 14) dX11_adds_13 rfl 2 rfl rfl ?_
  refine Rn.iadd (pc' := 15) dX11_adds_14 rfl ?_
  refine Rn.dup2 (pc' := 16) (hc := rfl) (hd := rfl) dX11_adds_15 rfl ?_
  obtain ⟨g2, E⟩ := gd_of E
  obtain ⟨g3, E⟩ := gd_of E
  refine Rn.iald (pc' := 17) g2 g3 dX11_adds_16 rfl ?_
  refine Rn.iload_n (pc' := 18) dX11_adds_17 rfl 3 rfl rfl ?_
  refine Rn.iadd (pc' := 19) dX11_adds_18 rfl ?_
  obtain ⟨g4, E⟩ := gd_of E
  refine Rn.iast (pc' := 20) g2 g4 dX11_adds_19 rfl ?_
  replace E := wr_of E
  generalize eh6 : sI h (hR h x0 1) (ix ((((65 : Int32) + ((35 : Int32) * x1)) + (5 : Int32)) + x2)) ((hI h (hR h x0 1) (ix ((((65 : Int32) + ((35 : Int32) * x1)) + (5 : Int32)) + x2))) + x3) = h5 at E ⊢
  cases E
  exact Rn.vret rfl dX11_adds_20
def f_Model_adds (h : Hp) (x0 : Nat) (x1 : Int32) (x2 : Int32) (x3 : Int32) : Option (Hp) := f_Model_adds_b0  h x0 x1 x2 x3
theorem f_Model_adds_ok {l : Launch} {X : Nat × (Nat → Int32)} (hst : l.stackTraces = false) {h : Hp} {x0 : Nat} {x1 : Int32} {x2 : Int32} {x3 : Int32} {r : Hp} (E : f_Model_adds h x0 x1 x2 x3 = some r) : MC l X yX11_adds mX11_adds 0 [.ref x0, .int x1, .int x2, .int x3] h (eV r) r :=
  MC.body (by decide +kernel) rfl (by decide) hst (Nat.le_of_ble_eq_true rfl) (f_Model_adds_b0_ok hst (Nat.le_refl _) E)
abbrev mX11_pours : MI := (RX11, cX11_pours, 5, none, [], false)
theorem ws_X11_pours : ∀ w ∈ wsM yX11_pours mX11_pours, w ∈ gw := List.forall_mem_cons.mpr ⟨gw_at 1591 (by decide +kernel) (by decide +kernel), fun _ h => h⟩
def f_Model_pours_b38   (h : Hp) (x0 : Nat) (x3 : Int32) (x4 : Int32)  : Option (Hp) :=
if hS h x0 = 11 then (
if hS h (hR h x0 1) = 20 then (
if ib (7 : Int32) (hL h (hR h x0 1)) = true then (
if ib (7 : Int32) (hL h (hR h x0 1)) = true then (
wr (sI h (hR h x0 1) (ix (7 : Int32)) ((hI h (hR h x0 1) (ix (7 : Int32))) + (x3 - x4))) fun h5 =>
if hS h5 (hR h5 x0 1) = 20 then (
if ib (8 : Int32) (hL h5 (hR h5 x0 1)) = true then (
if ib (8 : Int32) (hL h5 (hR h5 x0 1)) = true then (
wr (sI h5 (hR h5 x0 1) (ix (8 : Int32)) ((hI h5 (hR h5 x0 1) (ix (8 : Int32))) + x3)) fun h10 =>
some h10
) else none) else none) else none) else none) else none) else none) else none
set_option maxRecDepth 20000 in
set_option maxHeartbeats 4000000 in
theorem f_Model_pours_b38_ok {l : Launch} {X : Nat × (Nat → Int32)} (hst : l.stackTraces = false) {d : Nat} (hd : 3 ≤ d)     {h : Hp} {x0 : Nat} {x3 : Int32} {x4 : Int32}  {r : Hp} (E : f_Model_pours_b38   h x0 x3 x4 = some r) : Rn l X mX11_pours d 38 [(0, .ref x0), (3, .int x3), (4, .int x4)] [] h (eV r) r := by
  unfold f_Model_pours_b38 at E
  refine Rn.aload_n (pc' := 39) dX11_pours_38 rfl 0 rfl rfl ?_
  obtain ⟨g1, E⟩ := gd_of E
  refine Rn.getR (pc' := 42) fl_X11_13_10 g1 rfl dX11_pours_39 rfl ?_
  refine Rn.bipush (pc' := 44) (v := (7 : Int32)) (hv := by decide) dX11_pours_42 rfl ?_
  refine Rn.dup2 (pc' := 45) (hc := rfl) (hd := rfl) dX11_pours_44 rfl ?_
  obtain ⟨g2, E⟩ := gd_of E
  obtain ⟨g3, E⟩ := gd_of E
  refine Rn.iald (pc' := 46) g2 g3 dX11_pours_45 rfl ?_
  refine Rn.iload_n (pc' := 47) dX11_pours_46 rfl 1 rfl rfl ?_
  refine Rn.iload (pc' := 49) dX11_pours_47 2 rfl rfl ?_
  refine Rn.isub (pc' := 50) dX11_pours_49 rfl ?_
  refine Rn.iadd (pc' := 51) dX11_pours_50 rfl ?_
  obtain ⟨g4, E⟩ := gd_of E
  refine Rn.iast (pc' := 52) g2 g4 dX11_pours_51 rfl ?_
  replace E := wr_of E
  generalize eh6 : sI h (hR h x0 1) (ix (7 : Int32)) ((hI h (hR h x0 1) (ix (7 : Int32))) + (x3 - x4)) = h5 at E ⊢
  refine Rn.aload_n (pc' := 53) dX11_pours_52 rfl 0 rfl rfl ?_
  refine Rn.getR (pc' := 56) fl_X11_13_10 (kp_sI eh6 g1) rfl dX11_pours_53 rfl ?_
  refine Rn.bipush (pc' := 58) (v := (8 : Int32)) (hv := by decide) dX11_pours_56 rfl ?_
  refine Rn.dup2 (pc' := 59) (hc := rfl) (hd := rfl) dX11_pours_58 rfl ?_
  obtain ⟨g7, E⟩ := gd_of E
  obtain ⟨g8, E⟩ := gd_of E
  refine Rn.iald (pc' := 60) g7 g8 dX11_pours_59 rfl ?_
  refine Rn.iload_n (pc' := 61) dX11_pours_60 rfl 1 rfl rfl ?_
  refine Rn.iadd (pc' := 62) dX11_pours_61 rfl ?_
  obtain ⟨g9, E⟩ := gd_of E
  refine Rn.iast (pc' := 63) g7 g9 dX11_pours_62 rfl ?_
  replace E := wr_of E
  generalize eh11 : sI h5 (hR h5 x0 1) (ix (8 : Int32)) ((hI h5 (hR h5 x0 1) (ix (8 : Int32))) + x3) = h10 at E ⊢
  cases E
  exact Rn.vret rfl dX11_pours_63
theorem kb_X11_82 : KB RX11 82 yX11_adds mX11_adds 3 := ⟨gw_at 1601 (by decide +kernel) (by decide +kernel), gw_at 117 (by decide +kernel) (by decide +kernel), trivial, ws_X11_adds, by decide +kernel, by decide +kernel, by decide +kernel, by decide⟩
theorem ki_X11_adds : Cond.instanceMethod yX11_adds ∈ gw ∧ Cond.selects yX11_adds.cls yX11_adds yX11_adds ∈ gw := ⟨gw_at 1603 (by decide +kernel) (by decide +kernel), gw_at 60 (by decide +kernel) (by decide +kernel)⟩
def f_Model_pours_b24   (h : Hp) (x0 : Nat) (x1 : Int32) (x2 : Int32) (x3 : Int32) (s0 : Int32) : Option (Hp) :=
if x1 < 0 then (
f_Model_pours_b38   h x0 x3 s0

) else (
if hS h x0 = 11 then (
bV (f_Model_adds h x0 x1 x2 s0) fun h4 =>
f_Model_pours_b38   h4 x0 x3 s0
) else none
)

set_option maxRecDepth 20000 in
set_option maxHeartbeats 4000000 in
theorem f_Model_pours_b24_ok {l : Launch} {X : Nat × (Nat → Int32)} (hst : l.stackTraces = false) {d : Nat} (hd : 3 ≤ d)     {h : Hp} {x0 : Nat} {x1 : Int32} {x2 : Int32} {x3 : Int32} {s0 : Int32} {r : Hp} (E : f_Model_pours_b24   h x0 x1 x2 x3 s0 = some r) : Rn l X mX11_pours d 24 [(0, .ref x0), (1, .int x1), (2, .int x2), (3, .int x3)] [.int s0] h (eV r) r := by
  unfold f_Model_pours_b24 at E
  refine Rn.istore (pc' := 26) (L' := [(4, .int s0), (0, .ref x0), (1, .int x1), (2, .int x2), (3, .int x3)]) dX11_pours_24 (by decide) rfl rfl ?_
  refine Rn.iload_n (pc' := 27) dX11_pours_26 rfl 2 rfl rfl ?_
  refine Rn.if_lt (pc' := 30) (tgt := 38) dX11_pours_27 (by decide) rfl (fun c1 => ?_) (fun c1 => ?_)
  · replace E := (if_of E).1 c1
    refine Rn.sub [1, 4, 0] rfl ?_
    exact f_Model_pours_b38_ok hst hd   E
  · replace E := (if_of E).2 c1
    refine Rn.aload_n (pc' := 31) dX11_pours_30 rfl 1 rfl rfl ?_
    refine Rn.iload_n (pc' := 32) dX11_pours_31 rfl 2 rfl rfl ?_
    refine Rn.iload_n (pc' := 33) dX11_pours_32 rfl 3 rfl rfl ?_
    refine Rn.iload (pc' := 35) dX11_pours_33 0 rfl rfl ?_
    obtain ⟨g2, E⟩ := gd_of E
    obtain ⟨h4, e5, E⟩ := bV_of E
    refine Rn.callV1 (pc' := 38) (As := [.int x1, .int x2, .int s0]) (rest := []) (f_Model_adds_ok hst e5) (Nat.le_trans (by decide) hd) rfl kb_X11_82 ki_X11_adds rfl g2 rfl rfl (Nat.le_of_ble_eq_true rfl) dX11_pours_35 rfl rfl ?_
    refine Rn.sub [1, 4, 0] rfl ?_
    exact f_Model_pours_b38_ok hst hd   E
def f_Model_pours_b0   (h : Hp) (x0 : Nat) (x1 : Int32) (x2 : Int32) (x3 : Int32)  : Option (Hp) :=
if 0 ≤ x1 then (
if hS h x0 = 11 then (
bI (f_Model_ofCistern h x0 x1 (0 : Int32)) fun v3 h4 =>
if hS h4 x0 = 11 then (
bI (f_Model_measures h4 x0 x1) fun v7 h8 =>
bI (f_Math_min h8 x3 (v3 - v7)) fun v10 h11 =>
f_Model_pours_b24   h11 x0 x1 x2 x3 v10
) else none) else none
) else (
f_Model_pours_b24   h x0 x1 x2 x3 (0 : Int32)

)

set_option maxRecDepth 20000 in
set_option maxHeartbeats 4000000 in
theorem f_Model_pours_b0_ok {l : Launch} {X : Nat × (Nat → Int32)} (hst : l.stackTraces = false) {d : Nat} (hd : 3 ≤ d)     {h : Hp} {x0 : Nat} {x1 : Int32} {x2 : Int32} {x3 : Int32}  {r : Hp} (E : f_Model_pours_b0   h x0 x1 x2 x3 = some r) : Rn l X mX11_pours d 0 [(0, .ref x0), (1, .int x1), (2, .int x2), (3, .int x3)] [] h (eV r) r := by
  unfold f_Model_pours_b0 at E
  refine Rn.iload_n (pc' := 1) dX11_pours_0 rfl 1 rfl rfl ?_
  refine Rn.if_ge (pc' := 4) (tgt := 8) dX11_pours_1 (by decide) rfl (fun c1 => ?_) (fun c1 => ?_)
  · replace E := (if_of E).1 c1
    refine Rn.iload_n (pc' := 9) dX11_pours_8 rfl 3 rfl rfl ?_
    refine Rn.aload_n (pc' := 10) dX11_pours_9 rfl 0 rfl rfl ?_
    refine Rn.iload_n (pc' := 11) dX11_pours_10 rfl 1 rfl rfl ?_
    refine Rn.iconst (pc' := 12) (v := (0 : Int32)) (hv := by decide) dX11_pours_11 rfl ?_
    obtain ⟨g2, E⟩ := gd_of E
    obtain ⟨v3, h4, e5, E⟩ := bI_of E
    refine Rn.callV1 (pc' := 15) (As := [.int x1, .int (0 : Int32)]) (rest := [.int x3]) (f_Model_ofCistern_ok hst e5) (Nat.le_trans (by decide) hd) rfl kb_X11_69 ki_X11_ofCistern rfl g2 rfl rfl (Nat.le_of_ble_eq_true rfl) dX11_pours_12 rfl rfl ?_
    refine Rn.aload_n (pc' := 16) dX11_pours_15 rfl 0 rfl rfl ?_
    refine Rn.iload_n (pc' := 17) dX11_pours_16 rfl 1 rfl rfl ?_
    obtain ⟨g6, E⟩ := gd_of E
    obtain ⟨v7, h8, e9, E⟩ := bI_of E
    refine Rn.callV1 (pc' := 20) (As := [.int x1]) (rest := [.int v3, .int x3]) (f_Model_measures_ok hst e9) (Nat.le_trans (by decide) hd) rfl kb_X11_75 ki_X11_measures rfl g6 rfl rfl (Nat.le_of_ble_eq_true rfl) dX11_pours_17 rfl rfl ?_
    refine Rn.isub (pc' := 21) dX11_pours_20 rfl ?_
    obtain ⟨v10, h11, e12, E⟩ := bI_of E
    refine Rn.callS1 (pc' := 24) (As := [.int x3, .int (v3 - v7)]) (rest := []) (f_Math_min_ok hst e12) (Nat.le_trans (by decide) hd) rfl kb_X11_63 ks_J9_min_7cf53 rfl rfl (Nat.le_of_ble_eq_true rfl) dX11_pours_21 rfl rfl ?_
    exact f_Model_pours_b24_ok hst hd   E
  · replace E := (if_of E).2 c1
    refine Rn.iconst (pc' := 5) (v := (0 : Int32)) (hv := by decide) dX11_pours_4 rfl ?_
    refine Rn.goto (pc' := 24) dX11_pours_5 (by decide) ?_
    exact f_Model_pours_b24_ok hst hd   E
def f_Model_pours (h : Hp) (x0 : Nat) (x1 : Int32) (x2 : Int32) (x3 : Int32) : Option (Hp) := f_Model_pours_b0  h x0 x1 x2 x3
theorem f_Model_pours_ok {l : Launch} {X : Nat × (Nat → Int32)} (hst : l.stackTraces = false) {h : Hp} {x0 : Nat} {x1 : Int32} {x2 : Int32} {x3 : Int32} {r : Hp} (E : f_Model_pours h x0 x1 x2 x3 = some r) : MC l X yX11_pours mX11_pours 3 [.ref x0, .int x1, .int x2, .int x3] h (eV r) r :=
  MC.body (by decide +kernel) rfl (by decide) hst (Nat.le_of_ble_eq_true rfl) (f_Model_pours_b0_ok hst (Nat.le_refl _) E)
abbrev mX11_setsCistern : MI := (RX11, cX11_setsCistern, 4, none, [], false)
theorem ws_X11_setsCistern : ∀ w ∈ wsM yX11_setsCistern mX11_setsCistern, w ∈ gw := List.forall_mem_cons.mpr ⟨gw_at 1557 (by decide +kernel) (by decide +kernel), fun _ h => h⟩
def f_Model_setsCistern_b0   (h : Hp) (x0 : Nat) (x1 : Int32) (x2 : Int32) (x3 : Int32)  : Option (Hp) :=
if hS h x0 = 11 then (
if hS h (hR h x0 1) = 20 then (
if ib (((65 : Int32) + ((35 : Int32) * x1)) + x2) (hL h (hR h x0 1)) = true then (
wr (sI h (hR h x0 1) (ix (((65 : Int32) + ((35 : Int32) * x1)) + x2)) x3) fun h4 =>
some h4
) else none) else none) else none
set_option maxRecDepth 20000 in
set_option maxHeartbeats 4000000 in
theorem f_Model_setsCistern_b0_ok {l : Launch} {X : Nat × (Nat → Int32)} (hst : l.stackTraces = false) {d : Nat} (hd : 0 ≤ d)     {h : Hp} {x0 : Nat} {x1 : Int32} {x2 : Int32} {x3 : Int32}  {r : Hp} (E : f_Model_setsCistern_b0   h x0 x1 x2 x3 = some r) : Rn l X mX11_setsCistern d 0 [(0, .ref x0), (1, .int x1), (2, .int x2), (3, .int x3)] [] h (eV r) r := by
  unfold f_Model_setsCistern_b0 at E
  refine Rn.aload_n (pc' := 1) dX11_setsCistern_0 rfl 0 rfl rfl ?_
  obtain ⟨g1, E⟩ := gd_of E
  refine Rn.getR (pc' := 4) fl_X11_13_10 g1 rfl dX11_setsCistern_1 rfl ?_
  refine Rn.bipush (pc' := 6) (v := (65 : Int32)) (hv := by decide) dX11_setsCistern_4 rfl ?_
  refine Rn.bipush (pc' := 8) (v := (35 : Int32)) (hv := by decide) dX11_setsCistern_6 rfl ?_
  refine Rn.iload_n (pc' := 9) dX11_setsCistern_8 rfl 1 rfl rfl ?_
  refine Rn.imul (pc' := 10) dX11_setsCistern_9 rfl ?_
  refine Rn.iadd (pc' := 11) dX11_setsCistern_10 rfl ?_
  refine Rn.iload_n (pc' := 12) dX11_setsCistern_11 rfl 2 rfl rfl ?_
  refine Rn.iadd (pc' := 13) dX11_setsCistern_12 rfl ?_
  refine Rn.iload_n (pc' := 14) dX11_setsCistern_13 rfl 3 rfl rfl ?_
  obtain ⟨g2, E⟩ := gd_of E
  obtain ⟨g3, E⟩ := gd_of E
  refine Rn.iast (pc' := 15) g2 g3 dX11_setsCistern_14 rfl ?_
  replace E := wr_of E
  generalize eh5 : sI h (hR h x0 1) (ix (((65 : Int32) + ((35 : Int32) * x1)) + x2)) x3 = h4 at E ⊢
  cases E
  exact Rn.vret rfl dX11_setsCistern_15
def f_Model_setsCistern (h : Hp) (x0 : Nat) (x1 : Int32) (x2 : Int32) (x3 : Int32) : Option (Hp) := f_Model_setsCistern_b0  h x0 x1 x2 x3
theorem f_Model_setsCistern_ok {l : Launch} {X : Nat × (Nat → Int32)} (hst : l.stackTraces = false) {h : Hp} {x0 : Nat} {x1 : Int32} {x2 : Int32} {x3 : Int32} {r : Hp} (E : f_Model_setsCistern h x0 x1 x2 x3 = some r) : MC l X yX11_setsCistern mX11_setsCistern 0 [.ref x0, .int x1, .int x2, .int x3] h (eV r) r :=
  MC.body (by decide +kernel) rfl (by decide) hst (Nat.le_of_ble_eq_true rfl) (f_Model_setsCistern_b0_ok hst (Nat.le_refl _) E)
abbrev mX11_winters : MI := (RX11, cX11_winters, 4, (some Jvm.ClassFile.FieldType.int), [], false)
theorem ws_X11_winters : ∀ w ∈ wsM yX11_winters mX11_winters, w ∈ gw := List.forall_mem_cons.mpr ⟨gw_at 1824 (by decide +kernel) (by decide +kernel), fun _ h => h⟩
def f_Model_winters_b38  (k4 : Hp → Nat → Int32 → Int32 → Int32 → Option (Int32 × Hp)) (h : Hp) (x0 : Nat) (x1 : Int32) (x3 : Int32) (s0 : Int32) : Option (Int32 × Hp) :=
k4 h x0 x1 s0 (x3 + (1 : Int32))

set_option maxRecDepth 20000 in
set_option maxHeartbeats 4000000 in
theorem f_Model_winters_b38_ok {l : Launch} {X : Nat × (Nat → Int32)} (hst : l.stackTraces = false) {d : Nat} (hd : 4 ≤ d)   {k4 : Hp → Nat → Int32 → Int32 → Int32 → Option (Int32 × Hp)} (hk4 : ∀ (h : Hp) (x0 : Nat) (x1 : Int32) (x2 : Int32) (x3 : Int32)  (r : Int32 × Hp), k4 h x0 x1 x2 x3 = some r → Rn l X mX11_winters d 4 [(0, .ref x0), (1, .int x1), (2, .int x2), (3, .int x3)] [] h (eI r) r.2) {h : Hp} {x0 : Nat} {x1 : Int32} {x3 : Int32} {s0 : Int32} {r : Int32 × Hp} (E : f_Model_winters_b38  k4 h x0 x1 x3 s0 = some r) : Rn l X mX11_winters d 38 [(0, .ref x0), (1, .int x1), (3, .int x3)] [.int s0] h (eI r) r.2 := by
  unfold f_Model_winters_b38 at E
  refine Rn.istore_n (pc' := 39) (L' := [(2, .int s0), (0, .ref x0), (1, .int x1), (3, .int x3)]) dX11_winters_38 rfl (by decide) rfl rfl ?_
  refine Rn.iinc (pc' := 42) (v := (x3 + (1 : Int32))) (L' := [(3, .int (x3 + (1 : Int32))), (2, .int s0), (0, .ref x0), (1, .int x1)]) dX11_winters_39 3 rfl rfl (by decide) rfl rfl ?_
  refine Rn.goto (pc' := 4) dX11_winters_42 (by decide) ?_
  refine Rn.sub [2, 3, 1, 0] rfl ?_
  exact hk4 _ _ _ _ _ _ E
def f_Model_winters_b37  (k4 : Hp → Nat → Int32 → Int32 → Int32 → Option (Int32 × Hp)) (h : Hp) (x0 : Nat) (x1 : Int32) (x3 : Int32)  : Option (Int32 × Hp) :=
f_Model_winters_b38  k4 h x0 x1 x3 (-1 : Int32)

set_option maxRecDepth 20000 in
set_option maxHeartbeats 4000000 in
theorem f_Model_winters_b37_ok {l : Launch} {X : Nat × (Nat → Int32)} (hst : l.stackTraces = false) {d : Nat} (hd : 4 ≤ d)   {k4 : Hp → Nat → Int32 → Int32 → Int32 → Option (Int32 × Hp)} (hk4 : ∀ (h : Hp) (x0 : Nat) (x1 : Int32) (x2 : Int32) (x3 : Int32)  (r : Int32 × Hp), k4 h x0 x1 x2 x3 = some r → Rn l X mX11_winters d 4 [(0, .ref x0), (1, .int x1), (2, .int x2), (3, .int x3)] [] h (eI r) r.2) {h : Hp} {x0 : Nat} {x1 : Int32} {x3 : Int32}  {r : Int32 × Hp} (E : f_Model_winters_b37  k4 h x0 x1 x3 = some r) : Rn l X mX11_winters d 37 [(0, .ref x0), (1, .int x1), (3, .int x3)] [] h (eI r) r.2 := by
  unfold f_Model_winters_b37 at E
  refine Rn.iconst (pc' := 38) (v := (-1 : Int32)) (hv := by decide) dX11_winters_37 rfl ?_
  exact f_Model_winters_b38_ok hst hd  hk4 E
theorem kb_X11_145 : KB RX11 145 yX11_pours mX11_pours 3 := ⟨gw_at 1588 (by decide +kernel) (by decide +kernel), gw_at 117 (by decide +kernel) (by decide +kernel), trivial, ws_X11_pours, by decide +kernel, by decide +kernel, by decide +kernel, by decide⟩
theorem ki_X11_pours : Cond.instanceMethod yX11_pours ∈ gw ∧ Cond.selects yX11_pours.cls yX11_pours yX11_pours ∈ gw := ⟨gw_at 1590 (by decide +kernel) (by decide +kernel), gw_at 57 (by decide +kernel) (by decide +kernel)⟩
theorem kb_X11_124 : KB RX11 124 yX11_setsCistern mX11_setsCistern 3 := ⟨gw_at 1554 (by decide +kernel) (by decide +kernel), gw_at 117 (by decide +kernel) (by decide +kernel), trivial, ws_X11_setsCistern, by decide +kernel, by decide +kernel, by decide +kernel, by decide⟩
theorem ki_X11_setsCistern : Cond.instanceMethod yX11_setsCistern ∈ gw ∧ Cond.selects yX11_setsCistern.cls yX11_setsCistern yX11_setsCistern ∈ gw := ⟨gw_at 1556 (by decide +kernel) (by decide +kernel), gw_at 50 (by decide +kernel) (by decide +kernel)⟩
def f_Model_winters_b45   (h : Hp) (x0 : Nat) (x1 : Int32) (x2 : Int32)  : Option (Int32 × Hp) :=
if hS h x0 = 11 then (
bI (f_Model_now h x0) fun v2 h3 =>
if hS h3 x0 = 11 then (
bV (f_Model_pours h3 x0 x2 v2 x1) fun h7 =>
if x2 < 0 then (
some (x2, h7)

) else (
if hS h7 x0 = 11 then (
bV (f_Model_setsCistern h7 x0 x2 (2 : Int32) (1 : Int32)) fun h12 =>
some (x2, h12)
) else none
)
) else none) else none
set_option maxRecDepth 20000 in
set_option maxHeartbeats 4000000 in
theorem f_Model_winters_b45_ok {l : Launch} {X : Nat × (Nat → Int32)} (hst : l.stackTraces = false) {d : Nat} (hd : 4 ≤ d)     {h : Hp} {x0 : Nat} {x1 : Int32} {x2 : Int32}  {r : Int32 × Hp} (E : f_Model_winters_b45   h x0 x1 x2 = some r) : Rn l X mX11_winters d 45 [(0, .ref x0), (1, .int x1), (2, .int x2)] [] h (eI r) r.2 := by
  unfold f_Model_winters_b45 at E
  refine Rn.aload_n (pc' := 46) dX11_winters_45 rfl 0 rfl rfl ?_
  refine Rn.iload_n (pc' := 47) dX11_winters_46 rfl 2 rfl rfl ?_
  refine Rn.aload_n (pc' := 48) dX11_winters_47 rfl 0 rfl rfl ?_
  obtain ⟨g1, E⟩ := gd_of E
  obtain ⟨v2, h3, e4, E⟩ := bI_of E
  refine Rn.callV1 (pc' := 51) (As := []) (rest := [.int x2, .ref x0]) (f_Model_now_ok hst e4) (Nat.le_trans (by decide) hd) rfl kb_X11_268 ki_X11_now rfl g1 rfl rfl (Nat.le_of_ble_eq_true rfl) dX11_winters_48 rfl rfl ?_
  refine Rn.iload_n (pc' := 52) dX11_winters_51 rfl 1 rfl rfl ?_
  obtain ⟨g5, E⟩ := gd_of E
  obtain ⟨h7, e8, E⟩ := bV_of E
  refine Rn.callV1 (pc' := 55) (As := [.int x2, .int v2, .int x1]) (rest := []) (f_Model_pours_ok hst e8) (Nat.le_trans (by decide) hd) rfl kb_X11_145 ki_X11_pours rfl g5 rfl rfl (Nat.le_of_ble_eq_true rfl) dX11_winters_52 rfl rfl ?_
  refine Rn.iload_n (pc' := 56) dX11_winters_55 rfl 2 rfl rfl ?_
  refine Rn.if_lt (pc' := 59) (tgt := 66) dX11_winters_56 (by decide) rfl (fun c9 => ?_) (fun c9 => ?_)
  · replace E := (if_of E).1 c9
    refine Rn.iload_n (pc' := 67) dX11_winters_66 rfl 2 rfl rfl ?_
    cases E
    exact Rn.zret rfl rfl dX11_winters_67
  · replace E := (if_of E).2 c9
    refine Rn.aload_n (pc' := 60) dX11_winters_59 rfl 0 rfl rfl ?_
    refine Rn.iload_n (pc' := 61) dX11_winters_60 rfl 2 rfl rfl ?_
    refine Rn.iconst (pc' := 62) (v := (2 : Int32)) (hv := by decide) dX11_winters_61 rfl ?_
    refine Rn.iconst (pc' := 63) (v := (1 : Int32)) (hv := by decide) dX11_winters_62 rfl ?_
    obtain ⟨g10, E⟩ := gd_of E
    obtain ⟨h12, e13, E⟩ := bV_of E
    refine Rn.callV1 (pc' := 66) (As := [.int x2, .int (2 : Int32), .int (1 : Int32)]) (rest := []) (f_Model_setsCistern_ok hst e13) (Nat.le_trans (by decide) hd) rfl kb_X11_124 ki_X11_setsCistern rfl g10 rfl rfl (Nat.le_of_ble_eq_true rfl) dX11_winters_63 rfl rfl ?_
    refine Rn.iload_n (pc' := 67) dX11_winters_66 rfl 2 rfl rfl ?_
    cases E
    exact Rn.zret rfl rfl dX11_winters_67
def f_Model_winters_b4  (k4 : Hp → Nat → Int32 → Int32 → Int32 → Option (Int32 × Hp)) (h : Hp) (x0 : Nat) (x1 : Int32) (x2 : Int32) (x3 : Int32)  : Option (Int32 × Hp) :=
if hS h x0 = 11 then (
bI (f_Model_cisterns h x0) fun v2 h3 =>
if v2 ≤ x3 then (
f_Model_winters_b45   h3 x0 x1 x2

) else (
if 0 ≤ x2 then (
f_Model_winters_b45   h3 x0 x1 x2

) else (
if hS h3 x0 = 11 then (
bI (f_Model_measures h3 x0 x3) fun v8 h9 =>
if v8 = 0 then (
if hS h9 x0 = 11 then (
bI (f_Model_ofCistern h9 x0 x3 (2 : Int32)) fun v13 h14 =>
if v13 = 0 then (
f_Model_winters_b38  k4 h14 x0 x1 x3 x3

) else (
f_Model_winters_b37  k4 h14 x0 x1 x3

)
) else none
) else (
f_Model_winters_b37  k4 h9 x0 x1 x3

)
) else none
)

)
) else none
set_option maxRecDepth 20000 in
set_option maxHeartbeats 4000000 in
theorem f_Model_winters_b4_ok {l : Launch} {X : Nat × (Nat → Int32)} (hst : l.stackTraces = false) {d : Nat} (hd : 4 ≤ d)   {k4 : Hp → Nat → Int32 → Int32 → Int32 → Option (Int32 × Hp)} (hk4 : ∀ (h : Hp) (x0 : Nat) (x1 : Int32) (x2 : Int32) (x3 : Int32)  (r : Int32 × Hp), k4 h x0 x1 x2 x3 = some r → Rn l X mX11_winters d 4 [(0, .ref x0), (1, .int x1), (2, .int x2), (3, .int x3)] [] h (eI r) r.2) {h : Hp} {x0 : Nat} {x1 : Int32} {x2 : Int32} {x3 : Int32}  {r : Int32 × Hp} (E : f_Model_winters_b4  k4 h x0 x1 x2 x3 = some r) : Rn l X mX11_winters d 4 [(0, .ref x0), (1, .int x1), (2, .int x2), (3, .int x3)] [] h (eI r) r.2 := by
  unfold f_Model_winters_b4 at E
  refine Rn.iload_n (pc' := 5) dX11_winters_4 rfl 3 rfl rfl ?_
  refine Rn.aload_n (pc' := 6) dX11_winters_5 rfl 0 rfl rfl ?_
  obtain ⟨g1, E⟩ := gd_of E
  obtain ⟨v2, h3, e4, E⟩ := bI_of E
  refine Rn.callV1 (pc' := 9) (As := []) (rest := [.int x3]) (f_Model_cisterns_ok hst e4) (Nat.le_trans (by decide) hd) rfl kb_X11_52 ki_X11_cisterns rfl g1 rfl rfl (Nat.le_of_ble_eq_true rfl) dX11_winters_6 rfl rfl ?_
  refine Rn.icmp_ge (pc' := 12) (tgt := 45) dX11_winters_9 (by decide) rfl (fun c5 => ?_) (fun c5 => ?_)
  · replace E := (if_of E).1 c5
    refine Rn.sub [0, 1, 2] rfl ?_
    exact f_Model_winters_b45_ok hst hd   E
  · replace E := (if_of E).2 c5
    refine Rn.iload_n (pc' := 13) dX11_winters_12 rfl 2 rfl rfl ?_
    refine Rn.if_ge (pc' := 16) (tgt := 45) dX11_winters_13 (by decide) rfl (fun c6 => ?_) (fun c6 => ?_)
    · replace E := (if_of E).1 c6
      refine Rn.sub [0, 1, 2] rfl ?_
      exact f_Model_winters_b45_ok hst hd   E
    · replace E := (if_of E).2 c6
      refine Rn.aload_n (pc' := 17) dX11_winters_16 rfl 0 rfl rfl ?_
      refine Rn.iload_n (pc' := 18) dX11_winters_17 rfl 3 rfl rfl ?_
      obtain ⟨g7, E⟩ := gd_of E
      obtain ⟨v8, h9, e10, E⟩ := bI_of E
      refine Rn.callV1 (pc' := 21) (As := [.int x3]) (rest := []) (f_Model_measures_ok hst e10) (Nat.le_trans (by decide) hd) rfl kb_X11_75 ki_X11_measures rfl g7 rfl rfl (Nat.le_of_ble_eq_true rfl) dX11_winters_18 rfl rfl ?_
      refine Rn.if_ne (pc' := 24) (tgt := 37) dX11_winters_21 (by decide) rfl (fun c11 => ?_) (fun c11 => ?_)
      · replace E := (if_of E).2 c11
        refine Rn.sub [0, 1, 3] rfl ?_
        exact f_Model_winters_b37_ok hst hd  hk4 E
      · replace E := (if_of E).1 c11
        refine Rn.aload_n (pc' := 25) dX11_winters_24 rfl 0 rfl rfl ?_
        refine Rn.iload_n (pc' := 26) dX11_winters_25 rfl 3 rfl rfl ?_
        refine Rn.iconst (pc' := 27) (v := (2 : Int32)) (hv := by decide) dX11_winters_26 rfl ?_
        obtain ⟨g12, E⟩ := gd_of E
        obtain ⟨v13, h14, e15, E⟩ := bI_of E
        refine Rn.callV1 (pc' := 30) (As := [.int x3, .int (2 : Int32)]) (rest := []) (f_Model_ofCistern_ok hst e15) (Nat.le_trans (by decide) hd) rfl kb_X11_69 ki_X11_ofCistern rfl g12 rfl rfl (Nat.le_of_ble_eq_true rfl) dX11_winters_27 rfl rfl ?_
        refine Rn.if_ne (pc' := 33) (tgt := 37) dX11_winters_30 (by decide) rfl (fun c16 => ?_) (fun c16 => ?_)
        · replace E := (if_of E).2 c16
          refine Rn.sub [0, 1, 3] rfl ?_
          exact f_Model_winters_b37_ok hst hd  hk4 E
        · replace E := (if_of E).1 c16
          refine Rn.iload_n (pc' := 34) dX11_winters_33 rfl 3 rfl rfl ?_
          refine Rn.goto (pc' := 38) dX11_winters_34 (by decide) ?_
          refine Rn.sub [0, 1, 3] rfl ?_
          exact f_Model_winters_b38_ok hst hd  hk4 E
def f_Model_winters_L4   (n : Nat) : Hp → Nat → Int32 → Int32 → Int32 → Option (Int32 × Hp) := Nat.rec (motive := fun _ => Hp → Nat → Int32 → Int32 → Int32 → Option (Int32 × Hp)) (fun _ _ _ _ _ => none) (fun _ rec => f_Model_winters_b4   rec) n
theorem f_Model_winters_L4_ok {l : Launch} {X : Nat × (Nat → Int32)} (hst : l.stackTraces = false) {d : Nat} (hd : 4 ≤ d)     : ∀ (n : Nat) (h : Hp) (x0 : Nat) (x1 : Int32) (x2 : Int32) (x3 : Int32)  (r : Int32 × Hp), f_Model_winters_L4   n h x0 x1 x2 x3 = some r → Rn l X mX11_winters d 4 [(0, .ref x0), (1, .int x1), (2, .int x2), (3, .int x3)] [] h (eI r) r.2 := by
  intro n
  induction n with
  | zero => intro h x0 x1 x2 x3 r E; cases E
  | succ n ih => intro h x0 x1 x2 x3 r E; exact f_Model_winters_b4_ok hst hd   ih E
def f_Model_winters_b0   (h : Hp) (x0 : Nat) (x1 : Int32)  : Option (Int32 × Hp) :=
f_Model_winters_L4   FU h x0 x1 (-1 : Int32) (0 : Int32)

set_option maxRecDepth 20000 in
set_option maxHeartbeats 4000000 in
theorem f_Model_winters_b0_ok {l : Launch} {X : Nat × (Nat → Int32)} (hst : l.stackTraces = false) {d : Nat} (hd : 4 ≤ d)     {h : Hp} {x0 : Nat} {x1 : Int32}  {r : Int32 × Hp} (E : f_Model_winters_b0   h x0 x1 = some r) : Rn l X mX11_winters d 0 [(0, .ref x0), (1, .int x1)] [] h (eI r) r.2 := by
  unfold f_Model_winters_b0 at E
  refine Rn.iconst (pc' := 1) (v := (-1 : Int32)) (hv := by decide) dX11_winters_0 rfl ?_
  refine Rn.istore_n (pc' := 2) (L' := [(2, .int (-1 : Int32)), (0, .ref x0), (1, .int x1)]) dX11_winters_1 rfl (by decide) rfl rfl ?_
  refine Rn.iconst (pc' := 3) (v := (0 : Int32)) (hv := by decide) dX11_winters_2 rfl ?_
  refine Rn.istore_n (pc' := 4) (L' := [(3, .int (0 : Int32)), (2, .int (-1 : Int32)), (0, .ref x0), (1, .int x1)]) dX11_winters_3 rfl (by decide) rfl rfl ?_
  refine Rn.sub [2, 3, 1, 0] rfl ?_
  exact f_Model_winters_L4_ok hst hd   FU _ _ _ _ _ _ E
def f_Model_winters (h : Hp) (x0 : Nat) (x1 : Int32) : Option (Int32 × Hp) := f_Model_winters_b0  h x0 x1
theorem f_Model_winters_ok {l : Launch} {X : Nat × (Nat → Int32)} (hst : l.stackTraces = false) {h : Hp} {x0 : Nat} {x1 : Int32} {r : Int32 × Hp} (E : f_Model_winters h x0 x1 = some r) : MC l X yX11_winters mX11_winters 4 [.ref x0, .int x1] h (eI r) r.2 :=
  MC.body (by decide +kernel) rfl (by decide) hst (Nat.le_of_ble_eq_true rfl) (f_Model_winters_b0_ok hst (Nat.le_refl _) E)
abbrev mX11_fullest : MI := (RX11, cX11_fullest, 4, (some Jvm.ClassFile.FieldType.int), [], false)
theorem ws_X11_fullest : ∀ w ∈ wsM yX11_fullest mX11_fullest, w ∈ gw := List.forall_mem_cons.mpr ⟨gw_at 1795 (by decide +kernel) (by decide +kernel), fun _ h => h⟩
def f_Model_fullest_b30  (k4 : Hp → Nat → Int32 → Int32 → Int32 → Option (Int32 × Hp)) (h : Hp) (x0 : Nat) (x1 : Int32) (x3 : Int32) (s0 : Int32) : Option (Int32 × Hp) :=
k4 h x0 x1 s0 (x3 + (1 : Int32))

set_option maxRecDepth 20000 in
set_option maxHeartbeats 4000000 in
theorem f_Model_fullest_b30_ok {l : Launch} {X : Nat × (Nat → Int32)} (hst : l.stackTraces = false) {d : Nat} (hd : 2 ≤ d)   {k4 : Hp → Nat → Int32 → Int32 → Int32 → Option (Int32 × Hp)} (hk4 : ∀ (h : Hp) (x0 : Nat) (x1 : Int32) (x2 : Int32) (x3 : Int32)  (r : Int32 × Hp), k4 h x0 x1 x2 x3 = some r → Rn l X mX11_fullest d 4 [(0, .ref x0), (1, .int x1), (2, .int x2), (3, .int x3)] [] h (eI r) r.2) {h : Hp} {x0 : Nat} {x1 : Int32} {x3 : Int32} {s0 : Int32} {r : Int32 × Hp} (E : f_Model_fullest_b30  k4 h x0 x1 x3 s0 = some r) : Rn l X mX11_fullest d 30 [(0, .ref x0), (1, .int x1), (3, .int x3)] [.int s0] h (eI r) r.2 := by
  unfold f_Model_fullest_b30 at E
  refine Rn.istore_n (pc' := 31) (L' := [(2, .int s0), (0, .ref x0), (1, .int x1), (3, .int x3)]) dX11_fullest_30 rfl (by decide) rfl rfl ?_
  refine Rn.iinc (pc' := 34) (v := (x3 + (1 : Int32))) (L' := [(3, .int (x3 + (1 : Int32))), (2, .int s0), (0, .ref x0), (1, .int x1)]) dX11_fullest_31 3 rfl rfl (by decide) rfl rfl ?_
  refine Rn.goto (pc' := 4) dX11_fullest_34 (by decide) ?_
  refine Rn.sub [2, 3, 1, 0] rfl ?_
  exact hk4 _ _ _ _ _ _ E
def f_Model_fullest_b4  (k4 : Hp → Nat → Int32 → Int32 → Int32 → Option (Int32 × Hp)) (h : Hp) (x0 : Nat) (x1 : Int32) (x2 : Int32) (x3 : Int32)  : Option (Int32 × Hp) :=
if (30 : Int32) ≤ x3 then (
some (x2, h)

) else (
if hS h x0 = 11 then (
bI (f_Model_layerOf h x0 x1 x3) fun v3 h4 =>
if hS h4 x0 = 11 then (
bI (f_Model_layerOf h4 x0 x1 x2) fun v7 h8 =>
if v3 < v7 then (
f_Model_fullest_b30  k4 h8 x0 x1 x3 x2

) else (
f_Model_fullest_b30  k4 h8 x0 x1 x3 x3

)
) else none) else none
)

set_option maxRecDepth 20000 in
set_option maxHeartbeats 4000000 in
theorem f_Model_fullest_b4_ok {l : Launch} {X : Nat × (Nat → Int32)} (hst : l.stackTraces = false) {d : Nat} (hd : 2 ≤ d)   {k4 : Hp → Nat → Int32 → Int32 → Int32 → Option (Int32 × Hp)} (hk4 : ∀ (h : Hp) (x0 : Nat) (x1 : Int32) (x2 : Int32) (x3 : Int32)  (r : Int32 × Hp), k4 h x0 x1 x2 x3 = some r → Rn l X mX11_fullest d 4 [(0, .ref x0), (1, .int x1), (2, .int x2), (3, .int x3)] [] h (eI r) r.2) {h : Hp} {x0 : Nat} {x1 : Int32} {x2 : Int32} {x3 : Int32}  {r : Int32 × Hp} (E : f_Model_fullest_b4  k4 h x0 x1 x2 x3 = some r) : Rn l X mX11_fullest d 4 [(0, .ref x0), (1, .int x1), (2, .int x2), (3, .int x3)] [] h (eI r) r.2 := by
  unfold f_Model_fullest_b4 at E
  refine Rn.iload_n (pc' := 5) dX11_fullest_4 rfl 3 rfl rfl ?_
  refine Rn.bipush (pc' := 7) (v := (30 : Int32)) (hv := by decide) dX11_fullest_5 rfl ?_
  refine Rn.icmp_ge (pc' := 10) (tgt := 37) dX11_fullest_7 (by decide) rfl (fun c1 => ?_) (fun c1 => ?_)
  · replace E := (if_of E).1 c1
    refine Rn.iload_n (pc' := 38) dX11_fullest_37 rfl 2 rfl rfl ?_
    cases E
    exact Rn.zret rfl rfl dX11_fullest_38
  · replace E := (if_of E).2 c1
    refine Rn.aload_n (pc' := 11) dX11_fullest_10 rfl 0 rfl rfl ?_
    refine Rn.iload_n (pc' := 12) dX11_fullest_11 rfl 1 rfl rfl ?_
    refine Rn.iload_n (pc' := 13) dX11_fullest_12 rfl 3 rfl rfl ?_
    obtain ⟨g2, E⟩ := gd_of E
    obtain ⟨v3, h4, e5, E⟩ := bI_of E
    refine Rn.callV1 (pc' := 16) (As := [.int x1, .int x3]) (rest := []) (f_Model_layerOf_ok hst e5) (Nat.le_trans (by decide) hd) rfl kb_X11_72 ki_X11_layerOf rfl g2 rfl rfl (Nat.le_of_ble_eq_true rfl) dX11_fullest_13 rfl rfl ?_
    refine Rn.aload_n (pc' := 17) dX11_fullest_16 rfl 0 rfl rfl ?_
    refine Rn.iload_n (pc' := 18) dX11_fullest_17 rfl 1 rfl rfl ?_
    refine Rn.iload_n (pc' := 19) dX11_fullest_18 rfl 2 rfl rfl ?_
    obtain ⟨g6, E⟩ := gd_of E
    obtain ⟨v7, h8, e9, E⟩ := bI_of E
    refine Rn.callV1 (pc' := 22) (As := [.int x1, .int x2]) (rest := [.int v3]) (f_Model_layerOf_ok hst e9) (Nat.le_trans (by decide) hd) rfl kb_X11_72 ki_X11_layerOf rfl g6 rfl rfl (Nat.le_of_ble_eq_true rfl) dX11_fullest_19 rfl rfl ?_
    refine Rn.icmp_lt (pc' := 25) (tgt := 29) dX11_fullest_22 (by decide) rfl (fun c10 => ?_) (fun c10 => ?_)
    · replace E := (if_of E).1 c10
      refine Rn.iload_n (pc' := 30) dX11_fullest_29 rfl 2 rfl rfl ?_
      refine Rn.sub [0, 1, 3] rfl ?_
      exact f_Model_fullest_b30_ok hst hd  hk4 E
    · replace E := (if_of E).2 c10
      refine Rn.iload_n (pc' := 26) dX11_fullest_25 rfl 3 rfl rfl ?_
      refine Rn.goto (pc' := 30) dX11_fullest_26 (by decide) ?_
      refine Rn.sub [0, 1, 3] rfl ?_
      exact f_Model_fullest_b30_ok hst hd  hk4 E
def f_Model_fullest_L4   (n : Nat) : Hp → Nat → Int32 → Int32 → Int32 → Option (Int32 × Hp) := Nat.rec (motive := fun _ => Hp → Nat → Int32 → Int32 → Int32 → Option (Int32 × Hp)) (fun _ _ _ _ _ => none) (fun _ rec => f_Model_fullest_b4   rec) n
theorem f_Model_fullest_L4_ok {l : Launch} {X : Nat × (Nat → Int32)} (hst : l.stackTraces = false) {d : Nat} (hd : 2 ≤ d)     : ∀ (n : Nat) (h : Hp) (x0 : Nat) (x1 : Int32) (x2 : Int32) (x3 : Int32)  (r : Int32 × Hp), f_Model_fullest_L4   n h x0 x1 x2 x3 = some r → Rn l X mX11_fullest d 4 [(0, .ref x0), (1, .int x1), (2, .int x2), (3, .int x3)] [] h (eI r) r.2 := by
  intro n
  induction n with
  | zero => intro h x0 x1 x2 x3 r E; cases E
  | succ n ih => intro h x0 x1 x2 x3 r E; exact f_Model_fullest_b4_ok hst hd   ih E
def f_Model_fullest_b0   (h : Hp) (x0 : Nat) (x1 : Int32)  : Option (Int32 × Hp) :=
f_Model_fullest_L4   FU h x0 x1 (0 : Int32) (1 : Int32)

set_option maxRecDepth 20000 in
set_option maxHeartbeats 4000000 in
theorem f_Model_fullest_b0_ok {l : Launch} {X : Nat × (Nat → Int32)} (hst : l.stackTraces = false) {d : Nat} (hd : 2 ≤ d)     {h : Hp} {x0 : Nat} {x1 : Int32}  {r : Int32 × Hp} (E : f_Model_fullest_b0   h x0 x1 = some r) : Rn l X mX11_fullest d 0 [(0, .ref x0), (1, .int x1)] [] h (eI r) r.2 := by
  unfold f_Model_fullest_b0 at E
  refine Rn.iconst (pc' := 1) (v := (0 : Int32)) (hv := by decide) dX11_fullest_0 rfl ?_
  refine Rn.istore_n (pc' := 2) (L' := [(2, .int (0 : Int32)), (0, .ref x0), (1, .int x1)]) dX11_fullest_1 rfl (by decide) rfl rfl ?_
  refine Rn.iconst (pc' := 3) (v := (1 : Int32)) (hv := by decide) dX11_fullest_2 rfl ?_
  refine Rn.istore_n (pc' := 4) (L' := [(3, .int (1 : Int32)), (2, .int (0 : Int32)), (0, .ref x0), (1, .int x1)]) dX11_fullest_3 rfl (by decide) rfl rfl ?_
  refine Rn.sub [2, 3, 1, 0] rfl ?_
  exact f_Model_fullest_L4_ok hst hd   FU _ _ _ _ _ _ E
def f_Model_fullest (h : Hp) (x0 : Nat) (x1 : Int32) : Option (Int32 × Hp) := f_Model_fullest_b0  h x0 x1
theorem f_Model_fullest_ok {l : Launch} {X : Nat × (Nat → Int32)} (hst : l.stackTraces = false) {h : Hp} {x0 : Nat} {x1 : Int32} {r : Int32 × Hp} (E : f_Model_fullest h x0 x1 = some r) : MC l X yX11_fullest mX11_fullest 2 [.ref x0, .int x1] h (eI r) r.2 :=
  MC.body (by decide +kernel) rfl (by decide) hst (Nat.le_of_ble_eq_true rfl) (f_Model_fullest_b0_ok hst (Nat.le_refl _) E)
abbrev mX11_drops : MI := (RX11, cX11_drops, 4, none, [], false)
theorem ws_X11_drops : ∀ w ∈ wsM yX11_drops mX11_drops, w ∈ gw := List.forall_mem_cons.mpr ⟨gw_at 1791 (by decide +kernel) (by decide +kernel), fun _ h => h⟩
def f_Model_drops_b41   (h : Hp) (x0 : Nat)  : Option (Hp) :=
if hS h x0 = 11 then (
if hS h (hR h x0 1) = 20 then (
if ib (6 : Int32) (hL h (hR h x0 1)) = true then (
if ib (6 : Int32) (hL h (hR h x0 1)) = true then (
wr (sI h (hR h x0 1) (ix (6 : Int32)) ((hI h (hR h x0 1) (ix (6 : Int32))) + (1 : Int32))) fun h5 =>
some h5
) else none) else none) else none) else none
set_option maxRecDepth 20000 in
set_option maxHeartbeats 4000000 in
theorem f_Model_drops_b41_ok {l : Launch} {X : Nat × (Nat → Int32)} (hst : l.stackTraces = false) {d : Nat} (hd : 3 ≤ d)     {h : Hp} {x0 : Nat}  {r : Hp} (E : f_Model_drops_b41   h x0 = some r) : Rn l X mX11_drops d 41 [(0, .ref x0)] [] h (eV r) r := by
  unfold f_Model_drops_b41 at E
  refine Rn.aload_n (pc' := 42) dX11_drops_41 rfl 0 rfl rfl ?_
  obtain ⟨g1, E⟩ := gd_of E
  refine Rn.getR (pc' := 45) fl_X11_13_10 g1 rfl dX11_drops_42 rfl ?_
  refine Rn.bipush (pc' := 47) (v := (6 : Int32)) (hv := by decide) dX11_drops_45 rfl ?_
  refine Rn.dup2 (pc' := 48) (hc := rfl) (hd := rfl) dX11_drops_47 rfl ?_
  obtain ⟨g2, E⟩ := gd_of E
  obtain ⟨g3, E⟩ := gd_of E
  refine Rn.iald (pc' := 49) g2 g3 dX11_drops_48 rfl ?_
  refine Rn.iconst (pc' := 50) (v := (1 : Int32)) (hv := by decide) dX11_drops_49 rfl ?_
  refine Rn.iadd (pc' := 51) dX11_drops_50 rfl ?_
  obtain ⟨g4, E⟩ := gd_of E
  refine Rn.iast (pc' := 52) g2 g4 dX11_drops_51 rfl ?_
  replace E := wr_of E
  generalize eh6 : sI h (hR h x0 1) (ix (6 : Int32)) ((hI h (hR h x0 1) (ix (6 : Int32))) + (1 : Int32)) = h5 at E ⊢
  cases E
  exact Rn.vret rfl dX11_drops_52
theorem kb_X11_302 : KB RX11 302 yX11_fullest mX11_fullest 1 := ⟨gw_at 1792 (by decide +kernel) (by decide +kernel), gw_at 117 (by decide +kernel) (by decide +kernel), trivial, ws_X11_fullest, by decide +kernel, by decide +kernel, by decide +kernel, by decide⟩
theorem ki_X11_fullest : Cond.instanceMethod yX11_fullest ∈ gw ∧ Cond.selects yX11_fullest.cls yX11_fullest yX11_fullest ∈ gw := ⟨gw_at 1794 (by decide +kernel) (by decide +kernel), gw_at 92 (by decide +kernel) (by decide +kernel)⟩
def f_Model_drops_b0   (h : Hp) (x0 : Nat) (x1 : Int32) (x2 : Int32)  : Option (Hp) :=
if hS h x0 = 11 then (
bI (f_Model_fullest h x0 x1) fun v2 h3 =>
if hS h3 x0 = 11 then (
bV (f_Model_adds h3 x0 x1 v2 (-1 : Int32)) fun h7 =>
if x2 < 0 then (
f_Model_drops_b41   h7 x0

) else (
if hS h7 x0 = 11 then (
bI (f_Model_measures h7 x0 x2) fun v11 h12 =>
if hS h12 x0 = 11 then (
bI (f_Model_ofCistern h12 x0 x2 (0 : Int32)) fun v15 h16 =>
if v15 ≤ v11 then (
f_Model_drops_b41   h16 x0

) else (
if hS h16 x0 = 11 then (
bV (f_Model_adds h16 x0 x2 v2 (1 : Int32)) fun h21 =>
some h21
) else none
)
) else none) else none
)
) else none) else none
set_option maxRecDepth 20000 in
set_option maxHeartbeats 4000000 in
theorem f_Model_drops_b0_ok {l : Launch} {X : Nat × (Nat → Int32)} (hst : l.stackTraces = false) {d : Nat} (hd : 3 ≤ d)     {h : Hp} {x0 : Nat} {x1 : Int32} {x2 : Int32}  {r : Hp} (E : f_Model_drops_b0   h x0 x1 x2 = some r) : Rn l X mX11_drops d 0 [(0, .ref x0), (1, .int x1), (2, .int x2)] [] h (eV r) r := by
  unfold f_Model_drops_b0 at E
  refine Rn.aload_n (pc' := 1) dX11_drops_0 rfl 0 rfl rfl ?_
  refine Rn.iload_n (pc' := 2) dX11_drops_1 rfl 1 rfl rfl ?_
  obtain ⟨g1, E⟩ := gd_of E
  obtain ⟨v2, h3, e4, E⟩ := bI_of E
  refine Rn.callV1 (pc' := 5) (As := [.int x1]) (rest := []) (f_Model_fullest_ok hst e4) (Nat.le_trans (by decide) hd) rfl kb_X11_302 ki_X11_fullest rfl g1 rfl rfl (Nat.le_of_ble_eq_true rfl) dX11_drops_2 rfl rfl ?_
  refine Rn.istore_n (pc' := 6) (L' := [(3, .int v2), (0, .ref x0), (1, .int x1), (2, .int x2)]) dX11_drops_5 rfl (by decide) rfl rfl ?_
  refine Rn.aload_n (pc' := 7) dX11_drops_6 rfl 1 rfl rfl ?_
  refine Rn.iload_n (pc' := 8) dX11_drops_7 rfl 2 rfl rfl ?_
  refine Rn.iload_n (pc' := 9) dX11_drops_8 rfl 0 rfl rfl ?_
  refine Rn.iconst (pc' := 10) (v := (-1 : Int32)) (hv := by decide) dX11_drops_9 rfl ?_
  obtain ⟨g5, E⟩ := gd_of E
  obtain ⟨h7, e8, E⟩ := bV_of E
  refine Rn.callV1 (pc' := 13) (As := [.int x1, .int v2, .int (-1 : Int32)]) (rest := []) (f_Model_adds_ok hst e8) (Nat.le_trans (by decide) hd) rfl kb_X11_82 ki_X11_adds rfl g5 rfl rfl (Nat.le_of_ble_eq_true rfl) dX11_drops_10 rfl rfl ?_
  refine Rn.iload_n (pc' := 14) dX11_drops_13 rfl 3 rfl rfl ?_
  refine Rn.if_lt (pc' := 17) (tgt := 41) dX11_drops_14 (by decide) rfl (fun c9 => ?_) (fun c9 => ?_)
  · replace E := (if_of E).1 c9
    refine Rn.sub [1] rfl ?_
    exact f_Model_drops_b41_ok hst hd   E
  · replace E := (if_of E).2 c9
    refine Rn.aload_n (pc' := 18) dX11_drops_17 rfl 1 rfl rfl ?_
    refine Rn.iload_n (pc' := 19) dX11_drops_18 rfl 3 rfl rfl ?_
    obtain ⟨g10, E⟩ := gd_of E
    obtain ⟨v11, h12, e13, E⟩ := bI_of E
    refine Rn.callV1 (pc' := 22) (As := [.int x2]) (rest := []) (f_Model_measures_ok hst e13) (Nat.le_trans (by decide) hd) rfl kb_X11_75 ki_X11_measures rfl g10 rfl rfl (Nat.le_of_ble_eq_true rfl) dX11_drops_19 rfl rfl ?_
    refine Rn.aload_n (pc' := 23) dX11_drops_22 rfl 1 rfl rfl ?_
    refine Rn.iload_n (pc' := 24) dX11_drops_23 rfl 3 rfl rfl ?_
    refine Rn.iconst (pc' := 25) (v := (0 : Int32)) (hv := by decide) dX11_drops_24 rfl ?_
    obtain ⟨g14, E⟩ := gd_of E
    obtain ⟨v15, h16, e17, E⟩ := bI_of E
    refine Rn.callV1 (pc' := 28) (As := [.int x2, .int (0 : Int32)]) (rest := [.int v11]) (f_Model_ofCistern_ok hst e17) (Nat.le_trans (by decide) hd) rfl kb_X11_69 ki_X11_ofCistern rfl g14 rfl rfl (Nat.le_of_ble_eq_true rfl) dX11_drops_25 rfl rfl ?_
    refine Rn.icmp_ge (pc' := 31) (tgt := 41) dX11_drops_28 (by decide) rfl (fun c18 => ?_) (fun c18 => ?_)
    · replace E := (if_of E).1 c18
      refine Rn.sub [1] rfl ?_
      exact f_Model_drops_b41_ok hst hd   E
    · replace E := (if_of E).2 c18
      refine Rn.aload_n (pc' := 32) dX11_drops_31 rfl 1 rfl rfl ?_
      refine Rn.iload_n (pc' := 33) dX11_drops_32 rfl 3 rfl rfl ?_
      refine Rn.iload_n (pc' := 34) dX11_drops_33 rfl 0 rfl rfl ?_
      refine Rn.iconst (pc' := 35) (v := (1 : Int32)) (hv := by decide) dX11_drops_34 rfl ?_
      obtain ⟨g19, E⟩ := gd_of E
      obtain ⟨h21, e22, E⟩ := bV_of E
      refine Rn.callV1 (pc' := 38) (As := [.int x2, .int v2, .int (1 : Int32)]) (rest := []) (f_Model_adds_ok hst e22) (Nat.le_trans (by decide) hd) rfl kb_X11_82 ki_X11_adds rfl g19 rfl rfl (Nat.le_of_ble_eq_true rfl) dX11_drops_35 rfl rfl ?_
      refine Rn.goto (pc' := 52) dX11_drops_38 (by decide) ?_
      cases E
      exact Rn.vret rfl dX11_drops_52
def f_Model_drops (h : Hp) (x0 : Nat) (x1 : Int32) (x2 : Int32) : Option (Hp) := f_Model_drops_b0  h x0 x1 x2
theorem f_Model_drops_ok {l : Launch} {X : Nat × (Nat → Int32)} (hst : l.stackTraces = false) {h : Hp} {x0 : Nat} {x1 : Int32} {x2 : Int32} {r : Hp} (E : f_Model_drops h x0 x1 x2 = some r) : MC l X yX11_drops mX11_drops 3 [.ref x0, .int x1, .int x2] h (eV r) r :=
  MC.body (by decide +kernel) rfl (by decide) hst (Nat.le_of_ble_eq_true rfl) (f_Model_drops_b0_ok hst (Nat.le_refl _) E)
abbrev mX11_leaks : MI := (RX11, cX11_leaks, 3, none, [], false)
theorem ws_X11_leaks : ∀ w ∈ wsM yX11_leaks mX11_leaks, w ∈ gw := List.forall_mem_cons.mpr ⟨gw_at 1787 (by decide +kernel) (by decide +kernel), fun _ h => h⟩
def f_Model_leaks_b71  (k2 : Hp → Nat → Int32 → Option (Hp)) (h : Hp) (x0 : Nat) (x1 : Int32)  : Option (Hp) :=
k2 h x0 (x1 + (1 : Int32))

set_option maxRecDepth 20000 in
set_option maxHeartbeats 4000000 in
theorem f_Model_leaks_b71_ok {l : Launch} {X : Nat × (Nat → Int32)} (hst : l.stackTraces = false) {d : Nat} (hd : 4 ≤ d)   {k2 : Hp → Nat → Int32 → Option (Hp)} (hk2 : ∀ (h : Hp) (x0 : Nat) (x1 : Int32)  (r : Hp), k2 h x0 x1 = some r → Rn l X mX11_leaks d 2 [(0, .ref x0), (1, .int x1)] [] h (eV r) r) {h : Hp} {x0 : Nat} {x1 : Int32}  {r : Hp} (E : f_Model_leaks_b71  k2 h x0 x1 = some r) : Rn l X mX11_leaks d 71 [(0, .ref x0), (1, .int x1)] [] h (eV r) r := by
  unfold f_Model_leaks_b71 at E
  refine Rn.iinc (pc' := 74) (v := (x1 + (1 : Int32))) (L' := [(1, .int (x1 + (1 : Int32))), (0, .ref x0)]) dX11_leaks_71 1 rfl rfl (by decide) rfl rfl ?_
  refine Rn.goto (pc' := 2) dX11_leaks_74 (by decide) ?_
  refine Rn.sub [1, 0] rfl ?_
  exact hk2 _ _ _ _ E
theorem kb_X11_305 : KB RX11 305 yX11_drops mX11_drops 2 := ⟨gw_at 1788 (by decide +kernel) (by decide +kernel), gw_at 117 (by decide +kernel) (by decide +kernel), trivial, ws_X11_drops, by decide +kernel, by decide +kernel, by decide +kernel, by decide⟩
theorem ki_X11_drops : Cond.instanceMethod yX11_drops ∈ gw ∧ Cond.selects yX11_drops.cls yX11_drops yX11_drops ∈ gw := ⟨gw_at 1790 (by decide +kernel) (by decide +kernel), gw_at 91 (by decide +kernel) (by decide +kernel)⟩
def f_Model_leaks_b36  (k2 : Hp → Nat → Int32 → Option (Hp)) (k36 : Hp → Nat → Int32 → Int32 → Option (Hp)) (h : Hp) (x0 : Nat) (x1 : Int32) (x2 : Int32)  : Option (Hp) :=
if hS h x0 = 11 then (
bI (f_Model_ofCistern h x0 x1 (3 : Int32)) fun v2 h3 =>
if v2 ≤ x2 then (
f_Model_leaks_b71  k2 h3 x0 x1

) else (
if hS h3 x0 = 11 then (
bI (f_Model_measures h3 x0 x1) fun v7 h8 =>
if v7 ≤ 0 then (
f_Model_leaks_b71  k2 h8 x0 x1

) else (
if hS h8 x0 = 11 then (
bI (f_Model_ofCistern h8 x0 x1 (4 : Int32)) fun v12 h13 =>
if hS h13 x0 = 11 then (
bV (f_Model_drops h13 x0 x1 v12) fun h17 =>
k36 h17 x0 x1 (x2 + (1 : Int32))
) else none) else none
)
) else none
)
) else none
set_option maxRecDepth 20000 in
set_option maxHeartbeats 4000000 in
theorem f_Model_leaks_b36_ok {l : Launch} {X : Nat × (Nat → Int32)} (hst : l.stackTraces = false) {d : Nat} (hd : 4 ≤ d)   {k2 : Hp → Nat → Int32 → Option (Hp)} {k36 : Hp → Nat → Int32 → Int32 → Option (Hp)} (hk2 : ∀ (h : Hp) (x0 : Nat) (x1 : Int32)  (r : Hp), k2 h x0 x1 = some r → Rn l X mX11_leaks d 2 [(0, .ref x0), (1, .int x1)] [] h (eV r) r) (hk36 : ∀ (h : Hp) (x0 : Nat) (x1 : Int32) (x2 : Int32)  (r : Hp), k36 h x0 x1 x2 = some r → Rn l X mX11_leaks d 36 [(0, .ref x0), (1, .int x1), (2, .int x2)] [] h (eV r) r) {h : Hp} {x0 : Nat} {x1 : Int32} {x2 : Int32}  {r : Hp} (E : f_Model_leaks_b36  k2 k36 h x0 x1 x2 = some r) : Rn l X mX11_leaks d 36 [(0, .ref x0), (1, .int x1), (2, .int x2)] [] h (eV r) r := by
  unfold f_Model_leaks_b36 at E
  refine Rn.iload_n (pc' := 37) dX11_leaks_36 rfl 2 rfl rfl ?_
  refine Rn.aload_n (pc' := 38) dX11_leaks_37 rfl 0 rfl rfl ?_
  refine Rn.iload_n (pc' := 39) dX11_leaks_38 rfl 1 rfl rfl ?_
  refine Rn.iconst (pc' := 40) (v := (3 : Int32)) (hv := by decide) dX11_leaks_39 rfl ?_
  obtain ⟨g1, E⟩ := gd_of E
  obtain ⟨v2, h3, e4, E⟩ := bI_of E
  refine Rn.callV1 (pc' := 43) (As := [.int x1, .int (3 : Int32)]) (rest := [.int x2]) (f_Model_ofCistern_ok hst e4) (Nat.le_trans (by decide) hd) rfl kb_X11_69 ki_X11_ofCistern rfl g1 rfl rfl (Nat.le_of_ble_eq_true rfl) dX11_leaks_40 rfl rfl ?_
  refine Rn.icmp_ge (pc' := 46) (tgt := 71) dX11_leaks_43 (by decide) rfl (fun c5 => ?_) (fun c5 => ?_)
  · replace E := (if_of E).1 c5
    refine Rn.sub [0, 1] rfl ?_
    exact f_Model_leaks_b71_ok hst hd  hk2 E
  · replace E := (if_of E).2 c5
    refine Rn.aload_n (pc' := 47) dX11_leaks_46 rfl 0 rfl rfl ?_
    refine Rn.iload_n (pc' := 48) dX11_leaks_47 rfl 1 rfl rfl ?_
    obtain ⟨g6, E⟩ := gd_of E
    obtain ⟨v7, h8, e9, E⟩ := bI_of E
    refine Rn.callV1 (pc' := 51) (As := [.int x1]) (rest := []) (f_Model_measures_ok hst e9) (Nat.le_trans (by decide) hd) rfl kb_X11_75 ki_X11_measures rfl g6 rfl rfl (Nat.le_of_ble_eq_true rfl) dX11_leaks_48 rfl rfl ?_
    refine Rn.if_le (pc' := 54) (tgt := 71) dX11_leaks_51 (by decide) rfl (fun c10 => ?_) (fun c10 => ?_)
    · replace E := (if_of E).1 c10
      refine Rn.sub [0, 1] rfl ?_
      exact f_Model_leaks_b71_ok hst hd  hk2 E
    · replace E := (if_of E).2 c10
      refine Rn.aload_n (pc' := 55) dX11_leaks_54 rfl 0 rfl rfl ?_
      refine Rn.iload_n (pc' := 56) dX11_leaks_55 rfl 1 rfl rfl ?_
      refine Rn.aload_n (pc' := 57) dX11_leaks_56 rfl 0 rfl rfl ?_
      refine Rn.iload_n (pc' := 58) dX11_leaks_57 rfl 1 rfl rfl ?_
      refine Rn.iconst (pc' := 59) (v := (4 : Int32)) (hv := by decide) dX11_leaks_58 rfl ?_
      obtain ⟨g11, E⟩ := gd_of E
      obtain ⟨v12, h13, e14, E⟩ := bI_of E
      refine Rn.callV1 (pc' := 62) (As := [.int x1, .int (4 : Int32)]) (rest := [.int x1, .ref x0]) (f_Model_ofCistern_ok hst e14) (Nat.le_trans (by decide) hd) rfl kb_X11_69 ki_X11_ofCistern rfl g11 rfl rfl (Nat.le_of_ble_eq_true rfl) dX11_leaks_59 rfl rfl ?_
      obtain ⟨g15, E⟩ := gd_of E
      obtain ⟨h17, e18, E⟩ := bV_of E
      refine Rn.callV1 (pc' := 65) (As := [.int x1, .int v12]) (rest := []) (f_Model_drops_ok hst e18) (Nat.le_trans (by decide) hd) rfl kb_X11_305 ki_X11_drops rfl g15 rfl rfl (Nat.le_of_ble_eq_true rfl) dX11_leaks_62 rfl rfl ?_
      refine Rn.iinc (pc' := 68) (v := (x2 + (1 : Int32))) (L' := [(2, .int (x2 + (1 : Int32))), (0, .ref x0), (1, .int x1)]) dX11_leaks_65 2 rfl rfl (by decide) rfl rfl ?_
      refine Rn.goto (pc' := 36) dX11_leaks_68 (by decide) ?_
      refine Rn.sub [1, 2, 0] rfl ?_
      exact hk36 _ _ _ _ _ E
def f_Model_leaks_L36  (k2 : Hp → Nat → Int32 → Option (Hp)) (n : Nat) : Hp → Nat → Int32 → Int32 → Option (Hp) := Nat.rec (motive := fun _ => Hp → Nat → Int32 → Int32 → Option (Hp)) (fun _ _ _ _ => none) (fun _ rec => f_Model_leaks_b36  k2 rec) n
theorem f_Model_leaks_L36_ok {l : Launch} {X : Nat × (Nat → Int32)} (hst : l.stackTraces = false) {d : Nat} (hd : 4 ≤ d)   {k2 : Hp → Nat → Int32 → Option (Hp)} (hk2 : ∀ (h : Hp) (x0 : Nat) (x1 : Int32)  (r : Hp), k2 h x0 x1 = some r → Rn l X mX11_leaks d 2 [(0, .ref x0), (1, .int x1)] [] h (eV r) r) : ∀ (n : Nat) (h : Hp) (x0 : Nat) (x1 : Int32) (x2 : Int32)  (r : Hp), f_Model_leaks_L36  k2 n h x0 x1 x2 = some r → Rn l X mX11_leaks d 36 [(0, .ref x0), (1, .int x1), (2, .int x2)] [] h (eV r) r := by
  intro n
  induction n with
  | zero => intro h x0 x1 x2 r E; cases E
  | succ n ih => intro h x0 x1 x2 r E; exact f_Model_leaks_b36_ok hst hd  hk2 ih E
def f_Model_leaks_b34  (k2 : Hp → Nat → Int32 → Option (Hp)) (h : Hp) (x0 : Nat) (x1 : Int32)  : Option (Hp) :=
f_Model_leaks_L36  k2 FU h x0 x1 (0 : Int32)

set_option maxRecDepth 20000 in
set_option maxHeartbeats 4000000 in
theorem f_Model_leaks_b34_ok {l : Launch} {X : Nat × (Nat → Int32)} (hst : l.stackTraces = false) {d : Nat} (hd : 4 ≤ d)   {k2 : Hp → Nat → Int32 → Option (Hp)} (hk2 : ∀ (h : Hp) (x0 : Nat) (x1 : Int32)  (r : Hp), k2 h x0 x1 = some r → Rn l X mX11_leaks d 2 [(0, .ref x0), (1, .int x1)] [] h (eV r) r) {h : Hp} {x0 : Nat} {x1 : Int32}  {r : Hp} (E : f_Model_leaks_b34  k2 h x0 x1 = some r) : Rn l X mX11_leaks d 34 [(0, .ref x0), (1, .int x1)] [] h (eV r) r := by
  unfold f_Model_leaks_b34 at E
  refine Rn.iconst (pc' := 35) (v := (0 : Int32)) (hv := by decide) dX11_leaks_34 rfl ?_
  refine Rn.istore_n (pc' := 36) (L' := [(2, .int (0 : Int32)), (0, .ref x0), (1, .int x1)]) dX11_leaks_35 rfl (by decide) rfl rfl ?_
  refine Rn.sub [1, 2, 0] rfl ?_
  exact f_Model_leaks_L36_ok hst hd  hk2 FU _ _ _ _ _ E
def f_Model_leaks_b2  (k2 : Hp → Nat → Int32 → Option (Hp)) (h : Hp) (x0 : Nat) (x1 : Int32)  : Option (Hp) :=
if hS h x0 = 11 then (
bI (f_Model_cisterns h x0) fun v2 h3 =>
if v2 ≤ x1 then (
some h3

) else (
if hS h3 x0 = 11 then (
bI (f_Model_ofCistern h3 x0 x1 (1 : Int32)) fun v7 h8 =>
if v7 = (3 : Int32) then (
if hS h8 x0 = 11 then (
bI (f_Model_measures h8 x0 x1) fun v12 h13 =>
if v12 ≤ 0 then (
f_Model_leaks_b34  k2 h13 x0 x1

) else (
if hS h13 x0 = 11 then (
bV (f_Model_drops h13 x0 x1 (-1 : Int32)) fun h18 =>
f_Model_leaks_b34  k2 h18 x0 x1
) else none
)
) else none
) else (
f_Model_leaks_b34  k2 h8 x0 x1

)
) else none
)
) else none
set_option maxRecDepth 20000 in
set_option maxHeartbeats 4000000 in
theorem f_Model_leaks_b2_ok {l : Launch} {X : Nat × (Nat → Int32)} (hst : l.stackTraces = false) {d : Nat} (hd : 4 ≤ d)   {k2 : Hp → Nat → Int32 → Option (Hp)} (hk2 : ∀ (h : Hp) (x0 : Nat) (x1 : Int32)  (r : Hp), k2 h x0 x1 = some r → Rn l X mX11_leaks d 2 [(0, .ref x0), (1, .int x1)] [] h (eV r) r) {h : Hp} {x0 : Nat} {x1 : Int32}  {r : Hp} (E : f_Model_leaks_b2  k2 h x0 x1 = some r) : Rn l X mX11_leaks d 2 [(0, .ref x0), (1, .int x1)] [] h (eV r) r := by
  unfold f_Model_leaks_b2 at E
  refine Rn.iload_n (pc' := 3) dX11_leaks_2 rfl 1 rfl rfl ?_
  refine Rn.aload_n (pc' := 4) dX11_leaks_3 rfl 0 rfl rfl ?_
  obtain ⟨g1, E⟩ := gd_of E
  obtain ⟨v2, h3, e4, E⟩ := bI_of E
  refine Rn.callV1 (pc' := 7) (As := []) (rest := [.int x1]) (f_Model_cisterns_ok hst e4) (Nat.le_trans (by decide) hd) rfl kb_X11_52 ki_X11_cisterns rfl g1 rfl rfl (Nat.le_of_ble_eq_true rfl) dX11_leaks_4 rfl rfl ?_
  refine Rn.icmp_ge (pc' := 10) (tgt := 77) dX11_leaks_7 (by decide) rfl (fun c5 => ?_) (fun c5 => ?_)
  · replace E := (if_of E).1 c5
    cases E
    exact Rn.vret rfl dX11_leaks_77
  · replace E := (if_of E).2 c5
    refine Rn.aload_n (pc' := 11) dX11_leaks_10 rfl 0 rfl rfl ?_
    refine Rn.iload_n (pc' := 12) dX11_leaks_11 rfl 1 rfl rfl ?_
    refine Rn.iconst (pc' := 13) (v := (1 : Int32)) (hv := by decide) dX11_leaks_12 rfl ?_
    obtain ⟨g6, E⟩ := gd_of E
    obtain ⟨v7, h8, e9, E⟩ := bI_of E
    refine Rn.callV1 (pc' := 16) (As := [.int x1, .int (1 : Int32)]) (rest := []) (f_Model_ofCistern_ok hst e9) (Nat.le_trans (by decide) hd) rfl kb_X11_69 ki_X11_ofCistern rfl g6 rfl rfl (Nat.le_of_ble_eq_true rfl) dX11_leaks_13 rfl rfl ?_
    refine Rn.iconst (pc' := 17) (v := (3 : Int32)) (hv := by decide) dX11_leaks_16 rfl ?_
    refine Rn.icmp_ne (pc' := 20) (tgt := 34) dX11_leaks_17 (by decide) rfl (fun c10 => ?_) (fun c10 => ?_)
    · replace E := (if_of E).2 c10
      exact f_Model_leaks_b34_ok hst hd  hk2 E
    · replace E := (if_of E).1 c10
      refine Rn.aload_n (pc' := 21) dX11_leaks_20 rfl 0 rfl rfl ?_
      refine Rn.iload_n (pc' := 22) dX11_leaks_21 rfl 1 rfl rfl ?_
      obtain ⟨g11, E⟩ := gd_of E
      obtain ⟨v12, h13, e14, E⟩ := bI_of E
      refine Rn.callV1 (pc' := 25) (As := [.int x1]) (rest := []) (f_Model_measures_ok hst e14) (Nat.le_trans (by decide) hd) rfl kb_X11_75 ki_X11_measures rfl g11 rfl rfl (Nat.le_of_ble_eq_true rfl) dX11_leaks_22 rfl rfl ?_
      refine Rn.if_le (pc' := 28) (tgt := 34) dX11_leaks_25 (by decide) rfl (fun c15 => ?_) (fun c15 => ?_)
      · replace E := (if_of E).1 c15
        exact f_Model_leaks_b34_ok hst hd  hk2 E
      · replace E := (if_of E).2 c15
        refine Rn.aload_n (pc' := 29) dX11_leaks_28 rfl 0 rfl rfl ?_
        refine Rn.iload_n (pc' := 30) dX11_leaks_29 rfl 1 rfl rfl ?_
        refine Rn.iconst (pc' := 31) (v := (-1 : Int32)) (hv := by decide) dX11_leaks_30 rfl ?_
        obtain ⟨g16, E⟩ := gd_of E
        obtain ⟨h18, e19, E⟩ := bV_of E
        refine Rn.callV1 (pc' := 34) (As := [.int x1, .int (-1 : Int32)]) (rest := []) (f_Model_drops_ok hst e19) (Nat.le_trans (by decide) hd) rfl kb_X11_305 ki_X11_drops rfl g16 rfl rfl (Nat.le_of_ble_eq_true rfl) dX11_leaks_31 rfl rfl ?_
        exact f_Model_leaks_b34_ok hst hd  hk2 E
def f_Model_leaks_L2   (n : Nat) : Hp → Nat → Int32 → Option (Hp) := Nat.rec (motive := fun _ => Hp → Nat → Int32 → Option (Hp)) (fun _ _ _ => none) (fun _ rec => f_Model_leaks_b2   rec) n
theorem f_Model_leaks_L2_ok {l : Launch} {X : Nat × (Nat → Int32)} (hst : l.stackTraces = false) {d : Nat} (hd : 4 ≤ d)     : ∀ (n : Nat) (h : Hp) (x0 : Nat) (x1 : Int32)  (r : Hp), f_Model_leaks_L2   n h x0 x1 = some r → Rn l X mX11_leaks d 2 [(0, .ref x0), (1, .int x1)] [] h (eV r) r := by
  intro n
  induction n with
  | zero => intro h x0 x1 r E; cases E
  | succ n ih => intro h x0 x1 r E; exact f_Model_leaks_b2_ok hst hd   ih E
def f_Model_leaks_b0   (h : Hp) (x0 : Nat)  : Option (Hp) :=
f_Model_leaks_L2   FU h x0 (0 : Int32)

set_option maxRecDepth 20000 in
set_option maxHeartbeats 4000000 in
theorem f_Model_leaks_b0_ok {l : Launch} {X : Nat × (Nat → Int32)} (hst : l.stackTraces = false) {d : Nat} (hd : 4 ≤ d)     {h : Hp} {x0 : Nat}  {r : Hp} (E : f_Model_leaks_b0   h x0 = some r) : Rn l X mX11_leaks d 0 [(0, .ref x0)] [] h (eV r) r := by
  unfold f_Model_leaks_b0 at E
  refine Rn.iconst (pc' := 1) (v := (0 : Int32)) (hv := by decide) dX11_leaks_0 rfl ?_
  refine Rn.istore_n (pc' := 2) (L' := [(1, .int (0 : Int32)), (0, .ref x0)]) dX11_leaks_1 rfl (by decide) rfl rfl ?_
  refine Rn.sub [1, 0] rfl ?_
  exact f_Model_leaks_L2_ok hst hd   FU _ _ _ _ E
def f_Model_leaks (h : Hp) (x0 : Nat) : Option (Hp) := f_Model_leaks_b0  h x0
theorem f_Model_leaks_ok {l : Launch} {X : Nat × (Nat → Int32)} (hst : l.stackTraces = false) {h : Hp} {x0 : Nat} {r : Hp} (E : f_Model_leaks h x0 = some r) : MC l X yX11_leaks mX11_leaks 4 [.ref x0] h (eV r) r :=
  MC.body (by decide +kernel) rfl (by decide) hst (Nat.le_of_ble_eq_true rfl) (f_Model_leaks_b0_ok hst (Nat.le_refl _) E)
abbrev mX11_factOf : MI := (RX11, cX11_factOf, 5, (some Jvm.ClassFile.FieldType.int), [], false)
theorem ws_X11_factOf : ∀ w ∈ wsM yX11_factOf mX11_factOf, w ∈ gw := List.forall_mem_cons.mpr ⟨gw_at 1763 (by decide +kernel) (by decide +kernel), fun _ h => h⟩
theorem kb_X11_271 : KB RX11 271 yJ9_max_7cf53 mJ9_max_7cf53 2 := ⟨gw_at 1755 (by decide +kernel) (by decide +kernel), gw_at 128 (by decide +kernel) (by decide +kernel), trivial, ws_J9_max_7cf53, by decide +kernel, by decide +kernel, by decide +kernel, by decide⟩
def f_Model_factOf_b0   (h : Hp) (x0 : Nat) (x1 : Int32) (x2 : Int32) (x3 : Int32) (x4 : Int32)  : Option (Int32 × Hp) :=
if x1 = (0 : Int32) then (
some (x4, h)

) else (
if x1 = (1 : Int32) then (
if hS h x0 = 11 then (
bI (f_Model_now h x0) fun v6 h7 =>
bI (f_Math_max h7 (0 : Int32) (v6 - x4)) fun v9 h10 =>
some (v9, h10)
) else none
) else (
if x1 = (2 : Int32) then (
if hS h x0 = 11 then (
if hS h (hR h x0 1) = 20 then (
if ib ((35 : Int32) + x4) (hL h (hR h x0 1)) = true then (
some ((hI h (hR h x0 1) (ix ((35 : Int32) + x4))), h)
) else none) else none) else none
) else (
if x1 = (3 : Int32) then (
if hS h x0 = 11 then (
if hS h (hR h x0 1) = 20 then (
if ib (4 : Int32) (hL h (hR h x0 1)) = true then (
some ((jrem (hI h (hR h x0 1) (ix (4 : Int32))) (12 : Int32)), h)
) else none) else none) else none
) else (
if x1 = (4 : Int32) then (
if hS h x0 = 11 then (
bI (f_Model_layerOf h x0 x3 x4) fun v22 h23 =>
some (v22, h23)
) else none
) else (
if x1 = (5 : Int32) then (
if hS h x0 = 11 then (
bI (f_Model_ofCistern h x0 x3 (1 : Int32)) fun v27 h28 =>
if v27 = (1 : Int32) then (
some ((1 : Int32), h28)

) else (
some ((0 : Int32), h28)

)
) else none
) else (
if x1 = (6 : Int32) then (
if hS h x0 = 11 then (
bI (f_Model_ofCistern h x0 x3 (1 : Int32)) fun v33 h34 =>
if v33 = (2 : Int32) then (
some ((1 : Int32), h34)

) else (
some ((0 : Int32), h34)

)
) else none
) else (
if x1 = (7 : Int32) then (
if hS h x0 = 11 then (
bI (f_Model_ofCistern h x0 x3 (1 : Int32)) fun v39 h40 =>
if v39 = (3 : Int32) then (
some ((1 : Int32), h40)

) else (
some ((0 : Int32), h40)

)
) else none
) else (
if x1 = (8 : Int32) then (
if hS h x0 = 11 then (
bI (f_Model_ofCistern h x0 x3 (2 : Int32)) fun v45 h46 =>
some (v45, h46)
) else none
) else (
some (x2, h)

)))))))))

set_option maxRecDepth 20000 in
set_option maxHeartbeats 4000000 in
theorem f_Model_factOf_b0_ok {l : Launch} {X : Nat × (Nat → Int32)} (hst : l.stackTraces = false) {d : Nat} (hd : 2 ≤ d)     {h : Hp} {x0 : Nat} {x1 : Int32} {x2 : Int32} {x3 : Int32} {x4 : Int32}  {r : Int32 × Hp} (E : f_Model_factOf_b0   h x0 x1 x2 x3 x4 = some r) : Rn l X mX11_factOf d 0 [(0, .ref x0), (1, .int x1), (2, .int x2), (3, .int x3), (4, .int x4)] [] h (eI r) r.2 := by
  unfold f_Model_factOf_b0 at E
  refine Rn.iload_n (pc' := 1) dX11_factOf_0 rfl 1 rfl rfl ?_
  by_cases c3 : x1 = (0 : Int32)
  · replace E := (if_of E).1 c3
    skip
    refine Rn.tabIn (x := x1) (tgt := 52) dX11_factOf_1 (by rw [c3]; decide) (by rw [c3]; decide) (by rw [c3]; rfl) (by decide) ?_
    refine Rn.iload (pc' := 54) dX11_factOf_52 4 rfl rfl ?_
    cases E
    exact Rn.zret rfl rfl dX11_factOf_54
  replace E := (if_of E).2 c3
  by_cases c4 : x1 = (1 : Int32)
  · replace E := (if_of E).1 c4
    skip
    refine Rn.tabIn (x := x1) (tgt := 55) dX11_factOf_1 (by rw [c4]; decide) (by rw [c4]; decide) (by rw [c4]; rfl) (by decide) ?_
    refine Rn.iconst (pc' := 56) (v := (0 : Int32)) (hv := by decide) dX11_factOf_55 rfl ?_
    refine Rn.aload_n (pc' := 57) dX11_factOf_56 rfl 0 rfl rfl ?_
    obtain ⟨g5, E⟩ := gd_of E
    obtain ⟨v6, h7, e8, E⟩ := bI_of E
    refine Rn.callV1 (pc' := 60) (As := []) (rest := [.int (0 : Int32)]) (f_Model_now_ok hst e8) (Nat.le_trans (by decide) hd) rfl kb_X11_268 ki_X11_now rfl g5 rfl rfl (Nat.le_of_ble_eq_true rfl) dX11_factOf_57 rfl rfl ?_
    refine Rn.iload (pc' := 62) dX11_factOf_60 4 rfl rfl ?_
    refine Rn.isub (pc' := 63) dX11_factOf_62 rfl ?_
    obtain ⟨v9, h10, e11, E⟩ := bI_of E
    refine Rn.callS1 (pc' := 66) (As := [.int (0 : Int32), .int (v6 - x4)]) (rest := []) (f_Math_max_ok hst e11) (Nat.le_trans (by decide) hd) rfl kb_X11_271 ks_J9_max_7cf53 rfl rfl (Nat.le_of_ble_eq_true rfl) dX11_factOf_63 rfl rfl ?_
    cases E
    exact Rn.zret rfl rfl dX11_factOf_66
  replace E := (if_of E).2 c4
  by_cases c12 : x1 = (2 : Int32)
  · replace E := (if_of E).1 c12
    skip
    refine Rn.tabIn (x := x1) (tgt := 67) dX11_factOf_1 (by rw [c12]; decide) (by rw [c12]; decide) (by rw [c12]; rfl) (by decide) ?_
    refine Rn.aload_n (pc' := 68) dX11_factOf_67 rfl 0 rfl rfl ?_
    obtain ⟨g13, E⟩ := gd_of E
    refine Rn.getR (pc' := 71) fl_X11_13_10 g13 rfl dX11_factOf_68 rfl ?_
    refine Rn.bipush (pc' := 73) (v := (35 : Int32)) (hv := by decide) dX11_factOf_71 rfl ?_
    refine Rn.iload (pc' := 75) dX11_factOf_73 4 rfl rfl ?_
    refine Rn.iadd (pc' := 76) dX11_factOf_75 rfl ?_
    obtain ⟨g14, E⟩ := gd_of E
    obtain ⟨g15, E⟩ := gd_of E
    refine Rn.iald (pc' := 77) g14 g15 dX11_factOf_76 rfl ?_
    cases E
    exact Rn.zret rfl rfl dX11_factOf_77
  replace E := (if_of E).2 c12
  by_cases c16 : x1 = (3 : Int32)
  · replace E := (if_of E).1 c16
    skip
    refine Rn.tabIn (x := x1) (tgt := 78) dX11_factOf_1 (by rw [c16]; decide) (by rw [c16]; decide) (by rw [c16]; rfl) (by decide) ?_
    refine Rn.aload_n (pc' := 79) dX11_factOf_78 rfl 0 rfl rfl ?_
    obtain ⟨g17, E⟩ := gd_of E
    refine Rn.getR (pc' := 82) fl_X11_13_10 g17 rfl dX11_factOf_79 rfl ?_
    refine Rn.iconst (pc' := 83) (v := (4 : Int32)) (hv := by decide) dX11_factOf_82 rfl ?_
    obtain ⟨g18, E⟩ := gd_of E
    obtain ⟨g19, E⟩ := gd_of E
    refine Rn.iald (pc' := 84) g18 g19 dX11_factOf_83 rfl ?_
    refine Rn.bipush (pc' := 86) (v := (12 : Int32)) (hv := by decide) dX11_factOf_84 rfl ?_
    refine Rn.irem (pc' := 87) (hne := (by decide)) dX11_factOf_86 rfl ?_
    cases E
    exact Rn.zret rfl rfl dX11_factOf_87
  replace E := (if_of E).2 c16
  by_cases c20 : x1 = (4 : Int32)
  · replace E := (if_of E).1 c20
    skip
    refine Rn.tabIn (x := x1) (tgt := 88) dX11_factOf_1 (by rw [c20]; decide) (by rw [c20]; decide) (by rw [c20]; rfl) (by decide) ?_
    refine Rn.aload_n (pc' := 89) dX11_factOf_88 rfl 0 rfl rfl ?_
    refine Rn.iload_n (pc' := 90) dX11_factOf_89 rfl 3 rfl rfl ?_
    refine Rn.iload (pc' := 92) dX11_factOf_90 4 rfl rfl ?_
    obtain ⟨g21, E⟩ := gd_of E
    obtain ⟨v22, h23, e24, E⟩ := bI_of E
    refine Rn.callV1 (pc' := 95) (As := [.int x3, .int x4]) (rest := []) (f_Model_layerOf_ok hst e24) (Nat.le_trans (by decide) hd) rfl kb_X11_72 ki_X11_layerOf rfl g21 rfl rfl (Nat.le_of_ble_eq_true rfl) dX11_factOf_92 rfl rfl ?_
    cases E
    exact Rn.zret rfl rfl dX11_factOf_95
  replace E := (if_of E).2 c20
  by_cases c25 : x1 = (5 : Int32)
  · replace E := (if_of E).1 c25
    skip
    refine Rn.tabIn (x := x1) (tgt := 96) dX11_factOf_1 (by rw [c25]; decide) (by rw [c25]; decide) (by rw [c25]; rfl) (by decide) ?_
    refine Rn.aload_n (pc' := 97) dX11_factOf_96 rfl 0 rfl rfl ?_
    refine Rn.iload_n (pc' := 98) dX11_factOf_97 rfl 3 rfl rfl ?_
    refine Rn.iconst (pc' := 99) (v := (1 : Int32)) (hv := by decide) dX11_factOf_98 rfl ?_
    obtain ⟨g26, E⟩ := gd_of E
    obtain ⟨v27, h28, e29, E⟩ := bI_of E
    refine Rn.callV1 (pc' := 102) (As := [.int x3, .int (1 : Int32)]) (rest := []) (f_Model_ofCistern_ok hst e29) (Nat.le_trans (by decide) hd) rfl kb_X11_69 ki_X11_ofCistern rfl g26 rfl rfl (Nat.le_of_ble_eq_true rfl) dX11_factOf_99 rfl rfl ?_
    refine Rn.iconst (pc' := 103) (v := (1 : Int32)) (hv := by decide) dX11_factOf_102 rfl ?_
    refine Rn.icmp_ne (pc' := 106) (tgt := 110) dX11_factOf_103 (by decide) rfl (fun c30 => ?_) (fun c30 => ?_)
    · replace E := (if_of E).2 c30
      refine Rn.iconst (pc' := 111) (v := (0 : Int32)) (hv := by decide) dX11_factOf_110 rfl ?_
      cases E
      exact Rn.zret rfl rfl dX11_factOf_111
    · replace E := (if_of E).1 c30
      refine Rn.iconst (pc' := 107) (v := (1 : Int32)) (hv := by decide) dX11_factOf_106 rfl ?_
      refine Rn.goto (pc' := 111) dX11_factOf_107 (by decide) ?_
      cases E
      exact Rn.zret rfl rfl dX11_factOf_111
  replace E := (if_of E).2 c25
  by_cases c31 : x1 = (6 : Int32)
  · replace E := (if_of E).1 c31
    skip
    refine Rn.tabIn (x := x1) (tgt := 112) dX11_factOf_1 (by rw [c31]; decide) (by rw [c31]; decide) (by rw [c31]; rfl) (by decide) ?_
    refine Rn.aload_n (pc' := 113) dX11_factOf_112 rfl 0 rfl rfl ?_
    refine Rn.iload_n (pc' := 114) dX11_factOf_113 rfl 3 rfl rfl ?_
    refine Rn.iconst (pc' := 115) (v := (1 : Int32)) (hv := by decide) dX11_factOf_114 rfl ?_
    obtain ⟨g32, E⟩ := gd_of E
    obtain ⟨v33, h34, e35, E⟩ := bI_of E
    refine Rn.callV1 (pc' := 118) (As := [.int x3, .int (1 : Int32)]) (rest := []) (f_Model_ofCistern_ok hst e35) (Nat.le_trans (by decide) hd) rfl kb_X11_69 ki_X11_ofCistern rfl g32 rfl rfl (Nat.le_of_ble_eq_true rfl) dX11_factOf_115 rfl rfl ?_
    refine Rn.iconst (pc' := 119) (v := (2 : Int32)) (hv := by decide) dX11_factOf_118 rfl ?_
    refine Rn.icmp_ne (pc' := 122) (tgt := 126) dX11_factOf_119 (by decide) rfl (fun c36 => ?_) (fun c36 => ?_)
    · replace E := (if_of E).2 c36
      refine Rn.iconst (pc' := 127) (v := (0 : Int32)) (hv := by decide) dX11_factOf_126 rfl ?_
      cases E
      exact Rn.zret rfl rfl dX11_factOf_127
    · replace E := (if_of E).1 c36
      refine Rn.iconst (pc' := 123) (v := (1 : Int32)) (hv := by decide) dX11_factOf_122 rfl ?_
      refine Rn.goto (pc' := 127) dX11_factOf_123 (by decide) ?_
      cases E
      exact Rn.zret rfl rfl dX11_factOf_127
  replace E := (if_of E).2 c31
  by_cases c37 : x1 = (7 : Int32)
  · replace E := (if_of E).1 c37
    skip
    refine Rn.tabIn (x := x1) (tgt := 128) dX11_factOf_1 (by rw [c37]; decide) (by rw [c37]; decide) (by rw [c37]; rfl) (by decide) ?_
    refine Rn.aload_n (pc' := 129) dX11_factOf_128 rfl 0 rfl rfl ?_
    refine Rn.iload_n (pc' := 130) dX11_factOf_129 rfl 3 rfl rfl ?_
    refine Rn.iconst (pc' := 131) (v := (1 : Int32)) (hv := by decide) dX11_factOf_130 rfl ?_
    obtain ⟨g38, E⟩ := gd_of E
    obtain ⟨v39, h40, e41, E⟩ := bI_of E
    refine Rn.callV1 (pc' := 134) (As := [.int x3, .int (1 : Int32)]) (rest := []) (f_Model_ofCistern_ok hst e41) (Nat.le_trans (by decide) hd) rfl kb_X11_69 ki_X11_ofCistern rfl g38 rfl rfl (Nat.le_of_ble_eq_true rfl) dX11_factOf_131 rfl rfl ?_
    refine Rn.iconst (pc' := 135) (v := (3 : Int32)) (hv := by decide) dX11_factOf_134 rfl ?_
    refine Rn.icmp_ne (pc' := 138) (tgt := 142) dX11_factOf_135 (by decide) rfl (fun c42 => ?_) (fun c42 => ?_)
    · replace E := (if_of E).2 c42
      refine Rn.iconst (pc' := 143) (v := (0 : Int32)) (hv := by decide) dX11_factOf_142 rfl ?_
      cases E
      exact Rn.zret rfl rfl dX11_factOf_143
    · replace E := (if_of E).1 c42
      refine Rn.iconst (pc' := 139) (v := (1 : Int32)) (hv := by decide) dX11_factOf_138 rfl ?_
      refine Rn.goto (pc' := 143) dX11_factOf_139 (by decide) ?_
      cases E
      exact Rn.zret rfl rfl dX11_factOf_143
  replace E := (if_of E).2 c37
  by_cases c43 : x1 = (8 : Int32)
  · replace E := (if_of E).1 c43
    skip
    refine Rn.tabIn (x := x1) (tgt := 144) dX11_factOf_1 (by rw [c43]; decide) (by rw [c43]; decide) (by rw [c43]; rfl) (by decide) ?_
    refine Rn.aload_n (pc' := 145) dX11_factOf_144 rfl 0 rfl rfl ?_
    refine Rn.iload_n (pc' := 146) dX11_factOf_145 rfl 3 rfl rfl ?_
    refine Rn.iconst (pc' := 147) (v := (2 : Int32)) (hv := by decide) dX11_factOf_146 rfl ?_
    obtain ⟨g44, E⟩ := gd_of E
    obtain ⟨v45, h46, e47, E⟩ := bI_of E
    refine Rn.callV1 (pc' := 150) (As := [.int x3, .int (2 : Int32)]) (rest := []) (f_Model_ofCistern_ok hst e47) (Nat.le_trans (by decide) hd) rfl kb_X11_69 ki_X11_ofCistern rfl g44 rfl rfl (Nat.le_of_ble_eq_true rfl) dX11_factOf_147 rfl rfl ?_
    cases E
    exact Rn.zret rfl rfl dX11_factOf_150
  replace E := (if_of E).2 c43
  refine Rn.tabOut (x := x1) (tgt := 151) dX11_factOf_1 (tab_out fun z hz hq => ?_) (by decide) ?_
  · have hz2 : z = 0 ∨ z = 1 ∨ z = 2 ∨ z = 3 ∨ z = 4 ∨ z = 5 ∨ z = 6 ∨ z = 7 ∨ z = 8 := by omega
    rcases hz2 with rfl | rfl | rfl | rfl | rfl | rfl | rfl | rfl | rfl
    · exact c3 hz
    · exact c4 hz
    · exact c12 hz
    · exact c16 hz
    · exact c20 hz
    · exact c25 hz
    · exact c31 hz
    · exact c37 hz
    · exact c43 hz
  · refine Rn.iload_n (pc' := 152) dX11_factOf_151 rfl 2 rfl rfl ?_
    cases E
    exact Rn.zret rfl rfl dX11_factOf_152
def f_Model_factOf (h : Hp) (x0 : Nat) (x1 : Int32) (x2 : Int32) (x3 : Int32) (x4 : Int32) : Option (Int32 × Hp) := f_Model_factOf_b0  h x0 x1 x2 x3 x4
theorem f_Model_factOf_ok {l : Launch} {X : Nat × (Nat → Int32)} (hst : l.stackTraces = false) {h : Hp} {x0 : Nat} {x1 : Int32} {x2 : Int32} {x3 : Int32} {x4 : Int32} {r : Int32 × Hp} (E : f_Model_factOf h x0 x1 x2 x3 x4 = some r) : MC l X yX11_factOf mX11_factOf 2 [.ref x0, .int x1, .int x2, .int x3, .int x4] h (eI r) r.2 :=
  MC.body (by decide +kernel) rfl (by decide) hst (Nat.le_of_ble_eq_true rfl) (f_Model_factOf_b0_ok hst (Nat.le_refl _) E)
abbrev mX11_holdsLine : MI := (RX11, cX11_holdsLine, 11, (some Jvm.ClassFile.FieldType.boolean), [], false)
theorem ws_X11_holdsLine : ∀ w ∈ wsM yX11_holdsLine mX11_holdsLine, w ∈ gw := List.forall_mem_cons.mpr ⟨gw_at 1759 (by decide +kernel) (by decide +kernel), fun _ h => h⟩
def f_Model_holdsLine_b265  (k23 : Hp → Nat → Int32 → Int32 → Int32 → Int32 → Int32 → Option (Int32 × Hp)) (h : Hp) (x0 : Nat) (x2 : Int32) (x3 : Int32) (x4 : Int32) (x5 : Int32) (x6 : Int32)  : Option (Int32 × Hp) :=
k23 h x0 x2 x3 x4 x5 (x6 + (1 : Int32))

set_option maxRecDepth 20000 in
set_option maxHeartbeats 4000000 in
theorem f_Model_holdsLine_b265_ok {l : Launch} {X : Nat × (Nat → Int32)} (hst : l.stackTraces = false) {d : Nat} (hd : 3 ≤ d)   {k23 : Hp → Nat → Int32 → Int32 → Int32 → Int32 → Int32 → Option (Int32 × Hp)} (hk23 : ∀ (h : Hp) (x0 : Nat) (x2 : Int32) (x3 : Int32) (x4 : Int32) (x5 : Int32) (x6 : Int32)  (r : Int32 × Hp), k23 h x0 x2 x3 x4 x5 x6 = some r → Rn l X mX11_holdsLine d 23 [(0, .ref x0), (2, .int x2), (3, .int x3), (4, .int x4), (5, .int x5), (6, .int x6)] [] h (eI r) r.2) {h : Hp} {x0 : Nat} {x2 : Int32} {x3 : Int32} {x4 : Int32} {x5 : Int32} {x6 : Int32}  {r : Int32 × Hp} (E : f_Model_holdsLine_b265  k23 h x0 x2 x3 x4 x5 x6 = some r) : Rn l X mX11_holdsLine d 265 [(0, .ref x0), (2, .int x2), (3, .int x3), (4, .int x4), (5, .int x5), (6, .int x6)] [] h (eI r) r.2 := by
  unfold f_Model_holdsLine_b265 at E
  refine Rn.iinc (pc' := 268) (v := (x6 + (1 : Int32))) (L' := [(6, .int (x6 + (1 : Int32))), (0, .ref x0), (2, .int x2), (3, .int x3), (4, .int x4), (5, .int x5)]) dX11_holdsLine_265 5 rfl rfl (by decide) rfl rfl ?_
  refine Rn.goto (pc' := 23) dX11_holdsLine_268 (by decide) ?_
  refine Rn.sub [1, 2, 3, 4, 5, 0] rfl ?_
  exact hk23 _ _ _ _ _ _ _ _ E
def f_Model_holdsLine_b264  (k23 : Hp → Nat → Int32 → Int32 → Int32 → Int32 → Int32 → Option (Int32 × Hp)) (h : Hp) (x0 : Nat) (x2 : Int32) (x3 : Int32) (x4 : Int32) (x5 : Int32) (x6 : Int32) (s0 : Nat) (s1 : Int32) (s2 : Int32) : Option (Int32 × Hp) :=
if hS h s0 = 20 then (
if ib s1 (hL h s0) = true then (
wr (sI h s0 (ix s1) s2) fun h3 =>
f_Model_holdsLine_b265  k23 h3 x0 x2 x3 x4 x5 x6
) else none) else none
set_option maxRecDepth 20000 in
set_option maxHeartbeats 4000000 in
theorem f_Model_holdsLine_b264_ok {l : Launch} {X : Nat × (Nat → Int32)} (hst : l.stackTraces = false) {d : Nat} (hd : 3 ≤ d)   {k23 : Hp → Nat → Int32 → Int32 → Int32 → Int32 → Int32 → Option (Int32 × Hp)} (hk23 : ∀ (h : Hp) (x0 : Nat) (x2 : Int32) (x3 : Int32) (x4 : Int32) (x5 : Int32) (x6 : Int32)  (r : Int32 × Hp), k23 h x0 x2 x3 x4 x5 x6 = some r → Rn l X mX11_holdsLine d 23 [(0, .ref x0), (2, .int x2), (3, .int x3), (4, .int x4), (5, .int x5), (6, .int x6)] [] h (eI r) r.2) {h : Hp} {x0 : Nat} {x2 : Int32} {x3 : Int32} {x4 : Int32} {x5 : Int32} {x6 : Int32} {s0 : Nat} {s1 : Int32} {s2 : Int32} {r : Int32 × Hp} (E : f_Model_holdsLine_b264  k23 h x0 x2 x3 x4 x5 x6 s0 s1 s2 = some r) : Rn l X mX11_holdsLine d 264 [(0, .ref x0), (2, .int x2), (3, .int x3), (4, .int x4), (5, .int x5), (6, .int x6)] [.int s2, .int s1, .ref s0] h (eI r) r.2 := by
  unfold f_Model_holdsLine_b264 at E
  obtain ⟨g1, E⟩ := gd_of E
  obtain ⟨g2, E⟩ := gd_of E
  refine Rn.iast (pc' := 265) g1 g2 dX11_holdsLine_264 rfl ?_
  replace E := wr_of E
  generalize eh4 : sI h s0 (ix s1) s2 = h3 at E ⊢
  exact f_Model_holdsLine_b265_ok hst hd  hk23 E
def f_Model_holdsLine_b229  (k23 : Hp → Nat → Int32 → Int32 → Int32 → Int32 → Int32 → Option (Int32 × Hp)) (h : Hp) (x0 : Nat) (x2 : Int32) (x3 : Int32) (x4 : Int32) (x5 : Int32) (x6 : Int32) (x7 : Int32) (x8 : Int32) (x9 : Int32) (s0 : Int32) : Option (Int32 × Hp) :=
if hS h x0 = 11 then (
if x7 = (10 : Int32) then (
f_Model_holdsLine_b264  k23 h x0 x2 x3 x4 x5 x6 (hR h x0 17) (x4 - (1 : Int32)) (x8 + x9)

) else (
if s0 = 0 then (
f_Model_holdsLine_b264  k23 h x0 x2 x3 x4 x5 x6 (hR h x0 17) (x4 - (1 : Int32)) (0 : Int32)

) else (
f_Model_holdsLine_b264  k23 h x0 x2 x3 x4 x5 x6 (hR h x0 17) (x4 - (1 : Int32)) (1 : Int32)

)

)
) else none
set_option maxRecDepth 20000 in
set_option maxHeartbeats 4000000 in
theorem f_Model_holdsLine_b229_ok {l : Launch} {X : Nat × (Nat → Int32)} (hst : l.stackTraces = false) {d : Nat} (hd : 3 ≤ d)   {k23 : Hp → Nat → Int32 → Int32 → Int32 → Int32 → Int32 → Option (Int32 × Hp)} (hk23 : ∀ (h : Hp) (x0 : Nat) (x2 : Int32) (x3 : Int32) (x4 : Int32) (x5 : Int32) (x6 : Int32)  (r : Int32 × Hp), k23 h x0 x2 x3 x4 x5 x6 = some r → Rn l X mX11_holdsLine d 23 [(0, .ref x0), (2, .int x2), (3, .int x3), (4, .int x4), (5, .int x5), (6, .int x6)] [] h (eI r) r.2) {h : Hp} {x0 : Nat} {x2 : Int32} {x3 : Int32} {x4 : Int32} {x5 : Int32} {x6 : Int32} {x7 : Int32} {x8 : Int32} {x9 : Int32} {s0 : Int32} {r : Int32 × Hp} (E : f_Model_holdsLine_b229  k23 h x0 x2 x3 x4 x5 x6 x7 x8 x9 s0 = some r) : Rn l X mX11_holdsLine d 229 [(0, .ref x0), (2, .int x2), (3, .int x3), (4, .int x4), (5, .int x5), (6, .int x6), (7, .int x7), (8, .int x8), (9, .int x9)] [.int s0] h (eI r) r.2 := by
  unfold f_Model_holdsLine_b229 at E
  refine Rn.istore (pc' := 231) (L' := [(10, .int s0), (0, .ref x0), (2, .int x2), (3, .int x3), (4, .int x4), (5, .int x5), (6, .int x6), (7, .int x7), (8, .int x8), (9, .int x9)]) dX11_holdsLine_229 (by decide) rfl rfl ?_
  refine Rn.aload_n (pc' := 232) dX11_holdsLine_231 rfl 1 rfl rfl ?_
  obtain ⟨g1, E⟩ := gd_of E
  refine Rn.getR (pc' := 235) fl_X11_39_10 g1 rfl dX11_holdsLine_232 rfl ?_
  refine Rn.iload (pc' := 237) dX11_holdsLine_235 4 rfl rfl ?_
  refine Rn.iconst (pc' := 238) (v := (1 : Int32)) (hv := by decide) dX11_holdsLine_237 rfl ?_
  refine Rn.isub (pc' := 239) dX11_holdsLine_238 rfl ?_
  refine Rn.iload (pc' := 241) dX11_holdsLine_239 7 rfl rfl ?_
  refine Rn.bipush (pc' := 243) (v := (10 : Int32)) (hv := by decide) dX11_holdsLine_241 rfl ?_
  refine Rn.icmp_ne (pc' := 246) (tgt := 254) dX11_holdsLine_243 (by decide) rfl (fun c2 => ?_) (fun c2 => ?_)
  · replace E := (if_of E).2 c2
    refine Rn.iload (pc' := 256) dX11_holdsLine_254 0 rfl rfl ?_
    refine Rn.if_eq (pc' := 259) (tgt := 263) dX11_holdsLine_256 (by decide) rfl (fun c3 => ?_) (fun c3 => ?_)
    · replace E := (if_of E).1 c3
      refine Rn.iconst (pc' := 264) (v := (0 : Int32)) (hv := by decide) dX11_holdsLine_263 rfl ?_
      refine Rn.sub [1, 2, 3, 4, 5, 6] rfl ?_
      exact f_Model_holdsLine_b264_ok hst hd  hk23 E
    · replace E := (if_of E).2 c3
      refine Rn.iconst (pc' := 260) (v := (1 : Int32)) (hv := by decide) dX11_holdsLine_259 rfl ?_
      refine Rn.goto (pc' := 264) dX11_holdsLine_260 (by decide) ?_
      refine Rn.sub [1, 2, 3, 4, 5, 6] rfl ?_
      exact f_Model_holdsLine_b264_ok hst hd  hk23 E
  · replace E := (if_of E).1 c2
    refine Rn.iload (pc' := 248) dX11_holdsLine_246 8 rfl rfl ?_
    refine Rn.iload (pc' := 250) dX11_holdsLine_248 9 rfl rfl ?_
    refine Rn.iadd (pc' := 251) dX11_holdsLine_250 rfl ?_
    refine Rn.goto (pc' := 264) dX11_holdsLine_251 (by decide) ?_
    refine Rn.sub [1, 2, 3, 4, 5, 6] rfl ?_
    exact f_Model_holdsLine_b264_ok hst hd  hk23 E
def f_Model_holdsLine_b286   (h : Hp)   : Option (Int32 × Hp) :=
some ((1 : Int32), h)

set_option maxRecDepth 20000 in
set_option maxHeartbeats 4000000 in
theorem f_Model_holdsLine_b286_ok {l : Launch} {X : Nat × (Nat → Int32)} (hst : l.stackTraces = false) {d : Nat} (hd : 3 ≤ d)     {h : Hp}   {r : Int32 × Hp} (E : f_Model_holdsLine_b286   h  = some r) : Rn l X mX11_holdsLine d 286 [] [] h (eI r) r.2 := by
  unfold f_Model_holdsLine_b286 at E
  refine Rn.iconst (pc' := 287) (v := (1 : Int32)) (hv := by decide) dX11_holdsLine_286 rfl ?_
  refine Rn.goto (pc' := 291) dX11_holdsLine_287 (by decide) ?_
  cases E
  exact Rn.zret rfl rfl dX11_holdsLine_291
theorem kb_X11_274 : KB RX11 274 yX11_factOf mX11_factOf 4 := ⟨gw_at 1760 (by decide +kernel) (by decide +kernel), gw_at 117 (by decide +kernel) (by decide +kernel), trivial, ws_X11_factOf, by decide +kernel, by decide +kernel, by decide +kernel, by decide⟩
theorem ki_X11_factOf : Cond.instanceMethod yX11_factOf ∈ gw ∧ Cond.selects yX11_factOf.cls yX11_factOf yX11_factOf ∈ gw := ⟨gw_at 1762 (by decide +kernel) (by decide +kernel), gw_at 86 (by decide +kernel) (by decide +kernel)⟩
def f_Model_holdsLine_b23  (k23 : Hp → Nat → Int32 → Int32 → Int32 → Int32 → Int32 → Option (Int32 × Hp)) (h : Hp) (x0 : Nat) (x2 : Int32) (x3 : Int32) (x4 : Int32) (x5 : Int32) (x6 : Int32)  : Option (Int32 × Hp) :=
if hS h x0 = 11 then (
if hS h (hR h x0 1) = 20 then (
if ib (x5 + (2 : Int32)) (hL h (hR h x0 1)) = true then (
if (hI h (hR h x0 1) (ix (x5 + (2 : Int32)))) ≤ x6 then (
if x4 = 0 then (
f_Model_holdsLine_b286   h

) else (
if hS h (hR h x0 17) = 20 then (
if ib (0 : Int32) (hL h (hR h x0 17)) = true then (
if (hI h (hR h x0 17) (ix (0 : Int32))) = (1 : Int32) then (
f_Model_holdsLine_b286   h

) else (
some ((0 : Int32), h)

)
) else none) else none
)

) else (
if ib ((654 : Int32) + ((2 : Int32) * x6)) (hL h (hR h x0 1)) = true then (
if (9 : Int32) < (hI h (hR h x0 1) (ix ((654 : Int32) + ((2 : Int32) * x6)))) then (
if (hI h (hR h x0 1) (ix ((654 : Int32) + ((2 : Int32) * x6)))) = (13 : Int32) then (
if hS h (hR h x0 17) = 20 then (
if ib (x4 - (1 : Int32)) (hL h (hR h x0 17)) = true then (
if ib (x4 - (1 : Int32)) (hL h (hR h x0 17)) = true then (
wr (sI h (hR h x0 17) (ix (x4 - (1 : Int32))) ((1 : Int32) - (hI h (hR h x0 17) (ix (x4 - (1 : Int32)))))) fun h15 =>
f_Model_holdsLine_b265  k23 h15 x0 x2 x3 x4 x5 x6
) else none) else none) else none
) else (
if hS h (hR h x0 17) = 20 then (
if ib ((x4 + (-1 : Int32)) - (1 : Int32)) (hL h (hR h x0 17)) = true then (
if ib (x4 + (-1 : Int32)) (hL h (hR h x0 17)) = true then (
if (hI h (hR h x0 1) (ix ((654 : Int32) + ((2 : Int32) * x6)))) = (11 : Int32) then (
if (hI h (hR h x0 17) (ix (x4 + (-1 : Int32)))) ≤ (hI h (hR h x0 17) (ix ((x4 + (-1 : Int32)) - (1 : Int32)))) then (
f_Model_holdsLine_b229  k23 h x0 x2 x3 (x4 + (-1 : Int32)) x5 x6 (hI h (hR h x0 1) (ix ((654 : Int32) + ((2 : Int32) * x6)))) (hI h (hR h x0 17) (ix ((x4 + (-1 : Int32)) - (1 : Int32)))) (hI h (hR h x0 17) (ix (x4 + (-1 : Int32)))) (0 : Int32)

) else (
f_Model_holdsLine_b229  k23 h x0 x2 x3 (x4 + (-1 : Int32)) x5 x6 (hI h (hR h x0 1) (ix ((654 : Int32) + ((2 : Int32) * x6)))) (hI h (hR h x0 17) (ix ((x4 + (-1 : Int32)) - (1 : Int32)))) (hI h (hR h x0 17) (ix (x4 + (-1 : Int32)))) (1 : Int32)

)

) else (
if (hI h (hR h x0 1) (ix ((654 : Int32) + ((2 : Int32) * x6)))) = (12 : Int32) then (
if (hI h (hR h x0 17) (ix ((x4 + (-1 : Int32)) - (1 : Int32)))) ≤ (hI h (hR h x0 17) (ix (x4 + (-1 : Int32)))) then (
f_Model_holdsLine_b229  k23 h x0 x2 x3 (x4 + (-1 : Int32)) x5 x6 (hI h (hR h x0 1) (ix ((654 : Int32) + ((2 : Int32) * x6)))) (hI h (hR h x0 17) (ix ((x4 + (-1 : Int32)) - (1 : Int32)))) (hI h (hR h x0 17) (ix (x4 + (-1 : Int32)))) (0 : Int32)

) else (
f_Model_holdsLine_b229  k23 h x0 x2 x3 (x4 + (-1 : Int32)) x5 x6 (hI h (hR h x0 1) (ix ((654 : Int32) + ((2 : Int32) * x6)))) (hI h (hR h x0 17) (ix ((x4 + (-1 : Int32)) - (1 : Int32)))) (hI h (hR h x0 17) (ix (x4 + (-1 : Int32)))) (1 : Int32)

)

) else (
if (hI h (hR h x0 1) (ix ((654 : Int32) + ((2 : Int32) * x6)))) = (14 : Int32) then (
if ((hI h (hR h x0 17) (ix ((x4 + (-1 : Int32)) - (1 : Int32)))) + (hI h (hR h x0 17) (ix (x4 + (-1 : Int32))))) = (2 : Int32) then (
f_Model_holdsLine_b229  k23 h x0 x2 x3 (x4 + (-1 : Int32)) x5 x6 (hI h (hR h x0 1) (ix ((654 : Int32) + ((2 : Int32) * x6)))) (hI h (hR h x0 17) (ix ((x4 + (-1 : Int32)) - (1 : Int32)))) (hI h (hR h x0 17) (ix (x4 + (-1 : Int32)))) (1 : Int32)

) else (
f_Model_holdsLine_b229  k23 h x0 x2 x3 (x4 + (-1 : Int32)) x5 x6 (hI h (hR h x0 1) (ix ((654 : Int32) + ((2 : Int32) * x6)))) (hI h (hR h x0 17) (ix ((x4 + (-1 : Int32)) - (1 : Int32)))) (hI h (hR h x0 17) (ix (x4 + (-1 : Int32)))) (0 : Int32)

)

) else (
if ((hI h (hR h x0 17) (ix ((x4 + (-1 : Int32)) - (1 : Int32)))) + (hI h (hR h x0 17) (ix (x4 + (-1 : Int32))))) ≤ 0 then (
f_Model_holdsLine_b229  k23 h x0 x2 x3 (x4 + (-1 : Int32)) x5 x6 (hI h (hR h x0 1) (ix ((654 : Int32) + ((2 : Int32) * x6)))) (hI h (hR h x0 17) (ix ((x4 + (-1 : Int32)) - (1 : Int32)))) (hI h (hR h x0 17) (ix (x4 + (-1 : Int32)))) (0 : Int32)

) else (
f_Model_holdsLine_b229  k23 h x0 x2 x3 (x4 + (-1 : Int32)) x5 x6 (hI h (hR h x0 1) (ix ((654 : Int32) + ((2 : Int32) * x6)))) (hI h (hR h x0 17) (ix ((x4 + (-1 : Int32)) - (1 : Int32)))) (hI h (hR h x0 17) (ix (x4 + (-1 : Int32)))) (1 : Int32)

)

)

)

)
) else none) else none) else none
)

) else (
if ib (((654 : Int32) + ((2 : Int32) * x6)) + (1 : Int32)) (hL h (hR h x0 1)) = true then (
bI (f_Model_factOf h x0 (hI h (hR h x0 1) (ix ((654 : Int32) + ((2 : Int32) * x6)))) (hI h (hR h x0 1) (ix (((654 : Int32) + ((2 : Int32) * x6)) + (1 : Int32)))) x2 x3) fun v28 h29 =>
if hS h29 (hR h x0 17) = 20 then (
if ib x4 (hL h29 (hR h x0 17)) = true then (
wr (sI h29 (hR h x0 17) (ix x4) v28) fun h33 =>
f_Model_holdsLine_b265  k23 h33 x0 x2 x3 (x4 + (1 : Int32)) x5 x6
) else none) else none) else none
)
) else none
)
) else none) else none) else none
set_option maxRecDepth 20000 in
set_option maxHeartbeats 4000000 in
theorem f_Model_holdsLine_b23_ok {l : Launch} {X : Nat × (Nat → Int32)} (hst : l.stackTraces = false) {d : Nat} (hd : 3 ≤ d)   {k23 : Hp → Nat → Int32 → Int32 → Int32 → Int32 → Int32 → Option (Int32 × Hp)} (hk23 : ∀ (h : Hp) (x0 : Nat) (x2 : Int32) (x3 : Int32) (x4 : Int32) (x5 : Int32) (x6 : Int32)  (r : Int32 × Hp), k23 h x0 x2 x3 x4 x5 x6 = some r → Rn l X mX11_holdsLine d 23 [(0, .ref x0), (2, .int x2), (3, .int x3), (4, .int x4), (5, .int x5), (6, .int x6)] [] h (eI r) r.2) {h : Hp} {x0 : Nat} {x2 : Int32} {x3 : Int32} {x4 : Int32} {x5 : Int32} {x6 : Int32}  {r : Int32 × Hp} (E : f_Model_holdsLine_b23  k23 h x0 x2 x3 x4 x5 x6 = some r) : Rn l X mX11_holdsLine d 23 [(0, .ref x0), (2, .int x2), (3, .int x3), (4, .int x4), (5, .int x5), (6, .int x6)] [] h (eI r) r.2 := by
  unfold f_Model_holdsLine_b23 at E
  refine Rn.iload (pc' := 25) dX11_holdsLine_23 5 rfl rfl ?_
  refine Rn.aload_n (pc' := 26) dX11_holdsLine_25 rfl 0 rfl rfl ?_
  obtain ⟨g1, E⟩ := gd_of E
  refine Rn.getR (pc' := 29) fl_X11_13_10 g1 rfl dX11_holdsLine_26 rfl ?_
  refine Rn.iload (pc' := 31) dX11_holdsLine_29 4 rfl rfl ?_
  refine Rn.iconst (pc' := 32) (v := (2 : Int32)) (hv := by decide) dX11_holdsLine_31 rfl ?_
  refine Rn.iadd (pc' := 33) dX11_holdsLine_32 rfl ?_
  obtain ⟨g2, E⟩ := gd_of E
  obtain ⟨g3, E⟩ := gd_of E
  refine Rn.iald (pc' := 34) g2 g3 dX11_holdsLine_33 rfl ?_
  refine Rn.icmp_ge (pc' := 37) (tgt := 271) dX11_holdsLine_34 (by decide) rfl (fun c4 => ?_) (fun c4 => ?_)
  · replace E := (if_of E).1 c4
    refine Rn.iload (pc' := 273) dX11_holdsLine_271 3 rfl rfl ?_
    refine Rn.if_eq (pc' := 276) (tgt := 286) dX11_holdsLine_273 (by decide) rfl (fun c5 => ?_) (fun c5 => ?_)
    · replace E := (if_of E).1 c5
      refine Rn.sub [] rfl ?_
      exact f_Model_holdsLine_b286_ok hst hd   E
    · replace E := (if_of E).2 c5
      refine Rn.aload_n (pc' := 277) dX11_holdsLine_276 rfl 0 rfl rfl ?_
      refine Rn.getR (pc' := 280) fl_X11_39_10 g1 rfl dX11_holdsLine_277 rfl ?_
      refine Rn.iconst (pc' := 281) (v := (0 : Int32)) (hv := by decide) dX11_holdsLine_280 rfl ?_
      obtain ⟨g6, E⟩ := gd_of E
      obtain ⟨g7, E⟩ := gd_of E
      refine Rn.iald (pc' := 282) g6 g7 dX11_holdsLine_281 rfl ?_
      refine Rn.iconst (pc' := 283) (v := (1 : Int32)) (hv := by decide) dX11_holdsLine_282 rfl ?_
      refine Rn.icmp_ne (pc' := 286) (tgt := 290) dX11_holdsLine_283 (by decide) rfl (fun c8 => ?_) (fun c8 => ?_)
      · replace E := (if_of E).2 c8
        refine Rn.iconst (pc' := 291) (v := (0 : Int32)) (hv := by decide) dX11_holdsLine_290 rfl ?_
        cases E
        exact Rn.zret rfl rfl dX11_holdsLine_291
      · replace E := (if_of E).1 c8
        refine Rn.sub [] rfl ?_
        exact f_Model_holdsLine_b286_ok hst hd   E
  · replace E := (if_of E).2 c4
    refine Rn.aload_n (pc' := 38) dX11_holdsLine_37 rfl 0 rfl rfl ?_
    refine Rn.getR (pc' := 41) fl_X11_13_10 g1 rfl dX11_holdsLine_38 rfl ?_
    refine Rn.sipush (pc' := 44) (v := (654 : Int32)) (hv := by decide) dX11_holdsLine_41 rfl ?_
    refine Rn.iconst (pc' := 45) (v := (2 : Int32)) (hv := by decide) dX11_holdsLine_44 rfl ?_
    refine Rn.iload (pc' := 47) dX11_holdsLine_45 5 rfl rfl ?_
    refine Rn.imul (pc' := 48) dX11_holdsLine_47 rfl ?_
    refine Rn.iadd (pc' := 49) dX11_holdsLine_48 rfl ?_
    obtain ⟨g9, E⟩ := gd_of E
    refine Rn.iald (pc' := 50) g2 g9 dX11_holdsLine_49 rfl ?_
    refine Rn.istore (pc' := 52) (L' := [(7, .int (hI h (hR h x0 1) (ix ((654 : Int32) + ((2 : Int32) * x6))))), (0, .ref x0), (2, .int x2), (3, .int x3), (4, .int x4), (5, .int x5), (6, .int x6)]) dX11_holdsLine_50 (by decide) rfl rfl ?_
    refine Rn.iload (pc' := 54) dX11_holdsLine_52 0 rfl rfl ?_
    refine Rn.bipush (pc' := 56) (v := (9 : Int32)) (hv := by decide) dX11_holdsLine_54 rfl ?_
    refine Rn.icmp_gt (pc' := 59) (tgt := 95) dX11_holdsLine_56 (by decide) rfl (fun c10 => ?_) (fun c10 => ?_)
    · replace E := (if_of E).1 c10
      refine Rn.iload (pc' := 97) dX11_holdsLine_95 0 rfl rfl ?_
      refine Rn.bipush (pc' := 99) (v := (13 : Int32)) (hv := by decide) dX11_holdsLine_97 rfl ?_
      refine Rn.icmp_ne (pc' := 102) (tgt := 125) dX11_holdsLine_99 (by decide) rfl (fun c11 => ?_) (fun c11 => ?_)
      · replace E := (if_of E).2 c11
        refine Rn.iinc (pc' := 128) (v := (x4 + (-1 : Int32))) (L' := [(4, .int (x4 + (-1 : Int32))), (7, .int (hI h (hR h x0 1) (ix ((654 : Int32) + ((2 : Int32) * x6))))), (0, .ref x0), (2, .int x2), (3, .int x3), (5, .int x5), (6, .int x6)]) dX11_holdsLine_125 4 rfl rfl (by decide) rfl rfl ?_
        refine Rn.aload_n (pc' := 129) dX11_holdsLine_128 rfl 2 rfl rfl ?_
        refine Rn.getR (pc' := 132) fl_X11_39_10 g1 rfl dX11_holdsLine_129 rfl ?_
        refine Rn.iload (pc' := 134) dX11_holdsLine_132 0 rfl rfl ?_
        refine Rn.iconst (pc' := 135) (v := (1 : Int32)) (hv := by decide) dX11_holdsLine_134 rfl ?_
        refine Rn.isub (pc' := 136) dX11_holdsLine_135 rfl ?_
        obtain ⟨g17, E⟩ := gd_of E
        obtain ⟨g18, E⟩ := gd_of E
        refine Rn.iald (pc' := 137) g17 g18 dX11_holdsLine_136 rfl ?_
        refine Rn.istore (pc' := 139) (L' := [(8, .int (hI h (hR h x0 17) (ix ((x4 + (-1 : Int32)) - (1 : Int32))))), (4, .int (x4 + (-1 : Int32))), (7, .int (hI h (hR h x0 1) (ix ((654 : Int32) + ((2 : Int32) * x6))))), (0, .ref x0), (2, .int x2), (3, .int x3), (5, .int x5), (6, .int x6)]) dX11_holdsLine_137 (by decide) rfl rfl ?_
        refine Rn.aload_n (pc' := 140) dX11_holdsLine_139 rfl 3 rfl rfl ?_
        refine Rn.getR (pc' := 143) fl_X11_39_10 g1 rfl dX11_holdsLine_140 rfl ?_
        refine Rn.iload (pc' := 145) dX11_holdsLine_143 1 rfl rfl ?_
        obtain ⟨g19, E⟩ := gd_of E
        refine Rn.iald (pc' := 146) g17 g19 dX11_holdsLine_145 rfl ?_
        refine Rn.istore (pc' := 148) (L' := [(9, .int (hI h (hR h x0 17) (ix (x4 + (-1 : Int32))))), (8, .int (hI h (hR h x0 17) (ix ((x4 + (-1 : Int32)) - (1 : Int32))))), (4, .int (x4 + (-1 : Int32))), (7, .int (hI h (hR h x0 1) (ix ((654 : Int32) + ((2 : Int32) * x6))))), (0, .ref x0), (2, .int x2), (3, .int x3), (5, .int x5), (6, .int x6)]) dX11_holdsLine_146 (by decide) rfl rfl ?_
        refine Rn.iload (pc' := 150) dX11_holdsLine_148 3 rfl rfl ?_
        refine Rn.bipush (pc' := 152) (v := (11 : Int32)) (hv := by decide) dX11_holdsLine_150 rfl ?_
        refine Rn.icmp_ne (pc' := 155) (tgt := 170) dX11_holdsLine_152 (by decide) rfl (fun c20 => ?_) (fun c20 => ?_)
        · replace E := (if_of E).2 c20
          refine Rn.iload (pc' := 172) dX11_holdsLine_170 3 rfl rfl ?_
          refine Rn.bipush (pc' := 174) (v := (12 : Int32)) (hv := by decide) dX11_holdsLine_172 rfl ?_
          refine Rn.icmp_ne (pc' := 177) (tgt := 192) dX11_holdsLine_174 (by decide) rfl (fun c22 => ?_) (fun c22 => ?_)
          · replace E := (if_of E).2 c22
            refine Rn.iload (pc' := 194) dX11_holdsLine_192 3 rfl rfl ?_
            refine Rn.bipush (pc' := 196) (v := (14 : Int32)) (hv := by decide) dX11_holdsLine_194 rfl ?_
            refine Rn.icmp_ne (pc' := 199) (tgt := 216) dX11_holdsLine_196 (by decide) rfl (fun c24 => ?_) (fun c24 => ?_)
            · replace E := (if_of E).2 c24
              refine Rn.iload (pc' := 218) dX11_holdsLine_216 1 rfl rfl ?_
              refine Rn.iload (pc' := 220) dX11_holdsLine_218 0 rfl rfl ?_
              refine Rn.iadd (pc' := 221) dX11_holdsLine_220 rfl ?_
              refine Rn.if_le (pc' := 224) (tgt := 228) dX11_holdsLine_221 (by decide) rfl (fun c26 => ?_) (fun c26 => ?_)
              · replace E := (if_of E).1 c26
                refine Rn.iconst (pc' := 229) (v := (0 : Int32)) (hv := by decide) dX11_holdsLine_228 rfl ?_
                refine Rn.sub [4, 5, 6, 2, 7, 8, 3, 1, 0] rfl ?_
                exact f_Model_holdsLine_b229_ok hst hd  hk23 E
              · replace E := (if_of E).2 c26
                refine Rn.iconst (pc' := 225) (v := (1 : Int32)) (hv := by decide) dX11_holdsLine_224 rfl ?_
                refine Rn.goto (pc' := 229) dX11_holdsLine_225 (by decide) ?_
                refine Rn.sub [4, 5, 6, 2, 7, 8, 3, 1, 0] rfl ?_
                exact f_Model_holdsLine_b229_ok hst hd  hk23 E
            · replace E := (if_of E).1 c24
              refine Rn.iload (pc' := 201) dX11_holdsLine_199 1 rfl rfl ?_
              refine Rn.iload (pc' := 203) dX11_holdsLine_201 0 rfl rfl ?_
              refine Rn.iadd (pc' := 204) dX11_holdsLine_203 rfl ?_
              refine Rn.iconst (pc' := 205) (v := (2 : Int32)) (hv := by decide) dX11_holdsLine_204 rfl ?_
              refine Rn.icmp_ne (pc' := 208) (tgt := 212) dX11_holdsLine_205 (by decide) rfl (fun c25 => ?_) (fun c25 => ?_)
              · replace E := (if_of E).2 c25
                refine Rn.iconst (pc' := 213) (v := (0 : Int32)) (hv := by decide) dX11_holdsLine_212 rfl ?_
                refine Rn.goto (pc' := 229) dX11_holdsLine_213 (by decide) ?_
                refine Rn.sub [4, 5, 6, 2, 7, 8, 3, 1, 0] rfl ?_
                exact f_Model_holdsLine_b229_ok hst hd  hk23 E
              · replace E := (if_of E).1 c25
                refine Rn.iconst (pc' := 209) (v := (1 : Int32)) (hv := by decide) dX11_holdsLine_208 rfl ?_
                refine Rn.goto (pc' := 229) dX11_holdsLine_209 (by decide) ?_
                refine Rn.sub [4, 5, 6, 2, 7, 8, 3, 1, 0] rfl ?_
                exact f_Model_holdsLine_b229_ok hst hd  hk23 E
          · replace E := (if_of E).1 c22
            refine Rn.iload (pc' := 179) dX11_holdsLine_177 1 rfl rfl ?_
            refine Rn.iload (pc' := 181) dX11_holdsLine_179 0 rfl rfl ?_
            refine Rn.icmp_le (pc' := 184) (tgt := 188) dX11_holdsLine_181 (by decide) rfl (fun c23 => ?_) (fun c23 => ?_)
            · replace E := (if_of E).1 c23
              refine Rn.iconst (pc' := 189) (v := (0 : Int32)) (hv := by decide) dX11_holdsLine_188 rfl ?_
              refine Rn.goto (pc' := 229) dX11_holdsLine_189 (by decide) ?_
              refine Rn.sub [4, 5, 6, 2, 7, 8, 3, 1, 0] rfl ?_
              exact f_Model_holdsLine_b229_ok hst hd  hk23 E
            · replace E := (if_of E).2 c23
              refine Rn.iconst (pc' := 185) (v := (1 : Int32)) (hv := by decide) dX11_holdsLine_184 rfl ?_
              refine Rn.goto (pc' := 229) dX11_holdsLine_185 (by decide) ?_
              refine Rn.sub [4, 5, 6, 2, 7, 8, 3, 1, 0] rfl ?_
              exact f_Model_holdsLine_b229_ok hst hd  hk23 E
        · replace E := (if_of E).1 c20
          refine Rn.iload (pc' := 157) dX11_holdsLine_155 1 rfl rfl ?_
          refine Rn.iload (pc' := 159) dX11_holdsLine_157 0 rfl rfl ?_
          refine Rn.icmp_ge (pc' := 162) (tgt := 166) dX11_holdsLine_159 (by decide) rfl (fun c21 => ?_) (fun c21 => ?_)
          · replace E := (if_of E).1 c21
            refine Rn.iconst (pc' := 167) (v := (0 : Int32)) (hv := by decide) dX11_holdsLine_166 rfl ?_
            refine Rn.goto (pc' := 229) dX11_holdsLine_167 (by decide) ?_
            refine Rn.sub [4, 5, 6, 2, 7, 8, 3, 1, 0] rfl ?_
            exact f_Model_holdsLine_b229_ok hst hd  hk23 E
          · replace E := (if_of E).2 c21
            refine Rn.iconst (pc' := 163) (v := (1 : Int32)) (hv := by decide) dX11_holdsLine_162 rfl ?_
            refine Rn.goto (pc' := 229) dX11_holdsLine_163 (by decide) ?_
            refine Rn.sub [4, 5, 6, 2, 7, 8, 3, 1, 0] rfl ?_
            exact f_Model_holdsLine_b229_ok hst hd  hk23 E
      · replace E := (if_of E).1 c11
        refine Rn.aload_n (pc' := 103) dX11_holdsLine_102 rfl 1 rfl rfl ?_
        refine Rn.getR (pc' := 106) fl_X11_39_10 g1 rfl dX11_holdsLine_103 rfl ?_
        refine Rn.iload (pc' := 108) dX11_holdsLine_106 4 rfl rfl ?_
        refine Rn.iconst (pc' := 109) (v := (1 : Int32)) (hv := by decide) dX11_holdsLine_108 rfl ?_
        refine Rn.isub (pc' := 110) dX11_holdsLine_109 rfl ?_
        refine Rn.iconst (pc' := 111) (v := (1 : Int32)) (hv := by decide) dX11_holdsLine_110 rfl ?_
        refine Rn.aload_n (pc' := 112) dX11_holdsLine_111 rfl 1 rfl rfl ?_
        refine Rn.getR (pc' := 115) fl_X11_39_10 g1 rfl dX11_holdsLine_112 rfl ?_
        refine Rn.iload (pc' := 117) dX11_holdsLine_115 4 rfl rfl ?_
        refine Rn.iconst (pc' := 118) (v := (1 : Int32)) (hv := by decide) dX11_holdsLine_117 rfl ?_
        refine Rn.isub (pc' := 119) dX11_holdsLine_118 rfl ?_
        obtain ⟨g12, E⟩ := gd_of E
        obtain ⟨g13, E⟩ := gd_of E
        refine Rn.iald (pc' := 120) g12 g13 dX11_holdsLine_119 rfl ?_
        refine Rn.isub (pc' := 121) dX11_holdsLine_120 rfl ?_
        obtain ⟨g14, E⟩ := gd_of E
        refine Rn.iast (pc' := 122) g12 g14 dX11_holdsLine_121 rfl ?_
        replace E := wr_of E
        generalize eh16 : sI h (hR h x0 17) (ix (x4 - (1 : Int32))) ((1 : Int32) - (hI h (hR h x0 17) (ix (x4 - (1 : Int32))))) = h15 at E ⊢
        refine Rn.goto (pc' := 265) dX11_holdsLine_122 (by decide) ?_
        refine Rn.sub [1, 2, 3, 4, 5, 6] rfl ?_
        exact f_Model_holdsLine_b265_ok hst hd  hk23 E
    · replace E := (if_of E).2 c10
      refine Rn.aload_n (pc' := 60) dX11_holdsLine_59 rfl 1 rfl rfl ?_
      refine Rn.getR (pc' := 63) fl_X11_39_10 g1 rfl dX11_holdsLine_60 rfl ?_
      refine Rn.iload (pc' := 65) dX11_holdsLine_63 4 rfl rfl ?_
      refine Rn.aload_n (pc' := 66) dX11_holdsLine_65 rfl 1 rfl rfl ?_
      refine Rn.iload (pc' := 68) dX11_holdsLine_66 0 rfl rfl ?_
      refine Rn.aload_n (pc' := 69) dX11_holdsLine_68 rfl 1 rfl rfl ?_
      refine Rn.getR (pc' := 72) fl_X11_13_10 g1 rfl dX11_holdsLine_69 rfl ?_
      refine Rn.sipush (pc' := 75) (v := (654 : Int32)) (hv := by decide) dX11_holdsLine_72 rfl ?_
      refine Rn.iconst (pc' := 76) (v := (2 : Int32)) (hv := by decide) dX11_holdsLine_75 rfl ?_
      refine Rn.iload (pc' := 78) dX11_holdsLine_76 6 rfl rfl ?_
      refine Rn.imul (pc' := 79) dX11_holdsLine_78 rfl ?_
      refine Rn.iadd (pc' := 80) dX11_holdsLine_79 rfl ?_
      refine Rn.iconst (pc' := 81) (v := (1 : Int32)) (hv := by decide) dX11_holdsLine_80 rfl ?_
      refine Rn.iadd (pc' := 82) dX11_holdsLine_81 rfl ?_
      obtain ⟨g27, E⟩ := gd_of E
      refine Rn.iald (pc' := 83) g2 g27 dX11_holdsLine_82 rfl ?_
      refine Rn.iload_n (pc' := 84) dX11_holdsLine_83 rfl 2 rfl rfl ?_
      refine Rn.iload_n (pc' := 85) dX11_holdsLine_84 rfl 3 rfl rfl ?_
      obtain ⟨v28, h29, e30, E⟩ := bI_of E
      refine Rn.callV1 (pc' := 88) (As := [.int (hI h (hR h x0 1) (ix ((654 : Int32) + ((2 : Int32) * x6)))), .int (hI h (hR h x0 1) (ix (((654 : Int32) + ((2 : Int32) * x6)) + (1 : Int32)))), .int x2, .int x3]) (rest := [.int x4, .ref (hR h x0 17)]) (f_Model_factOf_ok hst e30) (Nat.le_trans (by decide) hd) rfl kb_X11_274 ki_X11_factOf rfl g1 rfl rfl (Nat.le_of_ble_eq_true rfl) dX11_holdsLine_85 rfl rfl ?_
      obtain ⟨g31, E⟩ := gd_of E
      obtain ⟨g32, E⟩ := gd_of E
      refine Rn.iast (pc' := 89) g31 g32 dX11_holdsLine_88 rfl ?_
      replace E := wr_of E
      generalize eh34 : sI h29 (hR h x0 17) (ix x4) v28 = h33 at E ⊢
      refine Rn.iinc (pc' := 92) (v := (x4 + (1 : Int32))) (L' := [(4, .int (x4 + (1 : Int32))), (7, .int (hI h (hR h x0 1) (ix ((654 : Int32) + ((2 : Int32) * x6))))), (0, .ref x0), (2, .int x2), (3, .int x3), (5, .int x5), (6, .int x6)]) dX11_holdsLine_89 4 rfl rfl (by decide) rfl rfl ?_
      refine Rn.goto (pc' := 265) dX11_holdsLine_92 (by decide) ?_
      refine Rn.sub [2, 3, 4, 0, 5, 6] rfl ?_
      exact f_Model_holdsLine_b265_ok hst hd  hk23 E
def f_Model_holdsLine_L23   (n : Nat) : Hp → Nat → Int32 → Int32 → Int32 → Int32 → Int32 → Option (Int32 × Hp) := Nat.rec (motive := fun _ => Hp → Nat → Int32 → Int32 → Int32 → Int32 → Int32 → Option (Int32 × Hp)) (fun _ _ _ _ _ _ _ => none) (fun _ rec => f_Model_holdsLine_b23   rec) n
theorem f_Model_holdsLine_L23_ok {l : Launch} {X : Nat × (Nat → Int32)} (hst : l.stackTraces = false) {d : Nat} (hd : 3 ≤ d)     : ∀ (n : Nat) (h : Hp) (x0 : Nat) (x2 : Int32) (x3 : Int32) (x4 : Int32) (x5 : Int32) (x6 : Int32)  (r : Int32 × Hp), f_Model_holdsLine_L23   n h x0 x2 x3 x4 x5 x6 = some r → Rn l X mX11_holdsLine d 23 [(0, .ref x0), (2, .int x2), (3, .int x3), (4, .int x4), (5, .int x5), (6, .int x6)] [] h (eI r) r.2 := by
  intro n
  induction n with
  | zero => intro h x0 x2 x3 x4 x5 x6 r E; cases E
  | succ n ih => intro h x0 x2 x3 x4 x5 x6 r E; exact f_Model_holdsLine_b23_ok hst hd   ih E
def f_Model_holdsLine_b0   (h : Hp) (x0 : Nat) (x1 : Int32) (x2 : Int32) (x3 : Int32)  : Option (Int32 × Hp) :=
if hS h x0 = 11 then (
if hS h (hR h x0 1) = 20 then (
if ib (((618 : Int32) + ((3 : Int32) * x1)) + (1 : Int32)) (hL h (hR h x0 1)) = true then (
f_Model_holdsLine_L23   FU h x0 x2 x3 (0 : Int32) ((618 : Int32) + ((3 : Int32) * x1)) (hI h (hR h x0 1) (ix (((618 : Int32) + ((3 : Int32) * x1)) + (1 : Int32))))
) else none) else none) else none
set_option maxRecDepth 20000 in
set_option maxHeartbeats 4000000 in
theorem f_Model_holdsLine_b0_ok {l : Launch} {X : Nat × (Nat → Int32)} (hst : l.stackTraces = false) {d : Nat} (hd : 3 ≤ d)     {h : Hp} {x0 : Nat} {x1 : Int32} {x2 : Int32} {x3 : Int32}  {r : Int32 × Hp} (E : f_Model_holdsLine_b0   h x0 x1 x2 x3 = some r) : Rn l X mX11_holdsLine d 0 [(0, .ref x0), (1, .int x1), (2, .int x2), (3, .int x3)] [] h (eI r) r.2 := by
  unfold f_Model_holdsLine_b0 at E
  refine Rn.iconst (pc' := 1) (v := (0 : Int32)) (hv := by decide) dX11_holdsLine_0 rfl ?_
  refine Rn.istore (pc' := 3) (L' := [(4, .int (0 : Int32)), (0, .ref x0), (1, .int x1), (2, .int x2), (3, .int x3)]) dX11_holdsLine_1 (by decide) rfl rfl ?_
  refine Rn.sipush (pc' := 6) (v := (618 : Int32)) (hv := by decide) dX11_holdsLine_3 rfl ?_
  refine Rn.iconst (pc' := 7) (v := (3 : Int32)) (hv := by decide) dX11_holdsLine_6 rfl ?_
  refine Rn.iload_n (pc' := 8) dX11_holdsLine_7 rfl 2 rfl rfl ?_
  refine Rn.imul (pc' := 9) dX11_holdsLine_8 rfl ?_
  refine Rn.iadd (pc' := 10) dX11_holdsLine_9 rfl ?_
  refine Rn.istore (pc' := 12) (L' := [(5, .int ((618 : Int32) + ((3 : Int32) * x1))), (4, .int (0 : Int32)), (0, .ref x0), (1, .int x1), (2, .int x2), (3, .int x3)]) dX11_holdsLine_10 (by decide) rfl rfl ?_
  refine Rn.aload_n (pc' := 13) dX11_holdsLine_12 rfl 2 rfl rfl ?_
  obtain ⟨g1, E⟩ := gd_of E
  refine Rn.getR (pc' := 16) fl_X11_13_10 g1 rfl dX11_holdsLine_13 rfl ?_
  refine Rn.iload (pc' := 18) dX11_holdsLine_16 0 rfl rfl ?_
  refine Rn.iconst (pc' := 19) (v := (1 : Int32)) (hv := by decide) dX11_holdsLine_18 rfl ?_
  refine Rn.iadd (pc' := 20) dX11_holdsLine_19 rfl ?_
  obtain ⟨g2, E⟩ := gd_of E
  obtain ⟨g3, E⟩ := gd_of E
  refine Rn.iald (pc' := 21) g2 g3 dX11_holdsLine_20 rfl ?_
  refine Rn.istore (pc' := 23) (L' := [(6, .int (hI h (hR h x0 1) (ix (((618 : Int32) + ((3 : Int32) * x1)) + (1 : Int32))))), (5, .int ((618 : Int32) + ((3 : Int32) * x1))), (4, .int (0 : Int32)), (0, .ref x0), (1, .int x1), (2, .int x2), (3, .int x3)]) dX11_holdsLine_21 (by decide) rfl rfl ?_
  refine Rn.sub [3, 5, 6, 2, 1, 0] rfl ?_
  exact f_Model_holdsLine_L23_ok hst hd   FU _ _ _ _ _ _ _ _ E
def f_Model_holdsLine (h : Hp) (x0 : Nat) (x1 : Int32) (x2 : Int32) (x3 : Int32) : Option (Int32 × Hp) := f_Model_holdsLine_b0  h x0 x1 x2 x3
theorem f_Model_holdsLine_ok {l : Launch} {X : Nat × (Nat → Int32)} (hst : l.stackTraces = false) {h : Hp} {x0 : Nat} {x1 : Int32} {x2 : Int32} {x3 : Int32} {r : Int32 × Hp} (E : f_Model_holdsLine h x0 x1 x2 x3 = some r) : MC l X yX11_holdsLine mX11_holdsLine 3 [.ref x0, .int x1, .int x2, .int x3] h (eI r) r.2 :=
  MC.body (by decide +kernel) rfl (by decide) hst (Nat.le_of_ble_eq_true rfl) (f_Model_holdsLine_b0_ok hst (Nat.le_refl _) E)
abbrev mX11_placeOf : MI := (RX11, cX11_placeOf, 6, (some Jvm.ClassFile.FieldType.int), [], false)
theorem ws_X11_placeOf : ∀ w ∈ wsM yX11_placeOf mX11_placeOf, w ∈ gw := List.forall_mem_cons.mpr ⟨gw_at 1750 (by decide +kernel) (by decide +kernel), fun _ h => h⟩
def f_Model_placeOf_b40   (h : Hp)   : Option (Int32 × Hp) :=
some ((-1 : Int32), h)

set_option maxRecDepth 20000 in
set_option maxHeartbeats 4000000 in
theorem f_Model_placeOf_b40_ok {l : Launch} {X : Nat × (Nat → Int32)} (hst : l.stackTraces = false) {d : Nat} (hd : 4 ≤ d)     {h : Hp}   {r : Int32 × Hp} (E : f_Model_placeOf_b40   h  = some r) : Rn l X mX11_placeOf d 40 [] [] h (eI r) r.2 := by
  unfold f_Model_placeOf_b40 at E
  refine Rn.iconst (pc' := 41) (v := (-1 : Int32)) (hv := by decide) dX11_placeOf_40 rfl ?_
  refine Rn.goto (pc' := 54) dX11_placeOf_41 (by decide) ?_
  cases E
  exact Rn.zret rfl rfl dX11_placeOf_54
def f_Model_placeOf_b114  (k60 : Hp → Nat → Int32 → Int32 → Int32 → Int32 → Option (Int32 × Hp)) (h : Hp) (x0 : Nat) (x1 : Int32) (x2 : Int32) (x3 : Int32) (x4 : Int32)  : Option (Int32 × Hp) :=
k60 h x0 x1 x2 x3 (x4 + (1 : Int32))

set_option maxRecDepth 20000 in
set_option maxHeartbeats 4000000 in
theorem f_Model_placeOf_b114_ok {l : Launch} {X : Nat × (Nat → Int32)} (hst : l.stackTraces = false) {d : Nat} (hd : 4 ≤ d)   {k60 : Hp → Nat → Int32 → Int32 → Int32 → Int32 → Option (Int32 × Hp)} (hk60 : ∀ (h : Hp) (x0 : Nat) (x1 : Int32) (x2 : Int32) (x3 : Int32) (x4 : Int32)  (r : Int32 × Hp), k60 h x0 x1 x2 x3 x4 = some r → Rn l X mX11_placeOf d 60 [(0, .ref x0), (1, .int x1), (2, .int x2), (3, .int x3), (4, .int x4)] [] h (eI r) r.2) {h : Hp} {x0 : Nat} {x1 : Int32} {x2 : Int32} {x3 : Int32} {x4 : Int32}  {r : Int32 × Hp} (E : f_Model_placeOf_b114  k60 h x0 x1 x2 x3 x4 = some r) : Rn l X mX11_placeOf d 114 [(0, .ref x0), (1, .int x1), (2, .int x2), (3, .int x3), (4, .int x4)] [] h (eI r) r.2 := by
  unfold f_Model_placeOf_b114 at E
  refine Rn.iinc (pc' := 117) (v := (x4 + (1 : Int32))) (L' := [(4, .int (x4 + (1 : Int32))), (0, .ref x0), (1, .int x1), (2, .int x2), (3, .int x3)]) dX11_placeOf_114 4 rfl rfl (by decide) rfl rfl ?_
  refine Rn.goto (pc' := 60) dX11_placeOf_117 (by decide) ?_
  refine Rn.sub [1, 2, 3, 4, 0] rfl ?_
  exact hk60 _ _ _ _ _ _ _ E
theorem kb_X11_278 : KB RX11 278 yX11_holdsLine mX11_holdsLine 3 := ⟨gw_at 1756 (by decide +kernel) (by decide +kernel), gw_at 117 (by decide +kernel) (by decide +kernel), trivial, ws_X11_holdsLine, by decide +kernel, by decide +kernel, by decide +kernel, by decide⟩
theorem ki_X11_holdsLine : Cond.instanceMethod yX11_holdsLine ∈ gw ∧ Cond.selects yX11_holdsLine.cls yX11_holdsLine yX11_holdsLine ∈ gw := ⟨gw_at 1758 (by decide +kernel) (by decide +kernel), gw_at 85 (by decide +kernel) (by decide +kernel)⟩
def f_Model_placeOf_b60  (k60 : Hp → Nat → Int32 → Int32 → Int32 → Int32 → Option (Int32 × Hp)) (h : Hp) (x0 : Nat) (x1 : Int32) (x2 : Int32) (x3 : Int32) (x4 : Int32)  : Option (Int32 × Hp) :=
if hS h x0 = 11 then (
if hS h (hR h x0 1) = 20 then (
if ib (617 : Int32) (hL h (hR h x0 1)) = true then (
if (hI h (hR h x0 1) (ix (617 : Int32))) ≤ x4 then (
some (x3, h)

) else (
bI (f_Model_holdsLine h x0 x4 x1 x2) fun v5 h6 =>
if v5 = 0 then (
f_Model_placeOf_b114  k60 h6 x0 x1 x2 x3 x4

) else (
if hS h6 x0 = 11 then (
if hS h6 (hR h6 x0 1) = 20 then (
if ib ((618 : Int32) + ((3 : Int32) * x4)) (hL h6 (hR h6 x0 1)) = true then (
if 0 ≤ (hI h6 (hR h6 x0 1) (ix ((618 : Int32) + ((3 : Int32) * x4)))) then (
f_Model_placeOf_b114  k60 h6 x0 x1 x2 (x3 + (hI h6 (hR h6 x0 1) (ix ((618 : Int32) + ((3 : Int32) * x4))))) x4

) else (
some ((-1 : Int32), h6)

)
) else none) else none) else none
)

)
) else none) else none) else none
set_option maxRecDepth 20000 in
set_option maxHeartbeats 4000000 in
theorem f_Model_placeOf_b60_ok {l : Launch} {X : Nat × (Nat → Int32)} (hst : l.stackTraces = false) {d : Nat} (hd : 4 ≤ d)   {k60 : Hp → Nat → Int32 → Int32 → Int32 → Int32 → Option (Int32 × Hp)} (hk60 : ∀ (h : Hp) (x0 : Nat) (x1 : Int32) (x2 : Int32) (x3 : Int32) (x4 : Int32)  (r : Int32 × Hp), k60 h x0 x1 x2 x3 x4 = some r → Rn l X mX11_placeOf d 60 [(0, .ref x0), (1, .int x1), (2, .int x2), (3, .int x3), (4, .int x4)] [] h (eI r) r.2) {h : Hp} {x0 : Nat} {x1 : Int32} {x2 : Int32} {x3 : Int32} {x4 : Int32}  {r : Int32 × Hp} (E : f_Model_placeOf_b60  k60 h x0 x1 x2 x3 x4 = some r) : Rn l X mX11_placeOf d 60 [(0, .ref x0), (1, .int x1), (2, .int x2), (3, .int x3), (4, .int x4)] [] h (eI r) r.2 := by
  unfold f_Model_placeOf_b60 at E
  refine Rn.iload (pc' := 62) dX11_placeOf_60 4 rfl rfl ?_
  refine Rn.aload_n (pc' := 63) dX11_placeOf_62 rfl 0 rfl rfl ?_
  obtain ⟨g1, E⟩ := gd_of E
  refine Rn.getR (pc' := 66) fl_X11_13_10 g1 rfl dX11_placeOf_63 rfl ?_
  refine Rn.sipush (pc' := 69) (v := (617 : Int32)) (hv := by decide) dX11_placeOf_66 rfl ?_
  obtain ⟨g2, E⟩ := gd_of E
  obtain ⟨g3, E⟩ := gd_of E
  refine Rn.iald (pc' := 70) g2 g3 dX11_placeOf_69 rfl ?_
  refine Rn.icmp_ge (pc' := 73) (tgt := 120) dX11_placeOf_70 (by decide) rfl (fun c4 => ?_) (fun c4 => ?_)
  · replace E := (if_of E).1 c4
    refine Rn.iload_n (pc' := 121) dX11_placeOf_120 rfl 3 rfl rfl ?_
    cases E
    exact Rn.zret rfl rfl dX11_placeOf_121
  · replace E := (if_of E).2 c4
    refine Rn.aload_n (pc' := 74) dX11_placeOf_73 rfl 0 rfl rfl ?_
    refine Rn.iload (pc' := 76) dX11_placeOf_74 4 rfl rfl ?_
    refine Rn.iload_n (pc' := 77) dX11_placeOf_76 rfl 1 rfl rfl ?_
    refine Rn.iload_n (pc' := 78) dX11_placeOf_77 rfl 2 rfl rfl ?_
    obtain ⟨v5, h6, e7, E⟩ := bI_of E
    refine Rn.callV1 (pc' := 81) (As := [.int x4, .int x1, .int x2]) (rest := []) (f_Model_holdsLine_ok hst e7) (Nat.le_trans (by decide) hd) rfl kb_X11_278 ki_X11_holdsLine rfl g1 rfl rfl (Nat.le_of_ble_eq_true rfl) dX11_placeOf_78 rfl rfl ?_
    refine Rn.if_ne (pc' := 84) (tgt := 87) dX11_placeOf_81 (by decide) rfl (fun c8 => ?_) (fun c8 => ?_)
    · replace E := (if_of E).2 c8
      refine Rn.aload_n (pc' := 88) dX11_placeOf_87 rfl 0 rfl rfl ?_
      obtain ⟨g9, E⟩ := gd_of E
      refine Rn.getR (pc' := 91) fl_X11_13_10 g9 rfl dX11_placeOf_88 rfl ?_
      refine Rn.sipush (pc' := 94) (v := (618 : Int32)) (hv := by decide) dX11_placeOf_91 rfl ?_
      refine Rn.iconst (pc' := 95) (v := (3 : Int32)) (hv := by decide) dX11_placeOf_94 rfl ?_
      refine Rn.iload (pc' := 97) dX11_placeOf_95 4 rfl rfl ?_
      refine Rn.imul (pc' := 98) dX11_placeOf_97 rfl ?_
      refine Rn.iadd (pc' := 99) dX11_placeOf_98 rfl ?_
      obtain ⟨g10, E⟩ := gd_of E
      obtain ⟨g11, E⟩ := gd_of E
      refine Rn.iald (pc' := 100) g10 g11 dX11_placeOf_99 rfl ?_
      refine Rn.istore (pc' := 102) (L' := [(5, .int (hI h6 (hR h6 x0 1) (ix ((618 : Int32) + ((3 : Int32) * x4))))), (0, .ref x0), (1, .int x1), (2, .int x2), (3, .int x3), (4, .int x4)]) dX11_placeOf_100 (by decide) rfl rfl ?_
      refine Rn.iload (pc' := 104) dX11_placeOf_102 0 rfl rfl ?_
      refine Rn.if_ge (pc' := 107) (tgt := 109) dX11_placeOf_104 (by decide) rfl (fun c12 => ?_) (fun c12 => ?_)
      · replace E := (if_of E).1 c12
        refine Rn.iload_n (pc' := 110) dX11_placeOf_109 rfl 4 rfl rfl ?_
        refine Rn.iload (pc' := 112) dX11_placeOf_110 0 rfl rfl ?_
        refine Rn.iadd (pc' := 113) dX11_placeOf_112 rfl ?_
        refine Rn.istore_n (pc' := 114) (L' := [(3, .int (x3 + (hI h6 (hR h6 x0 1) (ix ((618 : Int32) + ((3 : Int32) * x4)))))), (5, .int (hI h6 (hR h6 x0 1) (ix ((618 : Int32) + ((3 : Int32) * x4))))), (0, .ref x0), (1, .int x1), (2, .int x2), (4, .int x4)]) dX11_placeOf_113 rfl (by decide) rfl rfl ?_
        refine Rn.sub [2, 3, 4, 0, 5] rfl ?_
        exact f_Model_placeOf_b114_ok hst hd  hk60 E
      · replace E := (if_of E).2 c12
        refine Rn.iconst (pc' := 108) (v := (-1 : Int32)) (hv := by decide) dX11_placeOf_107 rfl ?_
        cases E
        exact Rn.zret rfl rfl dX11_placeOf_108
    · replace E := (if_of E).1 c8
      refine Rn.goto (pc' := 114) dX11_placeOf_84 (by decide) ?_
      exact f_Model_placeOf_b114_ok hst hd  hk60 E
def f_Model_placeOf_L60   (n : Nat) : Hp → Nat → Int32 → Int32 → Int32 → Int32 → Option (Int32 × Hp) := Nat.rec (motive := fun _ => Hp → Nat → Int32 → Int32 → Int32 → Int32 → Option (Int32 × Hp)) (fun _ _ _ _ _ _ => none) (fun _ rec => f_Model_placeOf_b60   rec) n
theorem f_Model_placeOf_L60_ok {l : Launch} {X : Nat × (Nat → Int32)} (hst : l.stackTraces = false) {d : Nat} (hd : 4 ≤ d)     : ∀ (n : Nat) (h : Hp) (x0 : Nat) (x1 : Int32) (x2 : Int32) (x3 : Int32) (x4 : Int32)  (r : Int32 × Hp), f_Model_placeOf_L60   n h x0 x1 x2 x3 x4 = some r → Rn l X mX11_placeOf d 60 [(0, .ref x0), (1, .int x1), (2, .int x2), (3, .int x3), (4, .int x4)] [] h (eI r) r.2 := by
  intro n
  induction n with
  | zero => intro h x0 x1 x2 x3 x4 r E; cases E
  | succ n ih => intro h x0 x1 x2 x3 x4 r E; exact f_Model_placeOf_b60_ok hst hd   ih E
def f_Model_placeOf_b0   (h : Hp) (x0 : Nat) (x1 : Int32) (x2 : Int32)  : Option (Int32 × Hp) :=
if hS h x0 = 11 then (
bI (f_Model_layerOf h x0 x1 x2) fun v2 h3 =>
if v2 = 0 then (
some ((-1 : Int32), h3)

) else (
if hS h3 x0 = 11 then (
if hS h3 (hR h3 x0 1) = 20 then (
if ib (3 : Int32) (hL h3 (hR h3 x0 1)) = true then (
if (hI h3 (hR h3 x0 1) (ix (3 : Int32))) = 0 then (
bI (f_Model_ofCistern h3 x0 x1 (1 : Int32)) fun v10 h11 =>
if v10 = (1 : Int32) then (
f_Model_placeOf_b40   h11

) else (
if hS h11 x0 = 11 then (
bI (f_Model_ofCistern h11 x0 x1 (2 : Int32)) fun v15 h16 =>
if v15 = (1 : Int32) then (
f_Model_placeOf_b40   h16

) else (
if hS h16 x0 = 11 then (
bI (f_Model_now h16 x0) fun v20 h21 =>
bI (f_Math_max h21 (0 : Int32) (v20 - x2)) fun v23 h24 =>
some (v23, h24)
) else none
)
) else none
)

) else (
f_Model_placeOf_L60   FU h3 x0 x1 x2 (0 : Int32) (0 : Int32)

)
) else none) else none) else none
)
) else none
set_option maxRecDepth 20000 in
set_option maxHeartbeats 4000000 in
theorem f_Model_placeOf_b0_ok {l : Launch} {X : Nat × (Nat → Int32)} (hst : l.stackTraces = false) {d : Nat} (hd : 4 ≤ d)     {h : Hp} {x0 : Nat} {x1 : Int32} {x2 : Int32}  {r : Int32 × Hp} (E : f_Model_placeOf_b0   h x0 x1 x2 = some r) : Rn l X mX11_placeOf d 0 [(0, .ref x0), (1, .int x1), (2, .int x2)] [] h (eI r) r.2 := by
  unfold f_Model_placeOf_b0 at E
  refine Rn.aload_n (pc' := 1) dX11_placeOf_0 rfl 0 rfl rfl ?_
  refine Rn.iload_n (pc' := 2) dX11_placeOf_1 rfl 1 rfl rfl ?_
  refine Rn.iload_n (pc' := 3) dX11_placeOf_2 rfl 2 rfl rfl ?_
  obtain ⟨g1, E⟩ := gd_of E
  obtain ⟨v2, h3, e4, E⟩ := bI_of E
  refine Rn.callV1 (pc' := 6) (As := [.int x1, .int x2]) (rest := []) (f_Model_layerOf_ok hst e4) (Nat.le_trans (by decide) hd) rfl kb_X11_72 ki_X11_layerOf rfl g1 rfl rfl (Nat.le_of_ble_eq_true rfl) dX11_placeOf_3 rfl rfl ?_
  refine Rn.if_ne (pc' := 9) (tgt := 11) dX11_placeOf_6 (by decide) rfl (fun c5 => ?_) (fun c5 => ?_)
  · replace E := (if_of E).2 c5
    refine Rn.aload_n (pc' := 12) dX11_placeOf_11 rfl 0 rfl rfl ?_
    obtain ⟨g6, E⟩ := gd_of E
    refine Rn.getR (pc' := 15) fl_X11_13_10 g6 rfl dX11_placeOf_12 rfl ?_
    refine Rn.iconst (pc' := 16) (v := (3 : Int32)) (hv := by decide) dX11_placeOf_15 rfl ?_
    obtain ⟨g7, E⟩ := gd_of E
    obtain ⟨g8, E⟩ := gd_of E
    refine Rn.iald (pc' := 17) g7 g8 dX11_placeOf_16 rfl ?_
    refine Rn.if_ne (pc' := 20) (tgt := 55) dX11_placeOf_17 (by decide) rfl (fun c9 => ?_) (fun c9 => ?_)
    · replace E := (if_of E).2 c9
      refine Rn.iconst (pc' := 56) (v := (0 : Int32)) (hv := by decide) dX11_placeOf_55 rfl ?_
      refine Rn.istore_n (pc' := 57) (L' := [(3, .int (0 : Int32)), (0, .ref x0), (1, .int x1), (2, .int x2)]) dX11_placeOf_56 rfl (by decide) rfl rfl ?_
      refine Rn.iconst (pc' := 58) (v := (0 : Int32)) (hv := by decide) dX11_placeOf_57 rfl ?_
      refine Rn.istore (pc' := 60) (L' := [(4, .int (0 : Int32)), (3, .int (0 : Int32)), (0, .ref x0), (1, .int x1), (2, .int x2)]) dX11_placeOf_58 (by decide) rfl rfl ?_
      refine Rn.sub [2, 3, 4, 1, 0] rfl ?_
      exact f_Model_placeOf_L60_ok hst hd   FU _ _ _ _ _ _ _ E
    · replace E := (if_of E).1 c9
      refine Rn.aload_n (pc' := 21) dX11_placeOf_20 rfl 0 rfl rfl ?_
      refine Rn.iload_n (pc' := 22) dX11_placeOf_21 rfl 1 rfl rfl ?_
      refine Rn.iconst (pc' := 23) (v := (1 : Int32)) (hv := by decide) dX11_placeOf_22 rfl ?_
      obtain ⟨v10, h11, e12, E⟩ := bI_of E
      refine Rn.callV1 (pc' := 26) (As := [.int x1, .int (1 : Int32)]) (rest := []) (f_Model_ofCistern_ok hst e12) (Nat.le_trans (by decide) hd) rfl kb_X11_69 ki_X11_ofCistern rfl g6 rfl rfl (Nat.le_of_ble_eq_true rfl) dX11_placeOf_23 rfl rfl ?_
      refine Rn.iconst (pc' := 27) (v := (1 : Int32)) (hv := by decide) dX11_placeOf_26 rfl ?_
      refine Rn.icmp_eq (pc' := 30) (tgt := 40) dX11_placeOf_27 (by decide) rfl (fun c13 => ?_) (fun c13 => ?_)
      · replace E := (if_of E).1 c13
        refine Rn.sub [] rfl ?_
        exact f_Model_placeOf_b40_ok hst hd   E
      · replace E := (if_of E).2 c13
        refine Rn.aload_n (pc' := 31) dX11_placeOf_30 rfl 0 rfl rfl ?_
        refine Rn.iload_n (pc' := 32) dX11_placeOf_31 rfl 1 rfl rfl ?_
        refine Rn.iconst (pc' := 33) (v := (2 : Int32)) (hv := by decide) dX11_placeOf_32 rfl ?_
        obtain ⟨g14, E⟩ := gd_of E
        obtain ⟨v15, h16, e17, E⟩ := bI_of E
        refine Rn.callV1 (pc' := 36) (As := [.int x1, .int (2 : Int32)]) (rest := []) (f_Model_ofCistern_ok hst e17) (Nat.le_trans (by decide) hd) rfl kb_X11_69 ki_X11_ofCistern rfl g14 rfl rfl (Nat.le_of_ble_eq_true rfl) dX11_placeOf_33 rfl rfl ?_
        refine Rn.iconst (pc' := 37) (v := (1 : Int32)) (hv := by decide) dX11_placeOf_36 rfl ?_
        refine Rn.icmp_ne (pc' := 40) (tgt := 44) dX11_placeOf_37 (by decide) rfl (fun c18 => ?_) (fun c18 => ?_)
        · replace E := (if_of E).2 c18
          refine Rn.iconst (pc' := 45) (v := (0 : Int32)) (hv := by decide) dX11_placeOf_44 rfl ?_
          refine Rn.aload_n (pc' := 46) dX11_placeOf_45 rfl 0 rfl rfl ?_
          obtain ⟨g19, E⟩ := gd_of E
          obtain ⟨v20, h21, e22, E⟩ := bI_of E
          refine Rn.callV1 (pc' := 49) (As := []) (rest := [.int (0 : Int32)]) (f_Model_now_ok hst e22) (Nat.le_trans (by decide) hd) rfl kb_X11_268 ki_X11_now rfl g19 rfl rfl (Nat.le_of_ble_eq_true rfl) dX11_placeOf_46 rfl rfl ?_
          refine Rn.iload_n (pc' := 50) dX11_placeOf_49 rfl 2 rfl rfl ?_
          refine Rn.isub (pc' := 51) dX11_placeOf_50 rfl ?_
          obtain ⟨v23, h24, e25, E⟩ := bI_of E
          refine Rn.callS1 (pc' := 54) (As := [.int (0 : Int32), .int (v20 - x2)]) (rest := []) (f_Math_max_ok hst e25) (Nat.le_trans (by decide) hd) rfl kb_X11_271 ks_J9_max_7cf53 rfl rfl (Nat.le_of_ble_eq_true rfl) dX11_placeOf_51 rfl rfl ?_
          cases E
          exact Rn.zret rfl rfl dX11_placeOf_54
        · replace E := (if_of E).1 c18
          refine Rn.sub [] rfl ?_
          exact f_Model_placeOf_b40_ok hst hd   E
  · replace E := (if_of E).1 c5
    refine Rn.iconst (pc' := 10) (v := (-1 : Int32)) (hv := by decide) dX11_placeOf_9 rfl ?_
    cases E
    exact Rn.zret rfl rfl dX11_placeOf_10
def f_Model_placeOf (h : Hp) (x0 : Nat) (x1 : Int32) (x2 : Int32) : Option (Int32 × Hp) := f_Model_placeOf_b0  h x0 x1 x2
theorem f_Model_placeOf_ok {l : Launch} {X : Nat × (Nat → Int32)} (hst : l.stackTraces = false) {h : Hp} {x0 : Nat} {x1 : Int32} {x2 : Int32} {r : Int32 × Hp} (E : f_Model_placeOf h x0 x1 x2 = some r) : MC l X yX11_placeOf mX11_placeOf 4 [.ref x0, .int x1, .int x2] h (eI r) r.2 :=
  MC.body (by decide +kernel) rfl (by decide) hst (Nat.le_of_ble_eq_true rfl) (f_Model_placeOf_b0_ok hst (Nat.le_refl _) E)
abbrev mX11_nextOf : MI := (RX11, cX11_nextOf, 6, (some Jvm.ClassFile.FieldType.int), [], false)
theorem ws_X11_nextOf : ∀ w ∈ wsM yX11_nextOf mX11_nextOf, w ∈ gw := List.forall_mem_cons.mpr ⟨gw_at 1771 (by decide +kernel) (by decide +kernel), fun _ h => h⟩
def f_Model_nextOf_b38  (k7 : Hp → Nat → Int32 → Int32 → Int32 → Int32 → Option (Int32 × Hp)) (h : Hp) (x0 : Nat) (x1 : Int32) (x2 : Int32) (x3 : Int32) (x4 : Int32)  : Option (Int32 × Hp) :=
k7 h x0 x1 x2 x3 (x4 + (1 : Int32))

set_option maxRecDepth 20000 in
set_option maxHeartbeats 4000000 in
theorem f_Model_nextOf_b38_ok {l : Launch} {X : Nat × (Nat → Int32)} (hst : l.stackTraces = false) {d : Nat} (hd : 5 ≤ d)   {k7 : Hp → Nat → Int32 → Int32 → Int32 → Int32 → Option (Int32 × Hp)} (hk7 : ∀ (h : Hp) (x0 : Nat) (x1 : Int32) (x2 : Int32) (x3 : Int32) (x4 : Int32)  (r : Int32 × Hp), k7 h x0 x1 x2 x3 x4 = some r → Rn l X mX11_nextOf d 7 [(0, .ref x0), (1, .int x1), (2, .int x2), (3, .int x3), (4, .int x4)] [] h (eI r) r.2) {h : Hp} {x0 : Nat} {x1 : Int32} {x2 : Int32} {x3 : Int32} {x4 : Int32}  {r : Int32 × Hp} (E : f_Model_nextOf_b38  k7 h x0 x1 x2 x3 x4 = some r) : Rn l X mX11_nextOf d 38 [(0, .ref x0), (1, .int x1), (2, .int x2), (3, .int x3), (4, .int x4)] [] h (eI r) r.2 := by
  unfold f_Model_nextOf_b38 at E
  refine Rn.iinc (pc' := 41) (v := (x4 + (1 : Int32))) (L' := [(4, .int (x4 + (1 : Int32))), (0, .ref x0), (1, .int x1), (2, .int x2), (3, .int x3)]) dX11_nextOf_38 4 rfl rfl (by decide) rfl rfl ?_
  refine Rn.goto (pc' := 7) dX11_nextOf_41 (by decide) ?_
  refine Rn.sub [1, 2, 3, 4, 0] rfl ?_
  exact hk7 _ _ _ _ _ _ _ E
theorem kb_X11_281 : KB RX11 281 yX11_placeOf mX11_placeOf 2 := ⟨gw_at 1747 (by decide +kernel) (by decide +kernel), gw_at 117 (by decide +kernel) (by decide +kernel), trivial, ws_X11_placeOf, by decide +kernel, by decide +kernel, by decide +kernel, by decide⟩
theorem ki_X11_placeOf : Cond.instanceMethod yX11_placeOf ∈ gw ∧ Cond.selects yX11_placeOf.cls yX11_placeOf yX11_placeOf ∈ gw := ⟨gw_at 1749 (by decide +kernel) (by decide +kernel), gw_at 83 (by decide +kernel) (by decide +kernel)⟩
def f_Model_nextOf_b7  (k7 : Hp → Nat → Int32 → Int32 → Int32 → Int32 → Option (Int32 × Hp)) (h : Hp) (x0 : Nat) (x1 : Int32) (x2 : Int32) (x3 : Int32) (x4 : Int32)  : Option (Int32 × Hp) :=
if (30 : Int32) ≤ x4 then (
some (x2, h)

) else (
if hS h x0 = 11 then (
bI (f_Model_placeOf h x0 x1 x4) fun v3 h4 =>
if x3 < v3 then (
f_Model_nextOf_b38  k7 h4 x0 x1 x4 v3 x4

) else (
f_Model_nextOf_b38  k7 h4 x0 x1 x2 x3 x4

)
) else none
)

set_option maxRecDepth 20000 in
set_option maxHeartbeats 4000000 in
theorem f_Model_nextOf_b7_ok {l : Launch} {X : Nat × (Nat → Int32)} (hst : l.stackTraces = false) {d : Nat} (hd : 5 ≤ d)   {k7 : Hp → Nat → Int32 → Int32 → Int32 → Int32 → Option (Int32 × Hp)} (hk7 : ∀ (h : Hp) (x0 : Nat) (x1 : Int32) (x2 : Int32) (x3 : Int32) (x4 : Int32)  (r : Int32 × Hp), k7 h x0 x1 x2 x3 x4 = some r → Rn l X mX11_nextOf d 7 [(0, .ref x0), (1, .int x1), (2, .int x2), (3, .int x3), (4, .int x4)] [] h (eI r) r.2) {h : Hp} {x0 : Nat} {x1 : Int32} {x2 : Int32} {x3 : Int32} {x4 : Int32}  {r : Int32 × Hp} (E : f_Model_nextOf_b7  k7 h x0 x1 x2 x3 x4 = some r) : Rn l X mX11_nextOf d 7 [(0, .ref x0), (1, .int x1), (2, .int x2), (3, .int x3), (4, .int x4)] [] h (eI r) r.2 := by
  unfold f_Model_nextOf_b7 at E
  refine Rn.iload (pc' := 9) dX11_nextOf_7 4 rfl rfl ?_
  refine Rn.bipush (pc' := 11) (v := (30 : Int32)) (hv := by decide) dX11_nextOf_9 rfl ?_
  refine Rn.icmp_ge (pc' := 14) (tgt := 44) dX11_nextOf_11 (by decide) rfl (fun c1 => ?_) (fun c1 => ?_)
  · replace E := (if_of E).1 c1
    refine Rn.iload_n (pc' := 45) dX11_nextOf_44 rfl 2 rfl rfl ?_
    cases E
    exact Rn.zret rfl rfl dX11_nextOf_45
  · replace E := (if_of E).2 c1
    refine Rn.aload_n (pc' := 15) dX11_nextOf_14 rfl 0 rfl rfl ?_
    refine Rn.iload_n (pc' := 16) dX11_nextOf_15 rfl 1 rfl rfl ?_
    refine Rn.iload (pc' := 18) dX11_nextOf_16 4 rfl rfl ?_
    obtain ⟨g2, E⟩ := gd_of E
    obtain ⟨v3, h4, e5, E⟩ := bI_of E
    refine Rn.callV1 (pc' := 21) (As := [.int x1, .int x4]) (rest := []) (f_Model_placeOf_ok hst e5) (Nat.le_trans (by decide) hd) rfl kb_X11_281 ki_X11_placeOf rfl g2 rfl rfl (Nat.le_of_ble_eq_true rfl) dX11_nextOf_18 rfl rfl ?_
    refine Rn.istore (pc' := 23) (L' := [(5, .int v3), (0, .ref x0), (1, .int x1), (2, .int x2), (3, .int x3), (4, .int x4)]) dX11_nextOf_21 (by decide) rfl rfl ?_
    refine Rn.iload (pc' := 25) dX11_nextOf_23 0 rfl rfl ?_
    refine Rn.iload_n (pc' := 26) dX11_nextOf_25 rfl 4 rfl rfl ?_
    refine Rn.icmp_gt (pc' := 29) (tgt := 32) dX11_nextOf_26 (by decide) rfl (fun c6 => ?_) (fun c6 => ?_)
    · replace E := (if_of E).1 c6
      refine Rn.iload (pc' := 34) dX11_nextOf_32 5 rfl rfl ?_
      refine Rn.istore_n (pc' := 35) (L' := [(2, .int x4), (5, .int v3), (0, .ref x0), (1, .int x1), (3, .int x3), (4, .int x4)]) dX11_nextOf_34 rfl (by decide) rfl rfl ?_
      refine Rn.iload (pc' := 37) dX11_nextOf_35 1 rfl rfl ?_
      refine Rn.istore_n (pc' := 38) (L' := [(3, .int v3), (2, .int x4), (5, .int v3), (0, .ref x0), (1, .int x1), (4, .int x4)]) dX11_nextOf_37 rfl (by decide) rfl rfl ?_
      refine Rn.sub [3, 4, 1, 0, 5] rfl ?_
      exact f_Model_nextOf_b38_ok hst hd  hk7 E
    · replace E := (if_of E).2 c6
      refine Rn.goto (pc' := 38) dX11_nextOf_29 (by decide) ?_
      refine Rn.sub [1, 2, 3, 4, 5] rfl ?_
      exact f_Model_nextOf_b38_ok hst hd  hk7 E
def f_Model_nextOf_L7   (n : Nat) : Hp → Nat → Int32 → Int32 → Int32 → Int32 → Option (Int32 × Hp) := Nat.rec (motive := fun _ => Hp → Nat → Int32 → Int32 → Int32 → Int32 → Option (Int32 × Hp)) (fun _ _ _ _ _ _ => none) (fun _ rec => f_Model_nextOf_b7   rec) n
theorem f_Model_nextOf_L7_ok {l : Launch} {X : Nat × (Nat → Int32)} (hst : l.stackTraces = false) {d : Nat} (hd : 5 ≤ d)     : ∀ (n : Nat) (h : Hp) (x0 : Nat) (x1 : Int32) (x2 : Int32) (x3 : Int32) (x4 : Int32)  (r : Int32 × Hp), f_Model_nextOf_L7   n h x0 x1 x2 x3 x4 = some r → Rn l X mX11_nextOf d 7 [(0, .ref x0), (1, .int x1), (2, .int x2), (3, .int x3), (4, .int x4)] [] h (eI r) r.2 := by
  intro n
  induction n with
  | zero => intro h x0 x1 x2 x3 x4 r E; cases E
  | succ n ih => intro h x0 x1 x2 x3 x4 r E; exact f_Model_nextOf_b7_ok hst hd   ih E
def f_Model_nextOf_b0   (h : Hp) (x0 : Nat) (x1 : Int32)  : Option (Int32 × Hp) :=
f_Model_nextOf_L7   FU h x0 x1 (-1 : Int32) (-1 : Int32) (0 : Int32)

set_option maxRecDepth 20000 in
set_option maxHeartbeats 4000000 in
theorem f_Model_nextOf_b0_ok {l : Launch} {X : Nat × (Nat → Int32)} (hst : l.stackTraces = false) {d : Nat} (hd : 5 ≤ d)     {h : Hp} {x0 : Nat} {x1 : Int32}  {r : Int32 × Hp} (E : f_Model_nextOf_b0   h x0 x1 = some r) : Rn l X mX11_nextOf d 0 [(0, .ref x0), (1, .int x1)] [] h (eI r) r.2 := by
  unfold f_Model_nextOf_b0 at E
  refine Rn.iconst (pc' := 1) (v := (-1 : Int32)) (hv := by decide) dX11_nextOf_0 rfl ?_
  refine Rn.istore_n (pc' := 2) (L' := [(2, .int (-1 : Int32)), (0, .ref x0), (1, .int x1)]) dX11_nextOf_1 rfl (by decide) rfl rfl ?_
  refine Rn.iconst (pc' := 3) (v := (-1 : Int32)) (hv := by decide) dX11_nextOf_2 rfl ?_
  refine Rn.istore_n (pc' := 4) (L' := [(3, .int (-1 : Int32)), (2, .int (-1 : Int32)), (0, .ref x0), (1, .int x1)]) dX11_nextOf_3 rfl (by decide) rfl rfl ?_
  refine Rn.iconst (pc' := 5) (v := (0 : Int32)) (hv := by decide) dX11_nextOf_4 rfl ?_
  refine Rn.istore (pc' := 7) (L' := [(4, .int (0 : Int32)), (3, .int (-1 : Int32)), (2, .int (-1 : Int32)), (0, .ref x0), (1, .int x1)]) dX11_nextOf_5 (by decide) rfl rfl ?_
  refine Rn.sub [3, 4, 2, 1, 0] rfl ?_
  exact f_Model_nextOf_L7_ok hst hd   FU _ _ _ _ _ _ _ E
def f_Model_nextOf (h : Hp) (x0 : Nat) (x1 : Int32) : Option (Int32 × Hp) := f_Model_nextOf_b0  h x0 x1
theorem f_Model_nextOf_ok {l : Launch} {X : Nat × (Nat → Int32)} (hst : l.stackTraces = false) {h : Hp} {x0 : Nat} {x1 : Int32} {r : Int32 × Hp} (E : f_Model_nextOf h x0 x1 = some r) : MC l X yX11_nextOf mX11_nextOf 5 [.ref x0, .int x1] h (eI r) r.2 :=
  MC.body (by decide +kernel) rfl (by decide) hst (Nat.le_of_ble_eq_true rfl) (f_Model_nextOf_b0_ok hst (Nat.le_refl _) E)
abbrev mX11_setsHouse : MI := (RX11, cX11_setsHouse, 4, none, [], false)
theorem ws_X11_setsHouse : ∀ w ∈ wsM yX11_setsHouse mX11_setsHouse, w ∈ gw := List.forall_mem_cons.mpr ⟨gw_at 1622 (by decide +kernel) (by decide +kernel), fun _ h => h⟩
def f_Model_setsHouse_b0   (h : Hp) (x0 : Nat) (x1 : Int32) (x2 : Int32) (x3 : Int32)  : Option (Hp) :=
if hS h x0 = 11 then (
if hS h (hR h x0 1) = 20 then (
if ib (((345 : Int32) + ((34 : Int32) * x1)) + x2) (hL h (hR h x0 1)) = true then (
wr (sI h (hR h x0 1) (ix (((345 : Int32) + ((34 : Int32) * x1)) + x2)) x3) fun h4 =>
some h4
) else none) else none) else none
set_option maxRecDepth 20000 in
set_option maxHeartbeats 4000000 in
theorem f_Model_setsHouse_b0_ok {l : Launch} {X : Nat × (Nat → Int32)} (hst : l.stackTraces = false) {d : Nat} (hd : 0 ≤ d)     {h : Hp} {x0 : Nat} {x1 : Int32} {x2 : Int32} {x3 : Int32}  {r : Hp} (E : f_Model_setsHouse_b0   h x0 x1 x2 x3 = some r) : Rn l X mX11_setsHouse d 0 [(0, .ref x0), (1, .int x1), (2, .int x2), (3, .int x3)] [] h (eV r) r := by
  unfold f_Model_setsHouse_b0 at E
  refine Rn.aload_n (pc' := 1) dX11_setsHouse_0 rfl 0 rfl rfl ?_
  obtain ⟨g1, E⟩ := gd_of E
  refine Rn.getR (pc' := 4) fl_X11_13_10 g1 rfl dX11_setsHouse_1 rfl ?_
  refine Rn.sipush (pc' := 7) (v := (345 : Int32)) (hv := by decide) dX11_setsHouse_4 rfl ?_
  refine Rn.bipush (pc' := 9) (v := (34 : Int32)) (hv := by decide) dX11_setsHouse_7 rfl ?_
  refine Rn.iload_n (pc' := 10) dX11_setsHouse_9 rfl 1 rfl rfl ?_
  refine Rn.imul (pc' := 11) dX11_setsHouse_10 rfl ?_
  refine Rn.iadd (pc' := 12) dX11_setsHouse_11 rfl ?_
  refine Rn.iload_n (pc' := 13) dX11_setsHouse_12 rfl 2 rfl rfl ?_
  refine Rn.iadd (pc' := 14) dX11_setsHouse_13 rfl ?_
  refine Rn.iload_n (pc' := 15) dX11_setsHouse_14 rfl 3 rfl rfl ?_
  obtain ⟨g2, E⟩ := gd_of E
  obtain ⟨g3, E⟩ := gd_of E
  refine Rn.iast (pc' := 16) g2 g3 dX11_setsHouse_15 rfl ?_
  replace E := wr_of E
  generalize eh5 : sI h (hR h x0 1) (ix (((345 : Int32) + ((34 : Int32) * x1)) + x2)) x3 = h4 at E ⊢
  cases E
  exact Rn.vret rfl dX11_setsHouse_16
def f_Model_setsHouse (h : Hp) (x0 : Nat) (x1 : Int32) (x2 : Int32) (x3 : Int32) : Option (Hp) := f_Model_setsHouse_b0  h x0 x1 x2 x3
theorem f_Model_setsHouse_ok {l : Launch} {X : Nat × (Nat → Int32)} (hst : l.stackTraces = false) {h : Hp} {x0 : Nat} {x1 : Int32} {x2 : Int32} {x3 : Int32} {r : Hp} (E : f_Model_setsHouse h x0 x1 x2 x3 = some r) : MC l X yX11_setsHouse mX11_setsHouse 0 [.ref x0, .int x1, .int x2, .int x3] h (eV r) r :=
  MC.body (by decide +kernel) rfl (by decide) hst (Nat.le_of_ble_eq_true rfl) (f_Model_setsHouse_b0_ok hst (Nat.le_refl _) E)
abbrev mX11_drinks : MI := (RX11, cX11_drinks, 5, (some Jvm.ClassFile.FieldType.int), [], false)
theorem ws_X11_drinks : ∀ w ∈ wsM yX11_drinks mX11_drinks, w ∈ gw := List.forall_mem_cons.mpr ⟨gw_at 1799 (by decide +kernel) (by decide +kernel), fun _ h => h⟩
def f_Model_drinks_b50   (h : Hp) (x0 : Nat) (x1 : Int32) (x3 : Int32)  : Option (Int32 × Hp) :=
if hS h x0 = 11 then (
bI (f_Model_ofHouse h x0 x1 (0 : Int32)) fun v2 h3 =>
some ((v2 - x3), h3)
) else none
set_option maxRecDepth 20000 in
set_option maxHeartbeats 4000000 in
theorem f_Model_drinks_b50_ok {l : Launch} {X : Nat × (Nat → Int32)} (hst : l.stackTraces = false) {d : Nat} (hd : 6 ≤ d)     {h : Hp} {x0 : Nat} {x1 : Int32} {x3 : Int32}  {r : Int32 × Hp} (E : f_Model_drinks_b50   h x0 x1 x3 = some r) : Rn l X mX11_drinks d 50 [(0, .ref x0), (1, .int x1), (3, .int x3)] [] h (eI r) r.2 := by
  unfold f_Model_drinks_b50 at E
  refine Rn.aload_n (pc' := 51) dX11_drinks_50 rfl 0 rfl rfl ?_
  refine Rn.iload_n (pc' := 52) dX11_drinks_51 rfl 1 rfl rfl ?_
  refine Rn.iconst (pc' := 53) (v := (0 : Int32)) (hv := by decide) dX11_drinks_52 rfl ?_
  obtain ⟨g1, E⟩ := gd_of E
  obtain ⟨v2, h3, e4, E⟩ := bI_of E
  refine Rn.callV1 (pc' := 56) (As := [.int x1, .int (0 : Int32)]) (rest := []) (f_Model_ofHouse_ok hst e4) (Nat.le_trans (by decide) hd) rfl kb_X11_151 ki_X11_ofHouse rfl g1 rfl rfl (Nat.le_of_ble_eq_true rfl) dX11_drinks_53 rfl rfl ?_
  refine Rn.iload_n (pc' := 57) dX11_drinks_56 rfl 2 rfl rfl ?_
  refine Rn.isub (pc' := 58) dX11_drinks_57 rfl ?_
  cases E
  exact Rn.zret rfl rfl dX11_drinks_58
theorem kb_X11_299 : KB RX11 299 yX11_nextOf mX11_nextOf 1 := ⟨gw_at 1768 (by decide +kernel) (by decide +kernel), gw_at 117 (by decide +kernel) (by decide +kernel), trivial, ws_X11_nextOf, by decide +kernel, by decide +kernel, by decide +kernel, by decide⟩
theorem ki_X11_nextOf : Cond.instanceMethod yX11_nextOf ∈ gw ∧ Cond.selects yX11_nextOf.cls yX11_nextOf yX11_nextOf ∈ gw := ⟨gw_at 1770 (by decide +kernel) (by decide +kernel), gw_at 87 (by decide +kernel) (by decide +kernel)⟩
theorem kb_X11_148 : KB RX11 148 yX11_setsHouse mX11_setsHouse 3 := ⟨gw_at 1619 (by decide +kernel) (by decide +kernel), gw_at 117 (by decide +kernel) (by decide +kernel), trivial, ws_X11_setsHouse, by decide +kernel, by decide +kernel, by decide +kernel, by decide⟩
theorem ki_X11_setsHouse : Cond.instanceMethod yX11_setsHouse ∈ gw ∧ Cond.selects yX11_setsHouse.cls yX11_setsHouse yX11_setsHouse ∈ gw := ⟨gw_at 1621 (by decide +kernel) (by decide +kernel), gw_at 64 (by decide +kernel) (by decide +kernel)⟩
def f_Model_drinks_b9  (k9 : Hp → Nat → Int32 → Int32 → Int32 → Option (Int32 × Hp)) (h : Hp) (x0 : Nat) (x1 : Int32) (x2 : Int32) (x3 : Int32)  : Option (Int32 × Hp) :=
if hS h x0 = 11 then (
bI (f_Model_ofHouse h x0 x1 (0 : Int32)) fun v2 h3 =>
if v2 ≤ x3 then (
some ((0 : Int32), h3)

) else (
if hS h3 x0 = 11 then (
bI (f_Model_nextOf h3 x0 x2) fun v7 h8 =>
if v7 < 0 then (
f_Model_drinks_b50   h8 x0 x1 x3

) else (
if hS h8 x0 = 11 then (
if hS h8 (hR h8 x0 1) = 20 then (
if ib ((35 : Int32) + v7) (hL h8 (hR h8 x0 1)) = true then (
bI (f_Model_ofHouse h8 x0 x1 (2 : Int32)) fun v14 h15 =>
if (hI h8 (hR h8 x0 1) (ix ((35 : Int32) + v7))) ≤ v14 then (
if hS h15 x0 = 11 then (
bV (f_Model_adds h15 x0 x2 v7 (-1 : Int32)) fun h20 =>
if hS h20 x0 = 11 then (
bI (f_Model_ofHouse h20 x0 x1 ((4 : Int32) + v7)) fun v23 h24 =>
if hS h24 x0 = 11 then (
bV (f_Model_setsHouse h24 x0 x1 ((4 : Int32) + v7) (v23 + (1 : Int32))) fun h28 =>
k9 h28 x0 x1 x2 (x3 + (1 : Int32))
) else none) else none) else none
) else (
f_Model_drinks_b50   h15 x0 x1 x3

)
) else none) else none) else none
)
) else none
)
) else none
set_option maxRecDepth 20000 in
set_option maxHeartbeats 4000000 in
theorem f_Model_drinks_b9_ok {l : Launch} {X : Nat × (Nat → Int32)} (hst : l.stackTraces = false) {d : Nat} (hd : 6 ≤ d)   {k9 : Hp → Nat → Int32 → Int32 → Int32 → Option (Int32 × Hp)} (hk9 : ∀ (h : Hp) (x0 : Nat) (x1 : Int32) (x2 : Int32) (x3 : Int32)  (r : Int32 × Hp), k9 h x0 x1 x2 x3 = some r → Rn l X mX11_drinks d 9 [(0, .ref x0), (1, .int x1), (2, .int x2), (3, .int x3)] [] h (eI r) r.2) {h : Hp} {x0 : Nat} {x1 : Int32} {x2 : Int32} {x3 : Int32}  {r : Int32 × Hp} (E : f_Model_drinks_b9  k9 h x0 x1 x2 x3 = some r) : Rn l X mX11_drinks d 9 [(0, .ref x0), (1, .int x1), (2, .int x2), (3, .int x3)] [] h (eI r) r.2 := by
  unfold f_Model_drinks_b9 at E
  refine Rn.iload_n (pc' := 10) dX11_drinks_9 rfl 3 rfl rfl ?_
  refine Rn.aload_n (pc' := 11) dX11_drinks_10 rfl 0 rfl rfl ?_
  refine Rn.iload_n (pc' := 12) dX11_drinks_11 rfl 1 rfl rfl ?_
  refine Rn.iconst (pc' := 13) (v := (0 : Int32)) (hv := by decide) dX11_drinks_12 rfl ?_
  obtain ⟨g1, E⟩ := gd_of E
  obtain ⟨v2, h3, e4, E⟩ := bI_of E
  refine Rn.callV1 (pc' := 16) (As := [.int x1, .int (0 : Int32)]) (rest := [.int x3]) (f_Model_ofHouse_ok hst e4) (Nat.le_trans (by decide) hd) rfl kb_X11_151 ki_X11_ofHouse rfl g1 rfl rfl (Nat.le_of_ble_eq_true rfl) dX11_drinks_13 rfl rfl ?_
  refine Rn.icmp_ge (pc' := 19) (tgt := 93) dX11_drinks_16 (by decide) rfl (fun c5 => ?_) (fun c5 => ?_)
  · replace E := (if_of E).1 c5
    refine Rn.iconst (pc' := 94) (v := (0 : Int32)) (hv := by decide) dX11_drinks_93 rfl ?_
    cases E
    exact Rn.zret rfl rfl dX11_drinks_94
  · replace E := (if_of E).2 c5
    refine Rn.aload_n (pc' := 20) dX11_drinks_19 rfl 0 rfl rfl ?_
    refine Rn.iload_n (pc' := 21) dX11_drinks_20 rfl 2 rfl rfl ?_
    obtain ⟨g6, E⟩ := gd_of E
    obtain ⟨v7, h8, e9, E⟩ := bI_of E
    refine Rn.callV1 (pc' := 24) (As := [.int x2]) (rest := []) (f_Model_nextOf_ok hst e9) (Nat.le_trans (by decide) hd) rfl kb_X11_299 ki_X11_nextOf rfl g6 rfl rfl (Nat.le_of_ble_eq_true rfl) dX11_drinks_21 rfl rfl ?_
    refine Rn.istore (pc' := 26) (L' := [(4, .int v7), (0, .ref x0), (1, .int x1), (2, .int x2), (3, .int x3)]) dX11_drinks_24 (by decide) rfl rfl ?_
    refine Rn.iload (pc' := 28) dX11_drinks_26 0 rfl rfl ?_
    refine Rn.if_lt (pc' := 31) (tgt := 50) dX11_drinks_28 (by decide) rfl (fun c10 => ?_) (fun c10 => ?_)
    · replace E := (if_of E).1 c10
      refine Rn.sub [1, 2, 4] rfl ?_
      exact f_Model_drinks_b50_ok hst hd   E
    · replace E := (if_of E).2 c10
      refine Rn.aload_n (pc' := 32) dX11_drinks_31 rfl 1 rfl rfl ?_
      obtain ⟨g11, E⟩ := gd_of E
      refine Rn.getR (pc' := 35) fl_X11_13_10 g11 rfl dX11_drinks_32 rfl ?_
      refine Rn.bipush (pc' := 37) (v := (35 : Int32)) (hv := by decide) dX11_drinks_35 rfl ?_
      refine Rn.iload (pc' := 39) dX11_drinks_37 0 rfl rfl ?_
      refine Rn.iadd (pc' := 40) dX11_drinks_39 rfl ?_
      obtain ⟨g12, E⟩ := gd_of E
      obtain ⟨g13, E⟩ := gd_of E
      refine Rn.iald (pc' := 41) g12 g13 dX11_drinks_40 rfl ?_
      refine Rn.aload_n (pc' := 42) dX11_drinks_41 rfl 1 rfl rfl ?_
      refine Rn.iload_n (pc' := 43) dX11_drinks_42 rfl 2 rfl rfl ?_
      refine Rn.iconst (pc' := 44) (v := (2 : Int32)) (hv := by decide) dX11_drinks_43 rfl ?_
      obtain ⟨v14, h15, e16, E⟩ := bI_of E
      refine Rn.callV1 (pc' := 47) (As := [.int x1, .int (2 : Int32)]) (rest := [.int (hI h8 (hR h8 x0 1) (ix ((35 : Int32) + v7)))]) (f_Model_ofHouse_ok hst e16) (Nat.le_trans (by decide) hd) rfl kb_X11_151 ki_X11_ofHouse rfl g11 rfl rfl (Nat.le_of_ble_eq_true rfl) dX11_drinks_44 rfl rfl ?_
      refine Rn.icmp_le (pc' := 50) (tgt := 59) dX11_drinks_47 (by decide) rfl (fun c17 => ?_) (fun c17 => ?_)
      · replace E := (if_of E).1 c17
        refine Rn.aload_n (pc' := 60) dX11_drinks_59 rfl 1 rfl rfl ?_
        refine Rn.iload_n (pc' := 61) dX11_drinks_60 rfl 3 rfl rfl ?_
        refine Rn.iload (pc' := 63) dX11_drinks_61 0 rfl rfl ?_
        refine Rn.iconst (pc' := 64) (v := (-1 : Int32)) (hv := by decide) dX11_drinks_63 rfl ?_
        obtain ⟨g18, E⟩ := gd_of E
        obtain ⟨h20, e21, E⟩ := bV_of E
        refine Rn.callV1 (pc' := 67) (As := [.int x2, .int v7, .int (-1 : Int32)]) (rest := []) (f_Model_adds_ok hst e21) (Nat.le_trans (by decide) hd) rfl kb_X11_82 ki_X11_adds rfl g18 rfl rfl (Nat.le_of_ble_eq_true rfl) dX11_drinks_64 rfl rfl ?_
        refine Rn.aload_n (pc' := 68) dX11_drinks_67 rfl 1 rfl rfl ?_
        refine Rn.iload_n (pc' := 69) dX11_drinks_68 rfl 2 rfl rfl ?_
        refine Rn.iconst (pc' := 70) (v := (4 : Int32)) (hv := by decide) dX11_drinks_69 rfl ?_
        refine Rn.iload (pc' := 72) dX11_drinks_70 0 rfl rfl ?_
        refine Rn.iadd (pc' := 73) dX11_drinks_72 rfl ?_
        refine Rn.aload_n (pc' := 74) dX11_drinks_73 rfl 1 rfl rfl ?_
        refine Rn.iload_n (pc' := 75) dX11_drinks_74 rfl 2 rfl rfl ?_
        refine Rn.iconst (pc' := 76) (v := (4 : Int32)) (hv := by decide) dX11_drinks_75 rfl ?_
        refine Rn.iload (pc' := 78) dX11_drinks_76 0 rfl rfl ?_
        refine Rn.iadd (pc' := 79) dX11_drinks_78 rfl ?_
        obtain ⟨g22, E⟩ := gd_of E
        obtain ⟨v23, h24, e25, E⟩ := bI_of E
        refine Rn.callV1 (pc' := 82) (As := [.int x1, .int ((4 : Int32) + v7)]) (rest := [.int ((4 : Int32) + v7), .int x1, .ref x0]) (f_Model_ofHouse_ok hst e25) (Nat.le_trans (by decide) hd) rfl kb_X11_151 ki_X11_ofHouse rfl g22 rfl rfl (Nat.le_of_ble_eq_true rfl) dX11_drinks_79 rfl rfl ?_
        refine Rn.iconst (pc' := 83) (v := (1 : Int32)) (hv := by decide) dX11_drinks_82 rfl ?_
        refine Rn.iadd (pc' := 84) dX11_drinks_83 rfl ?_
        obtain ⟨g26, E⟩ := gd_of E
        obtain ⟨h28, e29, E⟩ := bV_of E
        refine Rn.callV1 (pc' := 87) (As := [.int x1, .int ((4 : Int32) + v7), .int (v23 + (1 : Int32))]) (rest := []) (f_Model_setsHouse_ok hst e29) (Nat.le_trans (by decide) hd) rfl kb_X11_148 ki_X11_setsHouse rfl g26 rfl rfl (Nat.le_of_ble_eq_true rfl) dX11_drinks_84 rfl rfl ?_
        refine Rn.iinc (pc' := 90) (v := (x3 + (1 : Int32))) (L' := [(3, .int (x3 + (1 : Int32))), (4, .int v7), (0, .ref x0), (1, .int x1), (2, .int x2)]) dX11_drinks_87 4 rfl rfl (by decide) rfl rfl ?_
        refine Rn.goto (pc' := 9) dX11_drinks_90 (by decide) ?_
        refine Rn.sub [2, 3, 4, 0] rfl ?_
        exact hk9 _ _ _ _ _ _ E
      · replace E := (if_of E).2 c17
        refine Rn.sub [1, 2, 4] rfl ?_
        exact f_Model_drinks_b50_ok hst hd   E
def f_Model_drinks_L9   (n : Nat) : Hp → Nat → Int32 → Int32 → Int32 → Option (Int32 × Hp) := Nat.rec (motive := fun _ => Hp → Nat → Int32 → Int32 → Int32 → Option (Int32 × Hp)) (fun _ _ _ _ _ => none) (fun _ rec => f_Model_drinks_b9   rec) n
theorem f_Model_drinks_L9_ok {l : Launch} {X : Nat × (Nat → Int32)} (hst : l.stackTraces = false) {d : Nat} (hd : 6 ≤ d)     : ∀ (n : Nat) (h : Hp) (x0 : Nat) (x1 : Int32) (x2 : Int32) (x3 : Int32)  (r : Int32 × Hp), f_Model_drinks_L9   n h x0 x1 x2 x3 = some r → Rn l X mX11_drinks d 9 [(0, .ref x0), (1, .int x1), (2, .int x2), (3, .int x3)] [] h (eI r) r.2 := by
  intro n
  induction n with
  | zero => intro h x0 x1 x2 x3 r E; cases E
  | succ n ih => intro h x0 x1 x2 x3 r E; exact f_Model_drinks_b9_ok hst hd   ih E
def f_Model_drinks_b0   (h : Hp) (x0 : Nat) (x1 : Int32)  : Option (Int32 × Hp) :=
if hS h x0 = 11 then (
bI (f_Model_ofHouse h x0 x1 (1 : Int32)) fun v2 h3 =>
f_Model_drinks_L9   FU h3 x0 x1 v2 (0 : Int32)
) else none
set_option maxRecDepth 20000 in
set_option maxHeartbeats 4000000 in
theorem f_Model_drinks_b0_ok {l : Launch} {X : Nat × (Nat → Int32)} (hst : l.stackTraces = false) {d : Nat} (hd : 6 ≤ d)     {h : Hp} {x0 : Nat} {x1 : Int32}  {r : Int32 × Hp} (E : f_Model_drinks_b0   h x0 x1 = some r) : Rn l X mX11_drinks d 0 [(0, .ref x0), (1, .int x1)] [] h (eI r) r.2 := by
  unfold f_Model_drinks_b0 at E
  refine Rn.aload_n (pc' := 1) dX11_drinks_0 rfl 0 rfl rfl ?_
  refine Rn.iload_n (pc' := 2) dX11_drinks_1 rfl 1 rfl rfl ?_
  refine Rn.iconst (pc' := 3) (v := (1 : Int32)) (hv := by decide) dX11_drinks_2 rfl ?_
  obtain ⟨g1, E⟩ := gd_of E
  obtain ⟨v2, h3, e4, E⟩ := bI_of E
  refine Rn.callV1 (pc' := 6) (As := [.int x1, .int (1 : Int32)]) (rest := []) (f_Model_ofHouse_ok hst e4) (Nat.le_trans (by decide) hd) rfl kb_X11_151 ki_X11_ofHouse rfl g1 rfl rfl (Nat.le_of_ble_eq_true rfl) dX11_drinks_3 rfl rfl ?_
  refine Rn.istore_n (pc' := 7) (L' := [(2, .int v2), (0, .ref x0), (1, .int x1)]) dX11_drinks_6 rfl (by decide) rfl rfl ?_
  refine Rn.iconst (pc' := 8) (v := (0 : Int32)) (hv := by decide) dX11_drinks_7 rfl ?_
  refine Rn.istore_n (pc' := 9) (L' := [(3, .int (0 : Int32)), (2, .int v2), (0, .ref x0), (1, .int x1)]) dX11_drinks_8 rfl (by decide) rfl rfl ?_
  refine Rn.sub [2, 3, 1, 0] rfl ?_
  exact f_Model_drinks_L9_ok hst hd   FU _ _ _ _ _ _ E
def f_Model_drinks (h : Hp) (x0 : Nat) (x1 : Int32) : Option (Int32 × Hp) := f_Model_drinks_b0  h x0 x1
theorem f_Model_drinks_ok {l : Launch} {X : Nat × (Nat → Int32)} (hst : l.stackTraces = false) {h : Hp} {x0 : Nat} {x1 : Int32} {r : Int32 × Hp} (E : f_Model_drinks h x0 x1 = some r) : MC l X yX11_drinks mX11_drinks 6 [.ref x0, .int x1] h (eI r) r.2 :=
  MC.body (by decide +kernel) rfl (by decide) hst (Nat.le_of_ble_eq_true rfl) (f_Model_drinks_b0_ok hst (Nat.le_refl _) E)
abbrev mX11_draw : MI := (RX11, cX11_draw, 2, (some Jvm.ClassFile.FieldType.int), [], false)
theorem ws_X11_draw : ∀ w ∈ wsM yX11_draw mX11_draw, w ∈ gw := List.forall_mem_cons.mpr ⟨gw_at 1807 (by decide +kernel) (by decide +kernel), fun _ h => h⟩
theorem kc_X11_308 : Jvm.Cond.constant RX11 308 (1103515245 : Int32) ∈ gw := gw_at 1808 (by decide +kernel) (by decide +kernel)
def f_Model_draw_b0   (h : Hp) (x0 : Nat) (x1 : Int32)  : Option (Int32 × Hp) :=
if hS h x0 = 11 then (
if hS h (hR h x0 1) = 20 then (
if ib (5 : Int32) (hL h (hR h x0 1)) = true then (
if ib (5 : Int32) (hL h (hR h x0 1)) = true then (
wr (sI h (hR h x0 1) (ix (5 : Int32)) (((1103515245 : Int32) * (hI h (hR h x0 1) (ix (5 : Int32)))) + (12345 : Int32))) fun h5 =>
if hS h5 (hR h5 x0 1) = 20 then (
if ib (5 : Int32) (hL h5 (hR h5 x0 1)) = true then (
if ¬ x1 = 0 then (
some ((jrem ((jshr (hI h5 (hR h5 x0 1) (ix (5 : Int32))) (16 : Int32)) &&& (32767 : Int32)) x1), h5)
) else none) else none) else none) else none) else none) else none) else none
set_option maxRecDepth 20000 in
set_option maxHeartbeats 4000000 in
theorem f_Model_draw_b0_ok {l : Launch} {X : Nat × (Nat → Int32)} (hst : l.stackTraces = false) {d : Nat} (hd : 0 ≤ d)     {h : Hp} {x0 : Nat} {x1 : Int32}  {r : Int32 × Hp} (E : f_Model_draw_b0   h x0 x1 = some r) : Rn l X mX11_draw d 0 [(0, .ref x0), (1, .int x1)] [] h (eI r) r.2 := by
  unfold f_Model_draw_b0 at E
  refine Rn.aload_n (pc' := 1) dX11_draw_0 rfl 0 rfl rfl ?_
  obtain ⟨g1, E⟩ := gd_of E
  refine Rn.getR (pc' := 4) fl_X11_13_10 g1 rfl dX11_draw_1 rfl ?_
  refine Rn.iconst (pc' := 5) (v := (5 : Int32)) (hv := by decide) dX11_draw_4 rfl ?_
  refine Rn.ldcwI (pc' := 8) kc_X11_308 dX11_draw_5 rfl ?_
  refine Rn.aload_n (pc' := 9) dX11_draw_8 rfl 0 rfl rfl ?_
  refine Rn.getR (pc' := 12) fl_X11_13_10 g1 rfl dX11_draw_9 rfl ?_
  refine Rn.iconst (pc' := 13) (v := (5 : Int32)) (hv := by decide) dX11_draw_12 rfl ?_
  obtain ⟨g2, E⟩ := gd_of E
  obtain ⟨g3, E⟩ := gd_of E
  refine Rn.iald (pc' := 14) g2 g3 dX11_draw_13 rfl ?_
  refine Rn.imul (pc' := 15) dX11_draw_14 rfl ?_
  refine Rn.sipush (pc' := 18) (v := (12345 : Int32)) (hv := by decide) dX11_draw_15 rfl ?_
  refine Rn.iadd (pc' := 19) dX11_draw_18 rfl ?_
  obtain ⟨g4, E⟩ := gd_of E
  refine Rn.iast (pc' := 20) g2 g4 dX11_draw_19 rfl ?_
  replace E := wr_of E
  generalize eh6 : sI h (hR h x0 1) (ix (5 : Int32)) (((1103515245 : Int32) * (hI h (hR h x0 1) (ix (5 : Int32)))) + (12345 : Int32)) = h5 at E ⊢
  refine Rn.aload_n (pc' := 21) dX11_draw_20 rfl 0 rfl rfl ?_
  refine Rn.getR (pc' := 24) fl_X11_13_10 (kp_sI eh6 g1) rfl dX11_draw_21 rfl ?_
  refine Rn.iconst (pc' := 25) (v := (5 : Int32)) (hv := by decide) dX11_draw_24 rfl ?_
  obtain ⟨g7, E⟩ := gd_of E
  obtain ⟨g8, E⟩ := gd_of E
  refine Rn.iald (pc' := 26) g7 g8 dX11_draw_25 rfl ?_
  refine Rn.bipush (pc' := 28) (v := (16 : Int32)) (hv := by decide) dX11_draw_26 rfl ?_
  refine Rn.ishr (pc' := 29) dX11_draw_28 rfl ?_
  refine Rn.sipush (pc' := 32) (v := (32767 : Int32)) (hv := by decide) dX11_draw_29 rfl ?_
  refine Rn.iand (pc' := 33) dX11_draw_32 rfl ?_
  refine Rn.iload_n (pc' := 34) dX11_draw_33 rfl 1 rfl rfl ?_
  obtain ⟨g9, E⟩ := gd_of E
  refine Rn.irem (pc' := 35) (hne := g9) dX11_draw_34 rfl ?_
  cases E
  exact Rn.zret rfl rfl dX11_draw_35
def f_Model_draw (h : Hp) (x0 : Nat) (x1 : Int32) : Option (Int32 × Hp) := f_Model_draw_b0  h x0 x1
theorem f_Model_draw_ok {l : Launch} {X : Nat × (Nat → Int32)} (hst : l.stackTraces = false) {h : Hp} {x0 : Nat} {x1 : Int32} {r : Int32 × Hp} (E : f_Model_draw h x0 x1 = some r) : MC l X yX11_draw mX11_draw 0 [.ref x0, .int x1] h (eI r) r.2 :=
  MC.body (by decide +kernel) rfl (by decide) hst (Nat.le_of_ble_eq_true rfl) (f_Model_draw_b0_ok hst (Nat.le_refl _) E)
