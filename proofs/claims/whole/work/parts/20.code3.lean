/-! ===== by program out of the bytecode (wip/whole/gen/emit.py) ===== -/
abbrev mX11_frosts : MI := (RX11, cX11_frosts, 2, none, [], false)
theorem ws_X11_frosts : ∀ w ∈ wsM yX11_frosts mX11_frosts, w ∈ gw := List.forall_mem_cons.mpr ⟨gw_at 1803 (by decide +kernel) (by decide +kernel), fun _ h => h⟩
def f_Model_frosts_b14  (k14 : Hp → Nat → Int32 → Option (Hp)) (h : Hp) (x0 : Nat) (x1 : Int32)  : Option (Hp) :=
if hS h x0 = 11 then (
bI (f_Model_cisterns h x0) fun v2 h3 =>
if v2 ≤ x1 then (
some h3

) else (
if hS h3 x0 = 11 then (
bI (f_Model_ofCistern h3 x0 x1 (2 : Int32)) fun v7 h8 =>
if v7 = 0 then (
k14 h8 x0 (x1 + (1 : Int32))

) else (
if hS h8 x0 = 11 then (
bV (f_Model_setsCistern h8 x0 x1 (2 : Int32) (0 : Int32)) fun h13 =>
some h13
) else none
)
) else none
)
) else none
set_option maxRecDepth 20000 in
set_option maxHeartbeats 4000000 in
theorem f_Model_frosts_b14_ok {l : Launch} {X : Nat × (Nat → Int32)} (hst : l.stackTraces = false) {d : Nat} (hd : 1 ≤ d)   {k14 : Hp → Nat → Int32 → Option (Hp)} (hk14 : ∀ (h : Hp) (x0 : Nat) (x1 : Int32)  (r : Hp), k14 h x0 x1 = some r → Rn l X mX11_frosts d 14 [(0, .ref x0), (1, .int x1)] [] h (eV r) r) {h : Hp} {x0 : Nat} {x1 : Int32}  {r : Hp} (E : f_Model_frosts_b14  k14 h x0 x1 = some r) : Rn l X mX11_frosts d 14 [(0, .ref x0), (1, .int x1)] [] h (eV r) r := by
  unfold f_Model_frosts_b14 at E
  refine Rn.iload_n (pc' := 15) dX11_frosts_14 rfl 1 rfl rfl ?_
  refine Rn.aload_n (pc' := 16) dX11_frosts_15 rfl 0 rfl rfl ?_
  obtain ⟨g1, E⟩ := gd_of E
  obtain ⟨v2, h3, e4, E⟩ := bI_of E
  refine Rn.callV1 (pc' := 19) (As := []) (rest := [.int x1]) (f_Model_cisterns_ok hst e4) (Nat.le_trans (by decide) hd) rfl kb_X11_52 ki_X11_cisterns rfl g1 rfl rfl (Nat.le_of_ble_eq_true rfl) dX11_frosts_16 rfl rfl ?_
  refine Rn.icmp_ge (pc' := 22) (tgt := 48) dX11_frosts_19 (by decide) rfl (fun c5 => ?_) (fun c5 => ?_)
  · replace E := (if_of E).1 c5
    cases E
    exact Rn.vret rfl dX11_frosts_48
  · replace E := (if_of E).2 c5
    refine Rn.aload_n (pc' := 23) dX11_frosts_22 rfl 0 rfl rfl ?_
    refine Rn.iload_n (pc' := 24) dX11_frosts_23 rfl 1 rfl rfl ?_
    refine Rn.iconst (pc' := 25) (v := (2 : Int32)) (hv := by decide) dX11_frosts_24 rfl ?_
    obtain ⟨g6, E⟩ := gd_of E
    obtain ⟨v7, h8, e9, E⟩ := bI_of E
    refine Rn.callV1 (pc' := 28) (As := [.int x1, .int (2 : Int32)]) (rest := []) (f_Model_ofCistern_ok hst e9) (Nat.le_trans (by decide) hd) rfl kb_X11_69 ki_X11_ofCistern rfl g6 rfl rfl (Nat.le_of_ble_eq_true rfl) dX11_frosts_25 rfl rfl ?_
    refine Rn.if_ne (pc' := 31) (tgt := 34) dX11_frosts_28 (by decide) rfl (fun c10 => ?_) (fun c10 => ?_)
    · replace E := (if_of E).2 c10
      refine Rn.aload_n (pc' := 35) dX11_frosts_34 rfl 0 rfl rfl ?_
      refine Rn.iload_n (pc' := 36) dX11_frosts_35 rfl 1 rfl rfl ?_
      refine Rn.iconst (pc' := 37) (v := (2 : Int32)) (hv := by decide) dX11_frosts_36 rfl ?_
      refine Rn.iconst (pc' := 38) (v := (0 : Int32)) (hv := by decide) dX11_frosts_37 rfl ?_
      obtain ⟨g11, E⟩ := gd_of E
      obtain ⟨h13, e14, E⟩ := bV_of E
      refine Rn.callV1 (pc' := 41) (As := [.int x1, .int (2 : Int32), .int (0 : Int32)]) (rest := []) (f_Model_setsCistern_ok hst e14) (Nat.le_trans (by decide) hd) rfl kb_X11_124 ki_X11_setsCistern rfl g11 rfl rfl (Nat.le_of_ble_eq_true rfl) dX11_frosts_38 rfl rfl ?_
      cases E
      exact Rn.vret rfl dX11_frosts_41
    · replace E := (if_of E).1 c10
      refine Rn.goto (pc' := 42) dX11_frosts_31 (by decide) ?_
      refine Rn.iinc (pc' := 45) (v := (x1 + (1 : Int32))) (L' := [(1, .int (x1 + (1 : Int32))), (0, .ref x0)]) dX11_frosts_42 1 rfl rfl (by decide) rfl rfl ?_
      refine Rn.goto (pc' := 14) dX11_frosts_45 (by decide) ?_
      refine Rn.sub [1, 0] rfl ?_
      exact hk14 _ _ _ _ E
def f_Model_frosts_L14   (n : Nat) : Hp → Nat → Int32 → Option (Hp) := Nat.rec (motive := fun _ => Hp → Nat → Int32 → Option (Hp)) (fun _ _ _ => none) (fun _ rec => f_Model_frosts_b14   rec) n
theorem f_Model_frosts_L14_ok {l : Launch} {X : Nat × (Nat → Int32)} (hst : l.stackTraces = false) {d : Nat} (hd : 1 ≤ d)     : ∀ (n : Nat) (h : Hp) (x0 : Nat) (x1 : Int32)  (r : Hp), f_Model_frosts_L14   n h x0 x1 = some r → Rn l X mX11_frosts d 14 [(0, .ref x0), (1, .int x1)] [] h (eV r) r := by
  intro n
  induction n with
  | zero => intro h x0 x1 r E; cases E
  | succ n ih => intro h x0 x1 r E; exact f_Model_frosts_b14_ok hst hd   ih E
theorem kb_X11_309 : KB RX11 309 yX11_draw mX11_draw 1 := ⟨gw_at 1804 (by decide +kernel) (by decide +kernel), gw_at 117 (by decide +kernel) (by decide +kernel), trivial, ws_X11_draw, by decide +kernel, by decide +kernel, by decide +kernel, by decide⟩
theorem ki_X11_draw : Cond.instanceMethod yX11_draw ∈ gw ∧ Cond.selects yX11_draw.cls yX11_draw yX11_draw ∈ gw := ⟨gw_at 1806 (by decide +kernel) (by decide +kernel), gw_at 95 (by decide +kernel) (by decide +kernel)⟩
def f_Model_frosts_b0   (h : Hp) (x0 : Nat)  : Option (Hp) :=
if hS h x0 = 11 then (
bI (f_Model_draw h x0 (100 : Int32)) fun v2 h3 =>
if v2 < (20 : Int32) then (
f_Model_frosts_L14   FU h3 x0 (0 : Int32)

) else (
some h3

)
) else none
set_option maxRecDepth 20000 in
set_option maxHeartbeats 4000000 in
theorem f_Model_frosts_b0_ok {l : Launch} {X : Nat × (Nat → Int32)} (hst : l.stackTraces = false) {d : Nat} (hd : 1 ≤ d)     {h : Hp} {x0 : Nat}  {r : Hp} (E : f_Model_frosts_b0   h x0 = some r) : Rn l X mX11_frosts d 0 [(0, .ref x0)] [] h (eV r) r := by
  unfold f_Model_frosts_b0 at E
  refine Rn.aload_n (pc' := 1) dX11_frosts_0 rfl 0 rfl rfl ?_
  refine Rn.bipush (pc' := 3) (v := (100 : Int32)) (hv := by decide) dX11_frosts_1 rfl ?_
  obtain ⟨g1, E⟩ := gd_of E
  obtain ⟨v2, h3, e4, E⟩ := bI_of E
  refine Rn.callV1 (pc' := 6) (As := [.int (100 : Int32)]) (rest := []) (f_Model_draw_ok hst e4) (Nat.le_trans (by decide) hd) rfl kb_X11_309 ki_X11_draw rfl g1 rfl rfl (Nat.le_of_ble_eq_true rfl) dX11_frosts_3 rfl rfl ?_
  refine Rn.bipush (pc' := 8) (v := (20 : Int32)) (hv := by decide) dX11_frosts_6 rfl ?_
  refine Rn.icmp_lt (pc' := 11) (tgt := 12) dX11_frosts_8 (by decide) rfl (fun c5 => ?_) (fun c5 => ?_)
  · replace E := (if_of E).1 c5
    refine Rn.iconst (pc' := 13) (v := (0 : Int32)) (hv := by decide) dX11_frosts_12 rfl ?_
    refine Rn.istore_n (pc' := 14) (L' := [(1, .int (0 : Int32)), (0, .ref x0)]) dX11_frosts_13 rfl (by decide) rfl rfl ?_
    refine Rn.sub [1, 0] rfl ?_
    exact f_Model_frosts_L14_ok hst hd   FU _ _ _ _ E
  · replace E := (if_of E).2 c5
    cases E
    exact Rn.vret rfl dX11_frosts_11
def f_Model_frosts (h : Hp) (x0 : Nat) : Option (Hp) := f_Model_frosts_b0  h x0
theorem f_Model_frosts_ok {l : Launch} {X : Nat × (Nat → Int32)} (hst : l.stackTraces = false) {h : Hp} {x0 : Nat} {r : Hp} (E : f_Model_frosts h x0 = some r) : MC l X yX11_frosts mX11_frosts 1 [.ref x0] h (eV r) r :=
  MC.body (by decide +kernel) rfl (by decide) hst (Nat.le_of_ble_eq_true rfl) (f_Model_frosts_b0_ok hst (Nat.le_refl _) E)
abbrev mX11_month : MI := (RX11, cX11_month, 4, (some Jvm.ClassFile.FieldType.int), [], false)
theorem ws_X11_month : ∀ w ∈ wsM yX11_month mX11_month, w ∈ gw := List.forall_mem_cons.mpr ⟨gw_at 1783 (by decide +kernel) (by decide +kernel), fun _ h => h⟩
def f_Model_month_b61  (k13 : Hp → Nat → Int32 → Int32 → Option (Int32 × Hp)) (h : Hp) (x0 : Nat) (x1 : Int32) (x2 : Int32)  : Option (Int32 × Hp) :=
k13 h x0 x1 (x2 + (1 : Int32))

set_option maxRecDepth 20000 in
set_option maxHeartbeats 4000000 in
theorem f_Model_month_b61_ok {l : Launch} {X : Nat × (Nat → Int32)} (hst : l.stackTraces = false) {d : Nat} (hd : 7 ≤ d)   {k13 : Hp → Nat → Int32 → Int32 → Option (Int32 × Hp)} (hk13 : ∀ (h : Hp) (x0 : Nat) (x1 : Int32) (x2 : Int32)  (r : Int32 × Hp), k13 h x0 x1 x2 = some r → Rn l X mX11_month d 13 [(0, .ref x0), (1, .int x1), (2, .int x2)] [] h (eI r) r.2) {h : Hp} {x0 : Nat} {x1 : Int32} {x2 : Int32}  {r : Int32 × Hp} (E : f_Model_month_b61  k13 h x0 x1 x2 = some r) : Rn l X mX11_month d 61 [(0, .ref x0), (1, .int x1), (2, .int x2)] [] h (eI r) r.2 := by
  unfold f_Model_month_b61 at E
  refine Rn.iinc (pc' := 64) (v := (x2 + (1 : Int32))) (L' := [(2, .int (x2 + (1 : Int32))), (0, .ref x0), (1, .int x1)]) dX11_month_61 2 rfl rfl (by decide) rfl rfl ?_
  refine Rn.goto (pc' := 13) dX11_month_64 (by decide) ?_
  refine Rn.sub [1, 2, 0] rfl ?_
  exact hk13 _ _ _ _ _ E
theorem kb_X11_321 : KB RX11 321 yX11_frosts mX11_frosts 0 := ⟨gw_at 1800 (by decide +kernel) (by decide +kernel), gw_at 117 (by decide +kernel) (by decide +kernel), trivial, ws_X11_frosts, by decide +kernel, by decide +kernel, by decide +kernel, by decide⟩
theorem ki_X11_frosts : Cond.instanceMethod yX11_frosts ∈ gw ∧ Cond.selects yX11_frosts.cls yX11_frosts yX11_frosts ∈ gw := ⟨gw_at 1802 (by decide +kernel) (by decide +kernel), gw_at 94 (by decide +kernel) (by decide +kernel)⟩
theorem kb_X11_318 : KB RX11 318 yX11_drinks mX11_drinks 1 := ⟨gw_at 1796 (by decide +kernel) (by decide +kernel), gw_at 117 (by decide +kernel) (by decide +kernel), trivial, ws_X11_drinks, by decide +kernel, by decide +kernel, by decide +kernel, by decide⟩
theorem ki_X11_drinks : Cond.instanceMethod yX11_drinks ∈ gw ∧ Cond.selects yX11_drinks.cls yX11_drinks yX11_drinks ∈ gw := ⟨gw_at 1798 (by decide +kernel) (by decide +kernel), gw_at 93 (by decide +kernel) (by decide +kernel)⟩
theorem fl_X11_315_10 : FL RX11 315 10 18 := ⟨_, rfl, by decide, "VintageWaterModel", gw_at 1444 (by decide +kernel) (by decide +kernel), Or.inl rfl⟩
def f_Model_month_b13  (k13 : Hp → Nat → Int32 → Int32 → Option (Int32 × Hp)) (h : Hp) (x0 : Nat) (x1 : Int32) (x2 : Int32)  : Option (Int32 × Hp) :=
if hS h x0 = 11 then (
bI (f_Model_houses h x0) fun v2 h3 =>
if v2 ≤ x2 then (
if hS h3 x0 = 11 then (
if hS h3 (hR h3 x0 1) = 20 then (
if ib (4 : Int32) (hL h3 (hR h3 x0 1)) = true then (
if ib (4 : Int32) (hL h3 (hR h3 x0 1)) = true then (
wr (sI h3 (hR h3 x0 1) (ix (4 : Int32)) ((hI h3 (hR h3 x0 1) (ix (4 : Int32))) + (1 : Int32))) fun h10 =>
if hS h10 (hR h10 x0 1) = 20 then (
if ib (4 : Int32) (hL h10 (hR h10 x0 1)) = true then (
if (jrem (hI h10 (hR h10 x0 1) (ix (4 : Int32))) (12 : Int32)) = 0 then (
bV (f_Model_frosts h10 x0) fun h16 =>
some (x1, h16)

) else (
some (x1, h10)

)
) else none) else none) else none) else none) else none) else none
) else (
if hS h3 x0 = 11 then (
bI (f_Model_drinks h3 x0 x2) fun v19 h20 =>
if hS h20 x0 = 11 then (
bI (f_Model_ofHouse h20 x0 x2 (3 : Int32)) fun v23 h24 =>
if hS h24 x0 = 11 then (
bV (f_Model_setsHouse h24 x0 x2 (3 : Int32) (v23 + v19)) fun h28 =>
if v19 ≤ 0 then (
f_Model_month_b61  k13 h28 x0 (x1 + v19) x2

) else (
if hS h28 x0 = 11 then (
if 0 ≤ (hI h28 x0 18) then (
f_Model_month_b61  k13 h28 x0 (x1 + v19) x2

) else (
wr (sI h28 x0 18 x2) fun h33 =>
f_Model_month_b61  k13 h33 x0 (x1 + v19) x2

)
) else none
)
) else none) else none) else none
)
) else none
set_option maxRecDepth 20000 in
set_option maxHeartbeats 4000000 in
theorem f_Model_month_b13_ok {l : Launch} {X : Nat × (Nat → Int32)} (hst : l.stackTraces = false) {d : Nat} (hd : 7 ≤ d)   {k13 : Hp → Nat → Int32 → Int32 → Option (Int32 × Hp)} (hk13 : ∀ (h : Hp) (x0 : Nat) (x1 : Int32) (x2 : Int32)  (r : Int32 × Hp), k13 h x0 x1 x2 = some r → Rn l X mX11_month d 13 [(0, .ref x0), (1, .int x1), (2, .int x2)] [] h (eI r) r.2) {h : Hp} {x0 : Nat} {x1 : Int32} {x2 : Int32}  {r : Int32 × Hp} (E : f_Model_month_b13  k13 h x0 x1 x2 = some r) : Rn l X mX11_month d 13 [(0, .ref x0), (1, .int x1), (2, .int x2)] [] h (eI r) r.2 := by
  unfold f_Model_month_b13 at E
  refine Rn.iload_n (pc' := 14) dX11_month_13 rfl 2 rfl rfl ?_
  refine Rn.aload_n (pc' := 15) dX11_month_14 rfl 0 rfl rfl ?_
  obtain ⟨g1, E⟩ := gd_of E
  obtain ⟨v2, h3, e4, E⟩ := bI_of E
  refine Rn.callV1 (pc' := 18) (As := []) (rest := [.int x2]) (f_Model_houses_ok hst e4) (Nat.le_trans (by decide) hd) rfl kb_X11_60 ki_X11_houses rfl g1 rfl rfl (Nat.le_of_ble_eq_true rfl) dX11_month_15 rfl rfl ?_
  refine Rn.icmp_ge (pc' := 21) (tgt := 67) dX11_month_18 (by decide) rfl (fun c5 => ?_) (fun c5 => ?_)
  · replace E := (if_of E).1 c5
    refine Rn.aload_n (pc' := 68) dX11_month_67 rfl 0 rfl rfl ?_
    obtain ⟨g6, E⟩ := gd_of E
    refine Rn.getR (pc' := 71) fl_X11_13_10 g6 rfl dX11_month_68 rfl ?_
    refine Rn.iconst (pc' := 72) (v := (4 : Int32)) (hv := by decide) dX11_month_71 rfl ?_
    refine Rn.dup2 (pc' := 73) (hc := rfl) (hd := rfl) dX11_month_72 rfl ?_
    obtain ⟨g7, E⟩ := gd_of E
    obtain ⟨g8, E⟩ := gd_of E
    refine Rn.iald (pc' := 74) g7 g8 dX11_month_73 rfl ?_
    refine Rn.iconst (pc' := 75) (v := (1 : Int32)) (hv := by decide) dX11_month_74 rfl ?_
    refine Rn.iadd (pc' := 76) dX11_month_75 rfl ?_
    obtain ⟨g9, E⟩ := gd_of E
    refine Rn.iast (pc' := 77) g7 g9 dX11_month_76 rfl ?_
    replace E := wr_of E
    generalize eh11 : sI h3 (hR h3 x0 1) (ix (4 : Int32)) ((hI h3 (hR h3 x0 1) (ix (4 : Int32))) + (1 : Int32)) = h10 at E ⊢
    refine Rn.aload_n (pc' := 78) dX11_month_77 rfl 0 rfl rfl ?_
    refine Rn.getR (pc' := 81) fl_X11_13_10 (kp_sI eh11 g6) rfl dX11_month_78 rfl ?_
    refine Rn.iconst (pc' := 82) (v := (4 : Int32)) (hv := by decide) dX11_month_81 rfl ?_
    obtain ⟨g12, E⟩ := gd_of E
    obtain ⟨g13, E⟩ := gd_of E
    refine Rn.iald (pc' := 83) g12 g13 dX11_month_82 rfl ?_
    refine Rn.bipush (pc' := 85) (v := (12 : Int32)) (hv := by decide) dX11_month_83 rfl ?_
    refine Rn.irem (pc' := 86) (hne := (by decide)) dX11_month_85 rfl ?_
    refine Rn.if_ne (pc' := 89) (tgt := 93) dX11_month_86 (by decide) rfl (fun c14 => ?_) (fun c14 => ?_)
    · replace E := (if_of E).2 c14
      refine Rn.iload_n (pc' := 94) dX11_month_93 rfl 1 rfl rfl ?_
      cases E
      exact Rn.zret rfl rfl dX11_month_94
    · replace E := (if_of E).1 c14
      refine Rn.aload_n (pc' := 90) dX11_month_89 rfl 0 rfl rfl ?_
      obtain ⟨h16, e17, E⟩ := bV_of E
      refine Rn.callV1 (pc' := 93) (As := []) (rest := []) (f_Model_frosts_ok hst e17) (Nat.le_trans (by decide) hd) rfl kb_X11_321 ki_X11_frosts rfl (kp_sI eh11 g6) rfl rfl (Nat.le_of_ble_eq_true rfl) dX11_month_90 rfl rfl ?_
      refine Rn.iload_n (pc' := 94) dX11_month_93 rfl 1 rfl rfl ?_
      cases E
      exact Rn.zret rfl rfl dX11_month_94
  · replace E := (if_of E).2 c5
    refine Rn.aload_n (pc' := 22) dX11_month_21 rfl 0 rfl rfl ?_
    refine Rn.iload_n (pc' := 23) dX11_month_22 rfl 2 rfl rfl ?_
    obtain ⟨g18, E⟩ := gd_of E
    obtain ⟨v19, h20, e21, E⟩ := bI_of E
    refine Rn.callV1 (pc' := 26) (As := [.int x2]) (rest := []) (f_Model_drinks_ok hst e21) (Nat.le_trans (by decide) hd) rfl kb_X11_318 ki_X11_drinks rfl g18 rfl rfl (Nat.le_of_ble_eq_true rfl) dX11_month_23 rfl rfl ?_
    refine Rn.istore_n (pc' := 27) (L' := [(3, .int v19), (0, .ref x0), (1, .int x1), (2, .int x2)]) dX11_month_26 rfl (by decide) rfl rfl ?_
    refine Rn.aload_n (pc' := 28) dX11_month_27 rfl 1 rfl rfl ?_
    refine Rn.iload_n (pc' := 29) dX11_month_28 rfl 3 rfl rfl ?_
    refine Rn.iconst (pc' := 30) (v := (3 : Int32)) (hv := by decide) dX11_month_29 rfl ?_
    refine Rn.aload_n (pc' := 31) dX11_month_30 rfl 1 rfl rfl ?_
    refine Rn.iload_n (pc' := 32) dX11_month_31 rfl 3 rfl rfl ?_
    refine Rn.iconst (pc' := 33) (v := (3 : Int32)) (hv := by decide) dX11_month_32 rfl ?_
    obtain ⟨g22, E⟩ := gd_of E
    obtain ⟨v23, h24, e25, E⟩ := bI_of E
    refine Rn.callV1 (pc' := 36) (As := [.int x2, .int (3 : Int32)]) (rest := [.int (3 : Int32), .int x2, .ref x0]) (f_Model_ofHouse_ok hst e25) (Nat.le_trans (by decide) hd) rfl kb_X11_151 ki_X11_ofHouse rfl g22 rfl rfl (Nat.le_of_ble_eq_true rfl) dX11_month_33 rfl rfl ?_
    refine Rn.iload_n (pc' := 37) dX11_month_36 rfl 0 rfl rfl ?_
    refine Rn.iadd (pc' := 38) dX11_month_37 rfl ?_
    obtain ⟨g26, E⟩ := gd_of E
    obtain ⟨h28, e29, E⟩ := bV_of E
    refine Rn.callV1 (pc' := 41) (As := [.int x2, .int (3 : Int32), .int (v23 + v19)]) (rest := []) (f_Model_setsHouse_ok hst e29) (Nat.le_trans (by decide) hd) rfl kb_X11_148 ki_X11_setsHouse rfl g26 rfl rfl (Nat.le_of_ble_eq_true rfl) dX11_month_38 rfl rfl ?_
    refine Rn.iload_n (pc' := 42) dX11_month_41 rfl 2 rfl rfl ?_
    refine Rn.iload_n (pc' := 43) dX11_month_42 rfl 0 rfl rfl ?_
    refine Rn.iadd (pc' := 44) dX11_month_43 rfl ?_
    refine Rn.istore_n (pc' := 45) (L' := [(1, .int (x1 + v19)), (3, .int v19), (0, .ref x0), (2, .int x2)]) dX11_month_44 rfl (by decide) rfl rfl ?_
    refine Rn.iload_n (pc' := 46) dX11_month_45 rfl 1 rfl rfl ?_
    refine Rn.if_le (pc' := 49) (tgt := 61) dX11_month_46 (by decide) rfl (fun c30 => ?_) (fun c30 => ?_)
    · replace E := (if_of E).1 c30
      refine Rn.sub [2, 0, 3] rfl ?_
      exact f_Model_month_b61_ok hst hd  hk13 E
    · replace E := (if_of E).2 c30
      refine Rn.aload_n (pc' := 50) dX11_month_49 rfl 2 rfl rfl ?_
      obtain ⟨g31, E⟩ := gd_of E
      refine Rn.getI (pc' := 53) fl_X11_315_10 g31 rfl dX11_month_50 rfl ?_
      refine Rn.if_ge (pc' := 56) (tgt := 61) dX11_month_53 (by decide) rfl (fun c32 => ?_) (fun c32 => ?_)
      · replace E := (if_of E).1 c32
        refine Rn.sub [2, 0, 3] rfl ?_
        exact f_Model_month_b61_ok hst hd  hk13 E
      · replace E := (if_of E).2 c32
        refine Rn.aload_n (pc' := 57) dX11_month_56 rfl 2 rfl rfl ?_
        refine Rn.iload_n (pc' := 58) dX11_month_57 rfl 3 rfl rfl ?_
        refine Rn.putI (pc' := 61) fl_X11_315_10 (fun q hq => by cases hq; decide) g31 rfl rfl rfl dX11_month_58 rfl ?_
        replace E := wr_of E
        generalize eh34 : sI h28 x0 18 x2 = h33 at E ⊢
        refine Rn.sub [2, 0, 3] rfl ?_
        exact f_Model_month_b61_ok hst hd  hk13 E
def f_Model_month_L13   (n : Nat) : Hp → Nat → Int32 → Int32 → Option (Int32 × Hp) := Nat.rec (motive := fun _ => Hp → Nat → Int32 → Int32 → Option (Int32 × Hp)) (fun _ _ _ _ => none) (fun _ rec => f_Model_month_b13   rec) n
theorem f_Model_month_L13_ok {l : Launch} {X : Nat × (Nat → Int32)} (hst : l.stackTraces = false) {d : Nat} (hd : 7 ≤ d)     : ∀ (n : Nat) (h : Hp) (x0 : Nat) (x1 : Int32) (x2 : Int32)  (r : Int32 × Hp), f_Model_month_L13   n h x0 x1 x2 = some r → Rn l X mX11_month d 13 [(0, .ref x0), (1, .int x1), (2, .int x2)] [] h (eI r) r.2 := by
  intro n
  induction n with
  | zero => intro h x0 x1 x2 r E; cases E
  | succ n ih => intro h x0 x1 x2 r E; exact f_Model_month_b13_ok hst hd   ih E
theorem kb_X11_312 : KB RX11 312 yX11_leaks mX11_leaks 0 := ⟨gw_at 1784 (by decide +kernel) (by decide +kernel), gw_at 117 (by decide +kernel) (by decide +kernel), trivial, ws_X11_leaks, by decide +kernel, by decide +kernel, by decide +kernel, by decide⟩
theorem ki_X11_leaks : Cond.instanceMethod yX11_leaks ∈ gw ∧ Cond.selects yX11_leaks.cls yX11_leaks yX11_leaks ∈ gw := ⟨gw_at 1786 (by decide +kernel) (by decide +kernel), gw_at 90 (by decide +kernel) (by decide +kernel)⟩
def f_Model_month_b0   (h : Hp) (x0 : Nat)  : Option (Int32 × Hp) :=
if hS h x0 = 11 then (
bV (f_Model_leaks h x0) fun h3 =>
if hS h3 x0 = 11 then (
wr (sI h3 x0 18 (-1 : Int32)) fun h6 =>
f_Model_month_L13   FU h6 x0 (0 : Int32) (0 : Int32)
) else none) else none
set_option maxRecDepth 20000 in
set_option maxHeartbeats 4000000 in
theorem f_Model_month_b0_ok {l : Launch} {X : Nat × (Nat → Int32)} (hst : l.stackTraces = false) {d : Nat} (hd : 7 ≤ d)     {h : Hp} {x0 : Nat}  {r : Int32 × Hp} (E : f_Model_month_b0   h x0 = some r) : Rn l X mX11_month d 0 [(0, .ref x0)] [] h (eI r) r.2 := by
  unfold f_Model_month_b0 at E
  refine Rn.aload_n (pc' := 1) dX11_month_0 rfl 0 rfl rfl ?_
  obtain ⟨g1, E⟩ := gd_of E
  obtain ⟨h3, e4, E⟩ := bV_of E
  refine Rn.callV1 (pc' := 4) (As := []) (rest := []) (f_Model_leaks_ok hst e4) (Nat.le_trans (by decide) hd) rfl kb_X11_312 ki_X11_leaks rfl g1 rfl rfl (Nat.le_of_ble_eq_true rfl) dX11_month_1 rfl rfl ?_
  refine Rn.aload_n (pc' := 5) dX11_month_4 rfl 0 rfl rfl ?_
  refine Rn.iconst (pc' := 6) (v := (-1 : Int32)) (hv := by decide) dX11_month_5 rfl ?_
  obtain ⟨g5, E⟩ := gd_of E
  refine Rn.putI (pc' := 9) fl_X11_315_10 (fun q hq => by cases hq; decide) g5 rfl rfl rfl dX11_month_6 rfl ?_
  replace E := wr_of E
  generalize eh7 : sI h3 x0 18 (-1 : Int32) = h6 at E ⊢
  refine Rn.iconst (pc' := 10) (v := (0 : Int32)) (hv := by decide) dX11_month_9 rfl ?_
  refine Rn.istore_n (pc' := 11) (L' := [(1, .int (0 : Int32)), (0, .ref x0)]) dX11_month_10 rfl (by decide) rfl rfl ?_
  refine Rn.iconst (pc' := 12) (v := (0 : Int32)) (hv := by decide) dX11_month_11 rfl ?_
  refine Rn.istore_n (pc' := 13) (L' := [(2, .int (0 : Int32)), (1, .int (0 : Int32)), (0, .ref x0)]) dX11_month_12 rfl (by decide) rfl rfl ?_
  refine Rn.sub [2, 1, 0] rfl ?_
  exact f_Model_month_L13_ok hst hd   FU _ _ _ _ _ E
def f_Model_month (h : Hp) (x0 : Nat) : Option (Int32 × Hp) := f_Model_month_b0  h x0
theorem f_Model_month_ok {l : Launch} {X : Nat × (Nat → Int32)} (hst : l.stackTraces = false) {h : Hp} {x0 : Nat} {r : Int32 × Hp} (E : f_Model_month h x0 = some r) : MC l X yX11_month mX11_month 7 [.ref x0] h (eI r) r.2 :=
  MC.body (by decide +kernel) rfl (by decide) hst (Nat.le_of_ble_eq_true rfl) (f_Model_month_b0_ok hst (Nat.le_refl _) E)
abbrev mX11_laysBack : MI := (RX11, cX11_laysBack, 2, none, [], false)
theorem ws_X11_laysBack : ∀ w ∈ wsM yX11_laysBack mX11_laysBack, w ∈ gw := List.forall_mem_cons.mpr ⟨gw_at 1852 (by decide +kernel) (by decide +kernel), fun _ h => h⟩
def f_Model_laysBack_b2  (k2 : Hp → Nat → Int32 → Option (Hp)) (h : Hp) (x0 : Nat) (x1 : Int32)  : Option (Hp) :=
if (617 : Int32) ≤ x1 then (
some h

) else (
if hS h x0 = 11 then (
if hS h (hR h x0 4) = 20 then (
if ib x1 (hL h (hR h x0 4)) = true then (
if hS h (hR h x0 1) = 20 then (
if ib x1 (hL h (hR h x0 1)) = true then (
wr (sI h (hR h x0 1) (ix x1) (hI h (hR h x0 4) (ix x1))) fun h7 =>
k2 h7 x0 (x1 + (1 : Int32))
) else none) else none) else none) else none) else none
)

set_option maxRecDepth 20000 in
set_option maxHeartbeats 4000000 in
theorem f_Model_laysBack_b2_ok {l : Launch} {X : Nat × (Nat → Int32)} (hst : l.stackTraces = false) {d : Nat} (hd : 0 ≤ d)   {k2 : Hp → Nat → Int32 → Option (Hp)} (hk2 : ∀ (h : Hp) (x0 : Nat) (x1 : Int32)  (r : Hp), k2 h x0 x1 = some r → Rn l X mX11_laysBack d 2 [(0, .ref x0), (1, .int x1)] [] h (eV r) r) {h : Hp} {x0 : Nat} {x1 : Int32}  {r : Hp} (E : f_Model_laysBack_b2  k2 h x0 x1 = some r) : Rn l X mX11_laysBack d 2 [(0, .ref x0), (1, .int x1)] [] h (eV r) r := by
  unfold f_Model_laysBack_b2 at E
  refine Rn.iload_n (pc' := 3) dX11_laysBack_2 rfl 1 rfl rfl ?_
  refine Rn.sipush (pc' := 6) (v := (617 : Int32)) (hv := by decide) dX11_laysBack_3 rfl ?_
  refine Rn.icmp_ge (pc' := 9) (tgt := 27) dX11_laysBack_6 (by decide) rfl (fun c1 => ?_) (fun c1 => ?_)
  · replace E := (if_of E).1 c1
    cases E
    exact Rn.vret rfl dX11_laysBack_27
  · replace E := (if_of E).2 c1
    refine Rn.aload_n (pc' := 10) dX11_laysBack_9 rfl 0 rfl rfl ?_
    obtain ⟨g2, E⟩ := gd_of E
    refine Rn.getR (pc' := 13) fl_X11_13_10 g2 rfl dX11_laysBack_10 rfl ?_
    refine Rn.iload_n (pc' := 14) dX11_laysBack_13 rfl 1 rfl rfl ?_
    refine Rn.aload_n (pc' := 15) dX11_laysBack_14 rfl 0 rfl rfl ?_
    refine Rn.getR (pc' := 18) fl_X11_23_10 g2 rfl dX11_laysBack_15 rfl ?_
    refine Rn.iload_n (pc' := 19) dX11_laysBack_18 rfl 1 rfl rfl ?_
    obtain ⟨g3, E⟩ := gd_of E
    obtain ⟨g4, E⟩ := gd_of E
    refine Rn.iald (pc' := 20) g3 g4 dX11_laysBack_19 rfl ?_
    obtain ⟨g5, E⟩ := gd_of E
    obtain ⟨g6, E⟩ := gd_of E
    refine Rn.iast (pc' := 21) g5 g6 dX11_laysBack_20 rfl ?_
    replace E := wr_of E
    generalize eh8 : sI h (hR h x0 1) (ix x1) (hI h (hR h x0 4) (ix x1)) = h7 at E ⊢
    refine Rn.iinc (pc' := 24) (v := (x1 + (1 : Int32))) (L' := [(1, .int (x1 + (1 : Int32))), (0, .ref x0)]) dX11_laysBack_21 1 rfl rfl (by decide) rfl rfl ?_
    refine Rn.goto (pc' := 2) dX11_laysBack_24 (by decide) ?_
    refine Rn.sub [1, 0] rfl ?_
    exact hk2 _ _ _ _ E
def f_Model_laysBack_L2   (n : Nat) : Hp → Nat → Int32 → Option (Hp) := Nat.rec (motive := fun _ => Hp → Nat → Int32 → Option (Hp)) (fun _ _ _ => none) (fun _ rec => f_Model_laysBack_b2   rec) n
theorem f_Model_laysBack_L2_ok {l : Launch} {X : Nat × (Nat → Int32)} (hst : l.stackTraces = false) {d : Nat} (hd : 0 ≤ d)     : ∀ (n : Nat) (h : Hp) (x0 : Nat) (x1 : Int32)  (r : Hp), f_Model_laysBack_L2   n h x0 x1 = some r → Rn l X mX11_laysBack d 2 [(0, .ref x0), (1, .int x1)] [] h (eV r) r := by
  intro n
  induction n with
  | zero => intro h x0 x1 r E; cases E
  | succ n ih => intro h x0 x1 r E; exact f_Model_laysBack_b2_ok hst hd   ih E
def f_Model_laysBack_b0   (h : Hp) (x0 : Nat)  : Option (Hp) :=
f_Model_laysBack_L2   FU h x0 (0 : Int32)

set_option maxRecDepth 20000 in
set_option maxHeartbeats 4000000 in
theorem f_Model_laysBack_b0_ok {l : Launch} {X : Nat × (Nat → Int32)} (hst : l.stackTraces = false) {d : Nat} (hd : 0 ≤ d)     {h : Hp} {x0 : Nat}  {r : Hp} (E : f_Model_laysBack_b0   h x0 = some r) : Rn l X mX11_laysBack d 0 [(0, .ref x0)] [] h (eV r) r := by
  unfold f_Model_laysBack_b0 at E
  refine Rn.iconst (pc' := 1) (v := (0 : Int32)) (hv := by decide) dX11_laysBack_0 rfl ?_
  refine Rn.istore_n (pc' := 2) (L' := [(1, .int (0 : Int32)), (0, .ref x0)]) dX11_laysBack_1 rfl (by decide) rfl rfl ?_
  refine Rn.sub [1, 0] rfl ?_
  exact f_Model_laysBack_L2_ok hst hd   FU _ _ _ _ E
def f_Model_laysBack (h : Hp) (x0 : Nat) : Option (Hp) := f_Model_laysBack_b0  h x0
theorem f_Model_laysBack_ok {l : Launch} {X : Nat × (Nat → Int32)} (hst : l.stackTraces = false) {h : Hp} {x0 : Nat} {r : Hp} (E : f_Model_laysBack h x0 = some r) : MC l X yX11_laysBack mX11_laysBack 0 [.ref x0] h (eV r) r :=
  MC.body (by decide +kernel) rfl (by decide) hst (Nat.le_of_ble_eq_true rfl) (f_Model_laysBack_b0_ok hst (Nat.le_refl _) E)
abbrev mX11_enough : MI := (RX11, cX11_enough, 6, (some Jvm.ClassFile.FieldType.int), [], false)
theorem ws_X11_enough : ∀ w ∈ wsM yX11_enough mX11_enough, w ∈ gw := List.forall_mem_cons.mpr ⟨gw_at 1933 (by decide +kernel) (by decide +kernel), fun _ h => h⟩
theorem kb_X11_335 : KB RX11 335 yX11_laysBack mX11_laysBack 0 := ⟨gw_at 1849 (by decide +kernel) (by decide +kernel), gw_at 117 (by decide +kernel) (by decide +kernel), trivial, ws_X11_laysBack, by decide +kernel, by decide +kernel, by decide +kernel, by decide⟩
theorem ki_X11_laysBack : Cond.instanceMethod yX11_laysBack ∈ gw ∧ Cond.selects yX11_laysBack.cls yX11_laysBack yX11_laysBack ∈ gw := ⟨gw_at 1851 (by decide +kernel) (by decide +kernel), gw_at 99 (by decide +kernel) (by decide +kernel)⟩
def f_Model_enough_b96  (k49 : Hp → Nat → Int32 → Int32 → Int32 → Int32 → Option (Int32 × Hp)) (h : Hp) (x0 : Nat) (x1 : Int32) (x2 : Int32) (x4 : Int32) (s0 : Int32) (s1 : Int32) : Option (Int32 × Hp) :=
if hS h x0 = 11 then (
bV (f_Model_laysBack h x0) fun h3 =>
k49 h3 x0 x1 x2 (s0 + s1) (x4 + (1 : Int32))
) else none
set_option maxRecDepth 20000 in
set_option maxHeartbeats 4000000 in
theorem f_Model_enough_b96_ok {l : Launch} {X : Nat × (Nat → Int32)} (hst : l.stackTraces = false) {d : Nat} (hd : 8 ≤ d)   {k49 : Hp → Nat → Int32 → Int32 → Int32 → Int32 → Option (Int32 × Hp)} (hk49 : ∀ (h : Hp) (x0 : Nat) (x1 : Int32) (x2 : Int32) (x3 : Int32) (x4 : Int32)  (r : Int32 × Hp), k49 h x0 x1 x2 x3 x4 = some r → Rn l X mX11_enough d 49 [(0, .ref x0), (1, .int x1), (2, .int x2), (3, .int x3), (4, .int x4)] [] h (eI r) r.2) {h : Hp} {x0 : Nat} {x1 : Int32} {x2 : Int32} {x4 : Int32} {s0 : Int32} {s1 : Int32} {r : Int32 × Hp} (E : f_Model_enough_b96  k49 h x0 x1 x2 x4 s0 s1 = some r) : Rn l X mX11_enough d 96 [(0, .ref x0), (1, .int x1), (2, .int x2), (4, .int x4)] [.int s1, .int s0] h (eI r) r.2 := by
  unfold f_Model_enough_b96 at E
  refine Rn.iadd (pc' := 97) dX11_enough_96 rfl ?_
  refine Rn.istore_n (pc' := 98) (L' := [(3, .int (s0 + s1)), (0, .ref x0), (1, .int x1), (2, .int x2), (4, .int x4)]) dX11_enough_97 rfl (by decide) rfl rfl ?_
  refine Rn.aload_n (pc' := 99) dX11_enough_98 rfl 1 rfl rfl ?_
  obtain ⟨g1, E⟩ := gd_of E
  obtain ⟨h3, e4, E⟩ := bV_of E
  refine Rn.callV1 (pc' := 102) (As := []) (rest := []) (f_Model_laysBack_ok hst e4) (Nat.le_trans (by decide) hd) rfl kb_X11_335 ki_X11_laysBack rfl g1 rfl rfl (Nat.le_of_ble_eq_true rfl) dX11_enough_99 rfl rfl ?_
  refine Rn.iinc (pc' := 105) (v := (x4 + (1 : Int32))) (L' := [(4, .int (x4 + (1 : Int32))), (3, .int (s0 + s1)), (0, .ref x0), (1, .int x1), (2, .int x2)]) dX11_enough_102 4 rfl rfl (by decide) rfl rfl ?_
  refine Rn.goto (pc' := 49) dX11_enough_105 (by decide) ?_
  refine Rn.sub [2, 3, 4, 1, 0] rfl ?_
  exact hk49 _ _ _ _ _ _ _ E
def f_Model_enough_b84  (k49 : Hp → Nat → Int32 → Int32 → Int32 → Int32 → Option (Int32 × Hp)) (h : Hp) (x0 : Nat) (x1 : Int32) (x2 : Int32) (x3 : Int32) (x4 : Int32) (x5 : Int32)  : Option (Int32 × Hp) :=
if x5 = x2 then (
f_Model_enough_b96  k49 h x0 x1 x2 x4 x3 (1 : Int32)

) else (
f_Model_enough_b96  k49 h x0 x1 x2 x4 x3 (0 : Int32)

)

set_option maxRecDepth 20000 in
set_option maxHeartbeats 4000000 in
theorem f_Model_enough_b84_ok {l : Launch} {X : Nat × (Nat → Int32)} (hst : l.stackTraces = false) {d : Nat} (hd : 8 ≤ d)   {k49 : Hp → Nat → Int32 → Int32 → Int32 → Int32 → Option (Int32 × Hp)} (hk49 : ∀ (h : Hp) (x0 : Nat) (x1 : Int32) (x2 : Int32) (x3 : Int32) (x4 : Int32)  (r : Int32 × Hp), k49 h x0 x1 x2 x3 x4 = some r → Rn l X mX11_enough d 49 [(0, .ref x0), (1, .int x1), (2, .int x2), (3, .int x3), (4, .int x4)] [] h (eI r) r.2) {h : Hp} {x0 : Nat} {x1 : Int32} {x2 : Int32} {x3 : Int32} {x4 : Int32} {x5 : Int32}  {r : Int32 × Hp} (E : f_Model_enough_b84  k49 h x0 x1 x2 x3 x4 x5 = some r) : Rn l X mX11_enough d 84 [(0, .ref x0), (1, .int x1), (2, .int x2), (3, .int x3), (4, .int x4), (5, .int x5)] [] h (eI r) r.2 := by
  unfold f_Model_enough_b84 at E
  refine Rn.iload_n (pc' := 85) dX11_enough_84 rfl 3 rfl rfl ?_
  refine Rn.iload (pc' := 87) dX11_enough_85 5 rfl rfl ?_
  refine Rn.iload_n (pc' := 88) dX11_enough_87 rfl 2 rfl rfl ?_
  refine Rn.icmp_ne (pc' := 91) (tgt := 95) dX11_enough_88 (by decide) rfl (fun c1 => ?_) (fun c1 => ?_)
  · replace E := (if_of E).2 c1
    refine Rn.iconst (pc' := 96) (v := (0 : Int32)) (hv := by decide) dX11_enough_95 rfl ?_
    refine Rn.sub [0, 1, 2, 4] rfl ?_
    exact f_Model_enough_b96_ok hst hd  hk49 E
  · replace E := (if_of E).1 c1
    refine Rn.iconst (pc' := 92) (v := (1 : Int32)) (hv := by decide) dX11_enough_91 rfl ?_
    refine Rn.goto (pc' := 96) dX11_enough_92 (by decide) ?_
    refine Rn.sub [0, 1, 2, 4] rfl ?_
    exact f_Model_enough_b96_ok hst hd  hk49 E
theorem kb_X11_327 : KB RX11 327 yX11_month mX11_month 0 := ⟨gw_at 1780 (by decide +kernel) (by decide +kernel), gw_at 117 (by decide +kernel) (by decide +kernel), trivial, ws_X11_month, by decide +kernel, by decide +kernel, by decide +kernel, by decide⟩
theorem ki_X11_month : Cond.instanceMethod yX11_month ∈ gw ∧ Cond.selects yX11_month.cls yX11_month yX11_month ∈ gw := ⟨gw_at 1782 (by decide +kernel) (by decide +kernel), gw_at 89 (by decide +kernel) (by decide +kernel)⟩
def f_Model_enough_b65  (k49 : Hp → Nat → Int32 → Int32 → Int32 → Int32 → Option (Int32 × Hp)) (k65 : Hp → Nat → Int32 → Int32 → Int32 → Int32 → Int32 → Option (Int32 × Hp)) (h : Hp) (x0 : Nat) (x1 : Int32) (x2 : Int32) (x3 : Int32) (x4 : Int32) (x5 : Int32)  : Option (Int32 × Hp) :=
if x2 ≤ x5 then (
f_Model_enough_b84  k49 h x0 x1 x2 x3 x4 x5

) else (
if hS h x0 = 11 then (
bI (f_Model_month h x0) fun v3 h4 =>
if v3 = 0 then (
k65 h4 x0 x1 x2 x3 x4 (x5 + (1 : Int32))

) else (
f_Model_enough_b84  k49 h4 x0 x1 x2 x3 x4 x5

)
) else none
)

set_option maxRecDepth 20000 in
set_option maxHeartbeats 4000000 in
theorem f_Model_enough_b65_ok {l : Launch} {X : Nat × (Nat → Int32)} (hst : l.stackTraces = false) {d : Nat} (hd : 8 ≤ d)   {k49 : Hp → Nat → Int32 → Int32 → Int32 → Int32 → Option (Int32 × Hp)} {k65 : Hp → Nat → Int32 → Int32 → Int32 → Int32 → Int32 → Option (Int32 × Hp)} (hk49 : ∀ (h : Hp) (x0 : Nat) (x1 : Int32) (x2 : Int32) (x3 : Int32) (x4 : Int32)  (r : Int32 × Hp), k49 h x0 x1 x2 x3 x4 = some r → Rn l X mX11_enough d 49 [(0, .ref x0), (1, .int x1), (2, .int x2), (3, .int x3), (4, .int x4)] [] h (eI r) r.2) (hk65 : ∀ (h : Hp) (x0 : Nat) (x1 : Int32) (x2 : Int32) (x3 : Int32) (x4 : Int32) (x5 : Int32)  (r : Int32 × Hp), k65 h x0 x1 x2 x3 x4 x5 = some r → Rn l X mX11_enough d 65 [(0, .ref x0), (1, .int x1), (2, .int x2), (3, .int x3), (4, .int x4), (5, .int x5)] [] h (eI r) r.2) {h : Hp} {x0 : Nat} {x1 : Int32} {x2 : Int32} {x3 : Int32} {x4 : Int32} {x5 : Int32}  {r : Int32 × Hp} (E : f_Model_enough_b65  k49 k65 h x0 x1 x2 x3 x4 x5 = some r) : Rn l X mX11_enough d 65 [(0, .ref x0), (1, .int x1), (2, .int x2), (3, .int x3), (4, .int x4), (5, .int x5)] [] h (eI r) r.2 := by
  unfold f_Model_enough_b65 at E
  refine Rn.iload (pc' := 67) dX11_enough_65 5 rfl rfl ?_
  refine Rn.iload_n (pc' := 68) dX11_enough_67 rfl 2 rfl rfl ?_
  refine Rn.icmp_ge (pc' := 71) (tgt := 84) dX11_enough_68 (by decide) rfl (fun c1 => ?_) (fun c1 => ?_)
  · replace E := (if_of E).1 c1
    exact f_Model_enough_b84_ok hst hd  hk49 E
  · replace E := (if_of E).2 c1
    refine Rn.aload_n (pc' := 72) dX11_enough_71 rfl 0 rfl rfl ?_
    obtain ⟨g2, E⟩ := gd_of E
    obtain ⟨v3, h4, e5, E⟩ := bI_of E
    refine Rn.callV1 (pc' := 75) (As := []) (rest := []) (f_Model_month_ok hst e5) (Nat.le_trans (by decide) hd) rfl kb_X11_327 ki_X11_month rfl g2 rfl rfl (Nat.le_of_ble_eq_true rfl) dX11_enough_72 rfl rfl ?_
    refine Rn.if_ne (pc' := 78) (tgt := 84) dX11_enough_75 (by decide) rfl (fun c6 => ?_) (fun c6 => ?_)
    · replace E := (if_of E).2 c6
      exact f_Model_enough_b84_ok hst hd  hk49 E
    · replace E := (if_of E).1 c6
      refine Rn.iinc (pc' := 81) (v := (x5 + (1 : Int32))) (L' := [(5, .int (x5 + (1 : Int32))), (0, .ref x0), (1, .int x1), (2, .int x2), (3, .int x3), (4, .int x4)]) dX11_enough_78 5 rfl rfl (by decide) rfl rfl ?_
      refine Rn.goto (pc' := 65) dX11_enough_81 (by decide) ?_
      refine Rn.sub [1, 2, 3, 4, 5, 0] rfl ?_
      exact hk65 _ _ _ _ _ _ _ _ E
def f_Model_enough_L65  (k49 : Hp → Nat → Int32 → Int32 → Int32 → Int32 → Option (Int32 × Hp)) (n : Nat) : Hp → Nat → Int32 → Int32 → Int32 → Int32 → Int32 → Option (Int32 × Hp) := Nat.rec (motive := fun _ => Hp → Nat → Int32 → Int32 → Int32 → Int32 → Int32 → Option (Int32 × Hp)) (fun _ _ _ _ _ _ _ => none) (fun _ rec => f_Model_enough_b65  k49 rec) n
theorem f_Model_enough_L65_ok {l : Launch} {X : Nat × (Nat → Int32)} (hst : l.stackTraces = false) {d : Nat} (hd : 8 ≤ d)   {k49 : Hp → Nat → Int32 → Int32 → Int32 → Int32 → Option (Int32 × Hp)} (hk49 : ∀ (h : Hp) (x0 : Nat) (x1 : Int32) (x2 : Int32) (x3 : Int32) (x4 : Int32)  (r : Int32 × Hp), k49 h x0 x1 x2 x3 x4 = some r → Rn l X mX11_enough d 49 [(0, .ref x0), (1, .int x1), (2, .int x2), (3, .int x3), (4, .int x4)] [] h (eI r) r.2) : ∀ (n : Nat) (h : Hp) (x0 : Nat) (x1 : Int32) (x2 : Int32) (x3 : Int32) (x4 : Int32) (x5 : Int32)  (r : Int32 × Hp), f_Model_enough_L65  k49 n h x0 x1 x2 x3 x4 x5 = some r → Rn l X mX11_enough d 65 [(0, .ref x0), (1, .int x1), (2, .int x2), (3, .int x3), (4, .int x4), (5, .int x5)] [] h (eI r) r.2 := by
  intro n
  induction n with
  | zero => intro h x0 x1 x2 x3 x4 x5 r E; cases E
  | succ n ih => intro h x0 x1 x2 x3 x4 x5 r E; exact f_Model_enough_b65_ok hst hd  hk49 ih E
theorem kb_X11_329 : KB RX11 329 yX11_winters mX11_winters 1 := ⟨gw_at 1821 (by decide +kernel) (by decide +kernel), gw_at 117 (by decide +kernel) (by decide +kernel), trivial, ws_X11_winters, by decide +kernel, by decide +kernel, by decide +kernel, by decide⟩
theorem ki_X11_winters : Cond.instanceMethod yX11_winters ∈ gw ∧ Cond.selects yX11_winters.cls yX11_winters yX11_winters ∈ gw := ⟨gw_at 1823 (by decide +kernel) (by decide +kernel), gw_at 96 (by decide +kernel) (by decide +kernel)⟩
def f_Model_enough_b49  (k49 : Hp → Nat → Int32 → Int32 → Int32 → Int32 → Option (Int32 × Hp)) (h : Hp) (x0 : Nat) (x1 : Int32) (x2 : Int32) (x3 : Int32) (x4 : Int32)  : Option (Int32 × Hp) :=
if x1 < x4 then (
some (x3, h)

) else (
if hS h x0 = 11 then (
bI (f_Model_winters h x0 x4) fun v3 h4 =>
f_Model_enough_L65  k49 FU h4 x0 x1 x2 x3 x4 (0 : Int32)
) else none
)

set_option maxRecDepth 20000 in
set_option maxHeartbeats 4000000 in
theorem f_Model_enough_b49_ok {l : Launch} {X : Nat × (Nat → Int32)} (hst : l.stackTraces = false) {d : Nat} (hd : 8 ≤ d)   {k49 : Hp → Nat → Int32 → Int32 → Int32 → Int32 → Option (Int32 × Hp)} (hk49 : ∀ (h : Hp) (x0 : Nat) (x1 : Int32) (x2 : Int32) (x3 : Int32) (x4 : Int32)  (r : Int32 × Hp), k49 h x0 x1 x2 x3 x4 = some r → Rn l X mX11_enough d 49 [(0, .ref x0), (1, .int x1), (2, .int x2), (3, .int x3), (4, .int x4)] [] h (eI r) r.2) {h : Hp} {x0 : Nat} {x1 : Int32} {x2 : Int32} {x3 : Int32} {x4 : Int32}  {r : Int32 × Hp} (E : f_Model_enough_b49  k49 h x0 x1 x2 x3 x4 = some r) : Rn l X mX11_enough d 49 [(0, .ref x0), (1, .int x1), (2, .int x2), (3, .int x3), (4, .int x4)] [] h (eI r) r.2 := by
  unfold f_Model_enough_b49 at E
  refine Rn.iload (pc' := 51) dX11_enough_49 4 rfl rfl ?_
  refine Rn.iload_n (pc' := 52) dX11_enough_51 rfl 1 rfl rfl ?_
  refine Rn.icmp_gt (pc' := 55) (tgt := 108) dX11_enough_52 (by decide) rfl (fun c1 => ?_) (fun c1 => ?_)
  · replace E := (if_of E).1 c1
    refine Rn.iload_n (pc' := 109) dX11_enough_108 rfl 3 rfl rfl ?_
    cases E
    exact Rn.zret rfl rfl dX11_enough_109
  · replace E := (if_of E).2 c1
    refine Rn.aload_n (pc' := 56) dX11_enough_55 rfl 0 rfl rfl ?_
    refine Rn.iload (pc' := 58) dX11_enough_56 4 rfl rfl ?_
    obtain ⟨g2, E⟩ := gd_of E
    obtain ⟨v3, h4, e5, E⟩ := bI_of E
    refine Rn.callV1 (pc' := 61) (As := [.int x4]) (rest := []) (f_Model_winters_ok hst e5) (Nat.le_trans (by decide) hd) rfl kb_X11_329 ki_X11_winters rfl g2 rfl rfl (Nat.le_of_ble_eq_true rfl) dX11_enough_58 rfl rfl ?_
    refine Rn.pop (pc' := 62) (hc := rfl) dX11_enough_61 rfl ?_
    refine Rn.iconst (pc' := 63) (v := (0 : Int32)) (hv := by decide) dX11_enough_62 rfl ?_
    refine Rn.istore (pc' := 65) (L' := [(5, .int (0 : Int32)), (0, .ref x0), (1, .int x1), (2, .int x2), (3, .int x3), (4, .int x4)]) dX11_enough_63 (by decide) rfl rfl ?_
    refine Rn.sub [1, 2, 3, 4, 5, 0] rfl ?_
    exact f_Model_enough_L65_ok hst hd  hk49 FU _ _ _ _ _ _ _ _ E
def f_Model_enough_L49   (n : Nat) : Hp → Nat → Int32 → Int32 → Int32 → Int32 → Option (Int32 × Hp) := Nat.rec (motive := fun _ => Hp → Nat → Int32 → Int32 → Int32 → Int32 → Option (Int32 × Hp)) (fun _ _ _ _ _ _ => none) (fun _ rec => f_Model_enough_b49   rec) n
theorem f_Model_enough_L49_ok {l : Launch} {X : Nat × (Nat → Int32)} (hst : l.stackTraces = false) {d : Nat} (hd : 8 ≤ d)     : ∀ (n : Nat) (h : Hp) (x0 : Nat) (x1 : Int32) (x2 : Int32) (x3 : Int32) (x4 : Int32)  (r : Int32 × Hp), f_Model_enough_L49   n h x0 x1 x2 x3 x4 = some r → Rn l X mX11_enough d 49 [(0, .ref x0), (1, .int x1), (2, .int x2), (3, .int x3), (4, .int x4)] [] h (eI r) r.2 := by
  intro n
  induction n with
  | zero => intro h x0 x1 x2 x3 x4 r E; cases E
  | succ n ih => intro h x0 x1 x2 x3 x4 r E; exact f_Model_enough_b49_ok hst hd   ih E
theorem kb_X11_332 : KB RX11 332 yX11_keeps mX11_keeps 0 := ⟨gw_at 1845 (by decide +kernel) (by decide +kernel), gw_at 117 (by decide +kernel) (by decide +kernel), trivial, ws_X11_keeps, by decide +kernel, by decide +kernel, by decide +kernel, by decide⟩
theorem ki_X11_keeps : Cond.instanceMethod yX11_keeps ∈ gw ∧ Cond.selects yX11_keeps.cls yX11_keeps yX11_keeps ∈ gw := ⟨gw_at 1847 (by decide +kernel) (by decide +kernel), gw_at 98 (by decide +kernel) (by decide +kernel)⟩
def f_Model_enough_b31   (h : Hp) (x0 : Nat) (x1 : Int32) (x2 : Int32) (s0 : Nat) (s1 : Int32) : Option (Int32 × Hp) :=
if hS h s0 = 11 then (
bI (f_Model_throwsIf h s0 s1 (1 : Int32)) fun v2 h3 =>
if v2 = 0 then (
if hS h3 x0 = 11 then (
bV (f_Model_keeps h3 x0) fun h8 =>
f_Model_enough_L49   FU h8 x0 x1 x2 (0 : Int32) (1 : Int32)
) else none
) else (
some ((0 : Int32), h3)

)
) else none
set_option maxRecDepth 20000 in
set_option maxHeartbeats 4000000 in
theorem f_Model_enough_b31_ok {l : Launch} {X : Nat × (Nat → Int32)} (hst : l.stackTraces = false) {d : Nat} (hd : 8 ≤ d)     {h : Hp} {x0 : Nat} {x1 : Int32} {x2 : Int32} {s0 : Nat} {s1 : Int32} {r : Int32 × Hp} (E : f_Model_enough_b31   h x0 x1 x2 s0 s1 = some r) : Rn l X mX11_enough d 31 [(0, .ref x0), (1, .int x1), (2, .int x2)] [.int s1, .ref s0] h (eI r) r.2 := by
  unfold f_Model_enough_b31 at E
  refine Rn.iconst (pc' := 32) (v := (1 : Int32)) (hv := by decide) dX11_enough_31 rfl ?_
  obtain ⟨g1, E⟩ := gd_of E
  obtain ⟨v2, h3, e4, E⟩ := bI_of E
  refine Rn.callV1 (pc' := 35) (As := [.int s1, .int (1 : Int32)]) (rest := []) (f_Model_throwsIf_ok hst e4) (Nat.le_trans (by decide) hd) rfl kb_X11_265 ki_X11_throwsIf rfl g1 rfl rfl (Nat.le_of_ble_eq_true rfl) dX11_enough_32 rfl rfl ?_
  refine Rn.if_eq (pc' := 38) (tgt := 40) dX11_enough_35 (by decide) rfl (fun c5 => ?_) (fun c5 => ?_)
  · replace E := (if_of E).1 c5
    refine Rn.aload_n (pc' := 41) dX11_enough_40 rfl 0 rfl rfl ?_
    obtain ⟨g6, E⟩ := gd_of E
    obtain ⟨h8, e9, E⟩ := bV_of E
    refine Rn.callV1 (pc' := 44) (As := []) (rest := []) (f_Model_keeps_ok hst e9) (Nat.le_trans (by decide) hd) rfl kb_X11_332 ki_X11_keeps rfl g6 rfl rfl (Nat.le_of_ble_eq_true rfl) dX11_enough_41 rfl rfl ?_
    refine Rn.iconst (pc' := 45) (v := (0 : Int32)) (hv := by decide) dX11_enough_44 rfl ?_
    refine Rn.istore_n (pc' := 46) (L' := [(3, .int (0 : Int32)), (0, .ref x0), (1, .int x1), (2, .int x2)]) dX11_enough_45 rfl (by decide) rfl rfl ?_
    refine Rn.iconst (pc' := 47) (v := (1 : Int32)) (hv := by decide) dX11_enough_46 rfl ?_
    refine Rn.istore (pc' := 49) (L' := [(4, .int (1 : Int32)), (3, .int (0 : Int32)), (0, .ref x0), (1, .int x1), (2, .int x2)]) dX11_enough_47 (by decide) rfl rfl ?_
    refine Rn.sub [2, 3, 4, 1, 0] rfl ?_
    exact f_Model_enough_L49_ok hst hd   FU _ _ _ _ _ _ _ E
  · replace E := (if_of E).2 c5
    refine Rn.iconst (pc' := 39) (v := (0 : Int32)) (hv := by decide) dX11_enough_38 rfl ?_
    cases E
    exact Rn.zret rfl rfl dX11_enough_39
def f_Model_enough_b26   (h : Hp) (x0 : Nat) (x1 : Int32) (x2 : Int32) (s0 : Nat) : Option (Int32 × Hp) :=
f_Model_enough_b31   h x0 x1 x2 s0 (1 : Int32)

set_option maxRecDepth 20000 in
set_option maxHeartbeats 4000000 in
theorem f_Model_enough_b26_ok {l : Launch} {X : Nat × (Nat → Int32)} (hst : l.stackTraces = false) {d : Nat} (hd : 8 ≤ d)     {h : Hp} {x0 : Nat} {x1 : Int32} {x2 : Int32} {s0 : Nat} {r : Int32 × Hp} (E : f_Model_enough_b26   h x0 x1 x2 s0 = some r) : Rn l X mX11_enough d 26 [(0, .ref x0), (1, .int x1), (2, .int x2)] [.ref s0] h (eI r) r.2 := by
  unfold f_Model_enough_b26 at E
  refine Rn.iconst (pc' := 27) (v := (1 : Int32)) (hv := by decide) dX11_enough_26 rfl ?_
  refine Rn.goto (pc' := 31) dX11_enough_27 (by decide) ?_
  exact f_Model_enough_b31_ok hst hd   E
def f_Model_enough_b0   (h : Hp) (x0 : Nat) (x1 : Int32) (x2 : Int32)  : Option (Int32 × Hp) :=
if hS h x0 = 11 then (
wr (sI h x0 0 (0 : Int32)) fun h2 =>
bI (f_Model_in h2 x1 (1 : Int32) (60 : Int32)) fun v4 h5 =>
if v4 = 0 then (
f_Model_enough_b26   h5 x0 x1 x2 x0

) else (
bI (f_Model_in h5 x2 (1 : Int32) (24 : Int32)) fun v8 h9 =>
if v8 = 0 then (
f_Model_enough_b26   h9 x0 x1 x2 x0

) else (
f_Model_enough_b31   h9 x0 x1 x2 x0 (0 : Int32)

)

)
) else none
set_option maxRecDepth 20000 in
set_option maxHeartbeats 4000000 in
theorem f_Model_enough_b0_ok {l : Launch} {X : Nat × (Nat → Int32)} (hst : l.stackTraces = false) {d : Nat} (hd : 8 ≤ d)     {h : Hp} {x0 : Nat} {x1 : Int32} {x2 : Int32}  {r : Int32 × Hp} (E : f_Model_enough_b0   h x0 x1 x2 = some r) : Rn l X mX11_enough d 0 [(0, .ref x0), (1, .int x1), (2, .int x2)] [] h (eI r) r.2 := by
  unfold f_Model_enough_b0 at E
  refine Rn.aload_n (pc' := 1) dX11_enough_0 rfl 0 rfl rfl ?_
  refine Rn.iconst (pc' := 2) (v := (0 : Int32)) (hv := by decide) dX11_enough_1 rfl ?_
  obtain ⟨g1, E⟩ := gd_of E
  refine Rn.putI (pc' := 5) fl_X11_3_10 (fun q hq => by cases hq; decide) g1 rfl rfl rfl dX11_enough_2 rfl ?_
  replace E := wr_of E
  generalize eh3 : sI h x0 0 (0 : Int32) = h2 at E ⊢
  refine Rn.aload_n (pc' := 6) dX11_enough_5 rfl 0 rfl rfl ?_
  refine Rn.iload_n (pc' := 7) dX11_enough_6 rfl 1 rfl rfl ?_
  refine Rn.iconst (pc' := 8) (v := (1 : Int32)) (hv := by decide) dX11_enough_7 rfl ?_
  refine Rn.bipush (pc' := 10) (v := (60 : Int32)) (hv := by decide) dX11_enough_8 rfl ?_
  obtain ⟨v4, h5, e6, E⟩ := bI_of E
  refine Rn.callS1 (pc' := 13) (As := [.int x1, .int (1 : Int32), .int (60 : Int32)]) (rest := [.ref x0]) (f_Model_in_ok hst e6) (Nat.le_trans (by decide) hd) rfl kb_X11_56 ks_X11_in rfl rfl (Nat.le_of_ble_eq_true rfl) dX11_enough_10 rfl rfl ?_
  refine Rn.if_eq (pc' := 16) (tgt := 26) dX11_enough_13 (by decide) rfl (fun c7 => ?_) (fun c7 => ?_)
  · replace E := (if_of E).1 c7
    exact f_Model_enough_b26_ok hst hd   E
  · replace E := (if_of E).2 c7
    refine Rn.iload_n (pc' := 17) dX11_enough_16 rfl 2 rfl rfl ?_
    refine Rn.iconst (pc' := 18) (v := (1 : Int32)) (hv := by decide) dX11_enough_17 rfl ?_
    refine Rn.bipush (pc' := 20) (v := (24 : Int32)) (hv := by decide) dX11_enough_18 rfl ?_
    obtain ⟨v8, h9, e10, E⟩ := bI_of E
    refine Rn.callS1 (pc' := 23) (As := [.int x2, .int (1 : Int32), .int (24 : Int32)]) (rest := [.ref x0]) (f_Model_in_ok hst e10) (Nat.le_trans (by decide) hd) rfl kb_X11_56 ks_X11_in rfl rfl (Nat.le_of_ble_eq_true rfl) dX11_enough_20 rfl rfl ?_
    refine Rn.if_ne (pc' := 26) (tgt := 30) dX11_enough_23 (by decide) rfl (fun c11 => ?_) (fun c11 => ?_)
    · replace E := (if_of E).2 c11
      refine Rn.iconst (pc' := 31) (v := (0 : Int32)) (hv := by decide) dX11_enough_30 rfl ?_
      exact f_Model_enough_b31_ok hst hd   E
    · replace E := (if_of E).1 c11
      exact f_Model_enough_b26_ok hst hd   E
def f_Model_enough (h : Hp) (x0 : Nat) (x1 : Int32) (x2 : Int32) : Option (Int32 × Hp) := f_Model_enough_b0  h x0 x1 x2
theorem f_Model_enough_ok {l : Launch} {X : Nat × (Nat → Int32)} (hst : l.stackTraces = false) {h : Hp} {x0 : Nat} {x1 : Int32} {x2 : Int32} {r : Int32 × Hp} (E : f_Model_enough h x0 x1 x2 = some r) : MC l X yX11_enough mX11_enough 8 [.ref x0, .int x1, .int x2] h (eI r) r.2 :=
  MC.body (by decide +kernel) rfl (by decide) hst (Nat.le_of_ble_eq_true rfl) (f_Model_enough_b0_ok hst (Nat.le_refl _) E)
abbrev mX3_hasHouse : MI := (RX3, cX3_hasHouse, 2, (some Jvm.ClassFile.FieldType.boolean), [], false)
theorem ws_X3_hasHouse : ∀ w ∈ wsM yX3_hasHouse mX3_hasHouse, w ∈ gw := List.forall_mem_cons.mpr ⟨gw_at 671 (by decide +kernel) (by decide +kernel), fun _ h => h⟩
def f_Land_hasHouse_b0   (h : Hp) (x0 : Nat) (x1 : Int32)  : Option (Int32 × Hp) :=
if x1 < 0 then (
some ((0 : Int32), h)

) else (
if hS h x0 = 4 then (
if (hI h x0 1) ≤ x1 then (
some ((0 : Int32), h)

) else (
if (8 : Int32) < (hI h x0 1) then (
some ((0 : Int32), h)

) else (
some ((1 : Int32), h)

)

)
) else none
)

set_option maxRecDepth 20000 in
set_option maxHeartbeats 4000000 in
theorem f_Land_hasHouse_b0_ok {l : Launch} {X : Nat × (Nat → Int32)} (hst : l.stackTraces = false) {d : Nat} (hd : 0 ≤ d)     {h : Hp} {x0 : Nat} {x1 : Int32}  {r : Int32 × Hp} (E : f_Land_hasHouse_b0   h x0 x1 = some r) : Rn l X mX3_hasHouse d 0 [(0, .ref x0), (1, .int x1)] [] h (eI r) r.2 := by
  unfold f_Land_hasHouse_b0 at E
  refine Rn.iload_n (pc' := 1) dX3_hasHouse_0 rfl 1 rfl rfl ?_
  refine Rn.if_lt (pc' := 4) (tgt := 25) dX3_hasHouse_1 (by decide) rfl (fun c1 => ?_) (fun c1 => ?_)
  · replace E := (if_of E).1 c1
    refine Rn.iconst (pc' := 26) (v := (0 : Int32)) (hv := by decide) dX3_hasHouse_25 rfl ?_
    cases E
    exact Rn.zret rfl rfl dX3_hasHouse_26
  · replace E := (if_of E).2 c1
    refine Rn.iload_n (pc' := 5) dX3_hasHouse_4 rfl 1 rfl rfl ?_
    refine Rn.aload_n (pc' := 6) dX3_hasHouse_5 rfl 0 rfl rfl ?_
    obtain ⟨g2, E⟩ := gd_of E
    refine Rn.getI (pc' := 9) fl_X3_46_3 g2 rfl dX3_hasHouse_6 rfl ?_
    refine Rn.icmp_ge (pc' := 12) (tgt := 25) dX3_hasHouse_9 (by decide) rfl (fun c3 => ?_) (fun c3 => ?_)
    · replace E := (if_of E).1 c3
      refine Rn.iconst (pc' := 26) (v := (0 : Int32)) (hv := by decide) dX3_hasHouse_25 rfl ?_
      cases E
      exact Rn.zret rfl rfl dX3_hasHouse_26
    · replace E := (if_of E).2 c3
      refine Rn.aload_n (pc' := 13) dX3_hasHouse_12 rfl 0 rfl rfl ?_
      refine Rn.getI (pc' := 16) fl_X3_46_3 g2 rfl dX3_hasHouse_13 rfl ?_
      refine Rn.bipush (pc' := 18) (v := (8 : Int32)) (hv := by decide) dX3_hasHouse_16 rfl ?_
      refine Rn.icmp_gt (pc' := 21) (tgt := 25) dX3_hasHouse_18 (by decide) rfl (fun c4 => ?_) (fun c4 => ?_)
      · replace E := (if_of E).1 c4
        refine Rn.iconst (pc' := 26) (v := (0 : Int32)) (hv := by decide) dX3_hasHouse_25 rfl ?_
        cases E
        exact Rn.zret rfl rfl dX3_hasHouse_26
      · replace E := (if_of E).2 c4
        refine Rn.iconst (pc' := 22) (v := (1 : Int32)) (hv := by decide) dX3_hasHouse_21 rfl ?_
        refine Rn.goto (pc' := 26) dX3_hasHouse_22 (by decide) ?_
        cases E
        exact Rn.zret rfl rfl dX3_hasHouse_26
def f_Land_hasHouse (h : Hp) (x0 : Nat) (x1 : Int32) : Option (Int32 × Hp) := f_Land_hasHouse_b0  h x0 x1
theorem f_Land_hasHouse_ok {l : Launch} {X : Nat × (Nat → Int32)} (hst : l.stackTraces = false) {h : Hp} {x0 : Nat} {x1 : Int32} {r : Int32 × Hp} (E : f_Land_hasHouse h x0 x1 = some r) : MC l X yX3_hasHouse mX3_hasHouse 0 [.ref x0, .int x1] h (eI r) r.2 :=
  MC.body (by decide +kernel) rfl (by decide) hst (Nat.le_of_ble_eq_true rfl) (f_Land_hasHouse_b0_ok hst (Nat.le_refl _) E)
abbrev mX3_drinkBy : MI := (RX3, cX3_drinkBy, 4, (some Jvm.ClassFile.FieldType.int), [], false)
theorem ws_X3_drinkBy : ∀ w ∈ wsM yX3_drinkBy mX3_drinkBy, w ∈ gw := List.forall_mem_cons.mpr ⟨gw_at 667 (by decide +kernel) (by decide +kernel), fun _ h => h⟩
def f_Land_drinkBy_b43  (k4 : Hp → Nat → Nat → Int32 → Int32 → Option (Int32 × Hp)) (h : Hp) (x0 : Nat) (x1 : Nat) (x2 : Int32) (x3 : Int32)  : Option (Int32 × Hp) :=
k4 h x0 x1 x2 (x3 + (1 : Int32))

set_option maxRecDepth 20000 in
set_option maxHeartbeats 4000000 in
theorem f_Land_drinkBy_b43_ok {l : Launch} {X : Nat × (Nat → Int32)} (hst : l.stackTraces = false) {d : Nat} (hd : 5 ≤ d)   {k4 : Hp → Nat → Nat → Int32 → Int32 → Option (Int32 × Hp)} (hk4 : ∀ (h : Hp) (x0 : Nat) (x1 : Nat) (x2 : Int32) (x3 : Int32)  (r : Int32 × Hp), k4 h x0 x1 x2 x3 = some r → Rn l X mX3_drinkBy d 4 [(0, .ref x0), (1, .ref x1), (2, .int x2), (3, .int x3)] [] h (eI r) r.2) {h : Hp} {x0 : Nat} {x1 : Nat} {x2 : Int32} {x3 : Int32}  {r : Int32 × Hp} (E : f_Land_drinkBy_b43  k4 h x0 x1 x2 x3 = some r) : Rn l X mX3_drinkBy d 43 [(0, .ref x0), (1, .ref x1), (2, .int x2), (3, .int x3)] [] h (eI r) r.2 := by
  unfold f_Land_drinkBy_b43 at E
  refine Rn.iinc (pc' := 46) (v := (x3 + (1 : Int32))) (L' := [(3, .int (x3 + (1 : Int32))), (0, .ref x0), (1, .ref x1), (2, .int x2)]) dX3_drinkBy_43 3 rfl rfl (by decide) rfl rfl ?_
  refine Rn.goto (pc' := 4) dX3_drinkBy_46 (by decide) ?_
  refine Rn.sub [1, 2, 3, 0] rfl ?_
  exact hk4 _ _ _ _ _ _ E
theorem kb_X3_167 : KB RX3 167 yX3_hasHouse mX3_hasHouse 1 := ⟨gw_at 668 (by decide +kernel) (by decide +kernel), gw_at 113 (by decide +kernel) (by decide +kernel), trivial, ws_X3_hasHouse, by decide +kernel, by decide +kernel, by decide +kernel, by decide⟩
theorem ki_X3_hasHouse : Cond.instanceMethod yX3_hasHouse ∈ gw ∧ Cond.selects yX3_hasHouse.cls yX3_hasHouse yX3_hasHouse ∈ gw := ⟨gw_at 670 (by decide +kernel) (by decide +kernel), gw_at 8 (by decide +kernel) (by decide +kernel)⟩
def f_Land_drinkBy_b4  (k4 : Hp → Nat → Nat → Int32 → Int32 → Option (Int32 × Hp)) (h : Hp) (x0 : Nat) (x1 : Nat) (x2 : Int32) (x3 : Int32)  : Option (Int32 × Hp) :=
if hS h x0 = 4 then (
if (hI h x0 1) ≤ x3 then (
some (x2, h)

) else (
if hS h x1 = 20 then (
if (Int32.ofNat (hL h x1)) ≤ x3 then (
some (x2, h)

) else (
if ib x3 (hL h x1) = true then (
bI (f_Land_hasHouse h x0 (hI h x1 (ix x3))) fun v6 h7 =>
if v6 = 0 then (
f_Land_drinkBy_b43  k4 h7 x0 x1 x2 x3

) else (
if hS h7 x0 = 4 then (
if hS h7 x1 = 20 then (
if ib x3 (hL h7 x1) = true then (
if hS h7 (hR h7 x0 4) = 24 then (
if ib (hI h7 x1 (ix x3)) (hL h7 (hR h7 x0 4)) = true then (
bI (f_Land_lackOf h7 x0 (hR h7 (hR h7 x0 4) (ix (hI h7 x1 (ix x3))))) fun v15 h16 =>
f_Land_drinkBy_b43  k4 h16 x0 x1 (x2 + v15) x3
) else none) else none) else none) else none) else none
)
) else none
)
) else none
)
) else none
set_option maxRecDepth 20000 in
set_option maxHeartbeats 4000000 in
theorem f_Land_drinkBy_b4_ok {l : Launch} {X : Nat × (Nat → Int32)} (hst : l.stackTraces = false) {d : Nat} (hd : 5 ≤ d)   {k4 : Hp → Nat → Nat → Int32 → Int32 → Option (Int32 × Hp)} (hk4 : ∀ (h : Hp) (x0 : Nat) (x1 : Nat) (x2 : Int32) (x3 : Int32)  (r : Int32 × Hp), k4 h x0 x1 x2 x3 = some r → Rn l X mX3_drinkBy d 4 [(0, .ref x0), (1, .ref x1), (2, .int x2), (3, .int x3)] [] h (eI r) r.2) {h : Hp} {x0 : Nat} {x1 : Nat} {x2 : Int32} {x3 : Int32}  {r : Int32 × Hp} (E : f_Land_drinkBy_b4  k4 h x0 x1 x2 x3 = some r) : Rn l X mX3_drinkBy d 4 [(0, .ref x0), (1, .ref x1), (2, .int x2), (3, .int x3)] [] h (eI r) r.2 := by
  unfold f_Land_drinkBy_b4 at E
  refine Rn.iload_n (pc' := 5) dX3_drinkBy_4 rfl 3 rfl rfl ?_
  refine Rn.aload_n (pc' := 6) dX3_drinkBy_5 rfl 0 rfl rfl ?_
  obtain ⟨g1, E⟩ := gd_of E
  refine Rn.getI (pc' := 9) fl_X3_46_3 g1 rfl dX3_drinkBy_6 rfl ?_
  refine Rn.icmp_ge (pc' := 12) (tgt := 49) dX3_drinkBy_9 (by decide) rfl (fun c2 => ?_) (fun c2 => ?_)
  · replace E := (if_of E).1 c2
    refine Rn.iload_n (pc' := 50) dX3_drinkBy_49 rfl 2 rfl rfl ?_
    cases E
    exact Rn.zret rfl rfl dX3_drinkBy_50
  · replace E := (if_of E).2 c2
    refine Rn.iload_n (pc' := 13) dX3_drinkBy_12 rfl 3 rfl rfl ?_
    refine Rn.aload_n (pc' := 14) dX3_drinkBy_13 rfl 1 rfl rfl ?_
    obtain ⟨g3, E⟩ := gd_of E
    refine Rn.alen (pc' := 15) g3 (by decide) (by decide) dX3_drinkBy_14 rfl ?_
    refine Rn.icmp_ge (pc' := 18) (tgt := 49) dX3_drinkBy_15 (by decide) rfl (fun c4 => ?_) (fun c4 => ?_)
    · replace E := (if_of E).1 c4
      refine Rn.iload_n (pc' := 50) dX3_drinkBy_49 rfl 2 rfl rfl ?_
      cases E
      exact Rn.zret rfl rfl dX3_drinkBy_50
    · replace E := (if_of E).2 c4
      refine Rn.aload_n (pc' := 19) dX3_drinkBy_18 rfl 0 rfl rfl ?_
      refine Rn.aload_n (pc' := 20) dX3_drinkBy_19 rfl 1 rfl rfl ?_
      refine Rn.iload_n (pc' := 21) dX3_drinkBy_20 rfl 3 rfl rfl ?_
      obtain ⟨g5, E⟩ := gd_of E
      refine Rn.iald (pc' := 22) g3 g5 dX3_drinkBy_21 rfl ?_
      obtain ⟨v6, h7, e8, E⟩ := bI_of E
      refine Rn.callV1 (pc' := 25) (As := [.int (hI h x1 (ix x3))]) (rest := []) (f_Land_hasHouse_ok hst e8) (Nat.le_trans (by decide) hd) rfl kb_X3_167 ki_X3_hasHouse rfl g1 rfl rfl (Nat.le_of_ble_eq_true rfl) dX3_drinkBy_22 rfl rfl ?_
      refine Rn.if_eq (pc' := 28) (tgt := 43) dX3_drinkBy_25 (by decide) rfl (fun c9 => ?_) (fun c9 => ?_)
      · replace E := (if_of E).1 c9
        exact f_Land_drinkBy_b43_ok hst hd  hk4 E
      · replace E := (if_of E).2 c9
        refine Rn.iload_n (pc' := 29) dX3_drinkBy_28 rfl 2 rfl rfl ?_
        refine Rn.aload_n (pc' := 30) dX3_drinkBy_29 rfl 0 rfl rfl ?_
        refine Rn.aload_n (pc' := 31) dX3_drinkBy_30 rfl 0 rfl rfl ?_
        obtain ⟨g10, E⟩ := gd_of E
        refine Rn.getR (pc' := 34) fl_X3_19_3 g10 rfl dX3_drinkBy_31 rfl ?_
        refine Rn.aload_n (pc' := 35) dX3_drinkBy_34 rfl 1 rfl rfl ?_
        refine Rn.iload_n (pc' := 36) dX3_drinkBy_35 rfl 3 rfl rfl ?_
        obtain ⟨g11, E⟩ := gd_of E
        obtain ⟨g12, E⟩ := gd_of E
        refine Rn.iald (pc' := 37) g11 g12 dX3_drinkBy_36 rfl ?_
        obtain ⟨g13, E⟩ := gd_of E
        obtain ⟨g14, E⟩ := gd_of E
        refine Rn.aald (pc' := 38) g13 (by decide) (by decide) g14 dX3_drinkBy_37 rfl ?_
        obtain ⟨v15, h16, e17, E⟩ := bI_of E
        refine Rn.callV1 (pc' := 41) (As := [.ref (hR h7 (hR h7 x0 4) (ix (hI h7 x1 (ix x3))))]) (rest := [.int x2]) (f_Land_lackOf_ok hst e17) (Nat.le_trans (by decide) hd) rfl kb_X3_137 ki_X3_lackOf rfl g10 rfl rfl (Nat.le_of_ble_eq_true rfl) dX3_drinkBy_38 rfl rfl ?_
        refine Rn.iadd (pc' := 42) dX3_drinkBy_41 rfl ?_
        refine Rn.istore_n (pc' := 43) (L' := [(2, .int (x2 + v15)), (0, .ref x0), (1, .ref x1), (3, .int x3)]) dX3_drinkBy_42 rfl (by decide) rfl rfl ?_
        refine Rn.sub [1, 2, 0, 3] rfl ?_
        exact f_Land_drinkBy_b43_ok hst hd  hk4 E
def f_Land_drinkBy_L4   (n : Nat) : Hp → Nat → Nat → Int32 → Int32 → Option (Int32 × Hp) := Nat.rec (motive := fun _ => Hp → Nat → Nat → Int32 → Int32 → Option (Int32 × Hp)) (fun _ _ _ _ _ => none) (fun _ rec => f_Land_drinkBy_b4   rec) n
theorem f_Land_drinkBy_L4_ok {l : Launch} {X : Nat × (Nat → Int32)} (hst : l.stackTraces = false) {d : Nat} (hd : 5 ≤ d)     : ∀ (n : Nat) (h : Hp) (x0 : Nat) (x1 : Nat) (x2 : Int32) (x3 : Int32)  (r : Int32 × Hp), f_Land_drinkBy_L4   n h x0 x1 x2 x3 = some r → Rn l X mX3_drinkBy d 4 [(0, .ref x0), (1, .ref x1), (2, .int x2), (3, .int x3)] [] h (eI r) r.2 := by
  intro n
  induction n with
  | zero => intro h x0 x1 x2 x3 r E; cases E
  | succ n ih => intro h x0 x1 x2 x3 r E; exact f_Land_drinkBy_b4_ok hst hd   ih E
def f_Land_drinkBy_b0   (h : Hp) (x0 : Nat) (x1 : Nat)  : Option (Int32 × Hp) :=
f_Land_drinkBy_L4   FU h x0 x1 (0 : Int32) (0 : Int32)

set_option maxRecDepth 20000 in
set_option maxHeartbeats 4000000 in
theorem f_Land_drinkBy_b0_ok {l : Launch} {X : Nat × (Nat → Int32)} (hst : l.stackTraces = false) {d : Nat} (hd : 5 ≤ d)     {h : Hp} {x0 : Nat} {x1 : Nat}  {r : Int32 × Hp} (E : f_Land_drinkBy_b0   h x0 x1 = some r) : Rn l X mX3_drinkBy d 0 [(0, .ref x0), (1, .ref x1)] [] h (eI r) r.2 := by
  unfold f_Land_drinkBy_b0 at E
  refine Rn.iconst (pc' := 1) (v := (0 : Int32)) (hv := by decide) dX3_drinkBy_0 rfl ?_
  refine Rn.istore_n (pc' := 2) (L' := [(2, .int (0 : Int32)), (0, .ref x0), (1, .ref x1)]) dX3_drinkBy_1 rfl (by decide) rfl rfl ?_
  refine Rn.iconst (pc' := 3) (v := (0 : Int32)) (hv := by decide) dX3_drinkBy_2 rfl ?_
  refine Rn.istore_n (pc' := 4) (L' := [(3, .int (0 : Int32)), (2, .int (0 : Int32)), (0, .ref x0), (1, .ref x1)]) dX3_drinkBy_3 rfl (by decide) rfl rfl ?_
  refine Rn.sub [2, 3, 1, 0] rfl ?_
  exact f_Land_drinkBy_L4_ok hst hd   FU _ _ _ _ _ _ E
def f_Land_drinkBy (h : Hp) (x0 : Nat) (x1 : Nat) : Option (Int32 × Hp) := f_Land_drinkBy_b0  h x0 x1
theorem f_Land_drinkBy_ok {l : Launch} {X : Nat × (Nat → Int32)} (hst : l.stackTraces = false) {h : Hp} {x0 : Nat} {x1 : Nat} {r : Int32 × Hp} (E : f_Land_drinkBy h x0 x1 = some r) : MC l X yX3_drinkBy mX3_drinkBy 5 [.ref x0, .ref x1] h (eI r) r.2 :=
  MC.body (by decide +kernel) rfl (by decide) hst (Nat.le_of_ble_eq_true rfl) (f_Land_drinkBy_b0_ok hst (Nat.le_refl _) E)
abbrev mX10_figuresOf : MI := (RX10, cX10_figuresOf, 4, (some Jvm.ClassFile.FieldType.int), [], false)
theorem ws_X10_figuresOf : ∀ w ∈ wsM yX10_figuresOf mX10_figuresOf, w ∈ gw := List.forall_mem_cons.mpr ⟨gw_at 674 (by decide +kernel) (by decide +kernel), fun _ h => h⟩
def f_Water_figuresOf_b4  (k4 : Hp → Nat → Int32 → Int32 → Int32 → Option (Int32 × Hp)) (h : Hp) (x0 : Nat) (x1 : Int32) (x2 : Int32) (x3 : Int32)  : Option (Int32 × Hp) :=
if x1 ≤ x3 then (
some (x2, h)

) else (
if hS h x0 = 20 then (
if (Int32.ofNat (hL h x0)) ≤ x3 then (
some (x2, h)

) else (
if ib x3 (hL h x0) = true then (
k4 h x0 x1 (((8 : Int32) * x2) + (hI h x0 (ix x3))) (x3 + (1 : Int32))
) else none
)
) else none
)

set_option maxRecDepth 20000 in
set_option maxHeartbeats 4000000 in
theorem f_Water_figuresOf_b4_ok {l : Launch} {X : Nat × (Nat → Int32)} (hst : l.stackTraces = false) {d : Nat} (hd : 0 ≤ d)   {k4 : Hp → Nat → Int32 → Int32 → Int32 → Option (Int32 × Hp)} (hk4 : ∀ (h : Hp) (x0 : Nat) (x1 : Int32) (x2 : Int32) (x3 : Int32)  (r : Int32 × Hp), k4 h x0 x1 x2 x3 = some r → Rn l X mX10_figuresOf d 4 [(0, .ref x0), (1, .int x1), (2, .int x2), (3, .int x3)] [] h (eI r) r.2) {h : Hp} {x0 : Nat} {x1 : Int32} {x2 : Int32} {x3 : Int32}  {r : Int32 × Hp} (E : f_Water_figuresOf_b4  k4 h x0 x1 x2 x3 = some r) : Rn l X mX10_figuresOf d 4 [(0, .ref x0), (1, .int x1), (2, .int x2), (3, .int x3)] [] h (eI r) r.2 := by
  unfold f_Water_figuresOf_b4 at E
  refine Rn.iload_n (pc' := 5) dX10_figuresOf_4 rfl 3 rfl rfl ?_
  refine Rn.iload_n (pc' := 6) dX10_figuresOf_5 rfl 1 rfl rfl ?_
  refine Rn.icmp_ge (pc' := 9) (tgt := 30) dX10_figuresOf_6 (by decide) rfl (fun c1 => ?_) (fun c1 => ?_)
  · replace E := (if_of E).1 c1
    refine Rn.iload_n (pc' := 31) dX10_figuresOf_30 rfl 2 rfl rfl ?_
    cases E
    exact Rn.zret rfl rfl dX10_figuresOf_31
  · replace E := (if_of E).2 c1
    refine Rn.iload_n (pc' := 10) dX10_figuresOf_9 rfl 3 rfl rfl ?_
    refine Rn.aload_n (pc' := 11) dX10_figuresOf_10 rfl 0 rfl rfl ?_
    obtain ⟨g2, E⟩ := gd_of E
    refine Rn.alen (pc' := 12) g2 (by decide) (by decide) dX10_figuresOf_11 rfl ?_
    refine Rn.icmp_ge (pc' := 15) (tgt := 30) dX10_figuresOf_12 (by decide) rfl (fun c3 => ?_) (fun c3 => ?_)
    · replace E := (if_of E).1 c3
      refine Rn.iload_n (pc' := 31) dX10_figuresOf_30 rfl 2 rfl rfl ?_
      cases E
      exact Rn.zret rfl rfl dX10_figuresOf_31
    · replace E := (if_of E).2 c3
      refine Rn.bipush (pc' := 17) (v := (8 : Int32)) (hv := by decide) dX10_figuresOf_15 rfl ?_
      refine Rn.iload_n (pc' := 18) dX10_figuresOf_17 rfl 2 rfl rfl ?_
      refine Rn.imul (pc' := 19) dX10_figuresOf_18 rfl ?_
      refine Rn.aload_n (pc' := 20) dX10_figuresOf_19 rfl 0 rfl rfl ?_
      refine Rn.iload_n (pc' := 21) dX10_figuresOf_20 rfl 3 rfl rfl ?_
      obtain ⟨g4, E⟩ := gd_of E
      refine Rn.iald (pc' := 22) g2 g4 dX10_figuresOf_21 rfl ?_
      refine Rn.iadd (pc' := 23) dX10_figuresOf_22 rfl ?_
      refine Rn.istore_n (pc' := 24) (L' := [(2, .int (((8 : Int32) * x2) + (hI h x0 (ix x3)))), (0, .ref x0), (1, .int x1), (3, .int x3)]) dX10_figuresOf_23 rfl (by decide) rfl rfl ?_
      refine Rn.iinc (pc' := 27) (v := (x3 + (1 : Int32))) (L' := [(3, .int (x3 + (1 : Int32))), (2, .int (((8 : Int32) * x2) + (hI h x0 (ix x3)))), (0, .ref x0), (1, .int x1)]) dX10_figuresOf_24 3 rfl rfl (by decide) rfl rfl ?_
      refine Rn.goto (pc' := 4) dX10_figuresOf_27 (by decide) ?_
      refine Rn.sub [2, 3, 1, 0] rfl ?_
      exact hk4 _ _ _ _ _ _ E
def f_Water_figuresOf_L4   (n : Nat) : Hp → Nat → Int32 → Int32 → Int32 → Option (Int32 × Hp) := Nat.rec (motive := fun _ => Hp → Nat → Int32 → Int32 → Int32 → Option (Int32 × Hp)) (fun _ _ _ _ _ => none) (fun _ rec => f_Water_figuresOf_b4   rec) n
theorem f_Water_figuresOf_L4_ok {l : Launch} {X : Nat × (Nat → Int32)} (hst : l.stackTraces = false) {d : Nat} (hd : 0 ≤ d)     : ∀ (n : Nat) (h : Hp) (x0 : Nat) (x1 : Int32) (x2 : Int32) (x3 : Int32)  (r : Int32 × Hp), f_Water_figuresOf_L4   n h x0 x1 x2 x3 = some r → Rn l X mX10_figuresOf d 4 [(0, .ref x0), (1, .int x1), (2, .int x2), (3, .int x3)] [] h (eI r) r.2 := by
  intro n
  induction n with
  | zero => intro h x0 x1 x2 x3 r E; cases E
  | succ n ih => intro h x0 x1 x2 x3 r E; exact f_Water_figuresOf_b4_ok hst hd   ih E
def f_Water_figuresOf_b0   (h : Hp) (x0 : Nat) (x1 : Int32)  : Option (Int32 × Hp) :=
f_Water_figuresOf_L4   FU h x0 x1 (0 : Int32) (0 : Int32)

set_option maxRecDepth 20000 in
set_option maxHeartbeats 4000000 in
theorem f_Water_figuresOf_b0_ok {l : Launch} {X : Nat × (Nat → Int32)} (hst : l.stackTraces = false) {d : Nat} (hd : 0 ≤ d)     {h : Hp} {x0 : Nat} {x1 : Int32}  {r : Int32 × Hp} (E : f_Water_figuresOf_b0   h x0 x1 = some r) : Rn l X mX10_figuresOf d 0 [(0, .ref x0), (1, .int x1)] [] h (eI r) r.2 := by
  unfold f_Water_figuresOf_b0 at E
  refine Rn.iconst (pc' := 1) (v := (0 : Int32)) (hv := by decide) dX10_figuresOf_0 rfl ?_
  refine Rn.istore_n (pc' := 2) (L' := [(2, .int (0 : Int32)), (0, .ref x0), (1, .int x1)]) dX10_figuresOf_1 rfl (by decide) rfl rfl ?_
  refine Rn.iconst (pc' := 3) (v := (0 : Int32)) (hv := by decide) dX10_figuresOf_2 rfl ?_
  refine Rn.istore_n (pc' := 4) (L' := [(3, .int (0 : Int32)), (2, .int (0 : Int32)), (0, .ref x0), (1, .int x1)]) dX10_figuresOf_3 rfl (by decide) rfl rfl ?_
  refine Rn.sub [2, 3, 1, 0] rfl ?_
  exact f_Water_figuresOf_L4_ok hst hd   FU _ _ _ _ _ _ E
def f_Water_figuresOf (h : Hp) (x0 : Nat) (x1 : Int32) : Option (Int32 × Hp) := f_Water_figuresOf_b0  h x0 x1
theorem f_Water_figuresOf_ok {l : Launch} {X : Nat × (Nat → Int32)} (hst : l.stackTraces = false) {h : Hp} {x0 : Nat} {x1 : Int32} {r : Int32 × Hp} (E : f_Water_figuresOf h x0 x1 = some r) : MC l X yX10_figuresOf mX10_figuresOf 0 [.ref x0, .int x1] h (eI r) r.2 :=
  MC.body (by decide +kernel) rfl (by decide) hst (Nat.le_of_ble_eq_true rfl) (f_Water_figuresOf_b0_ok hst (Nat.le_refl _) E)
abbrev mX10_exchange : MI := (RX10, cX10_exchange, 4, none, [], false)
theorem ws_X10_exchange : ∀ w ∈ wsM yX10_exchange mX10_exchange, w ∈ gw := List.forall_mem_cons.mpr ⟨gw_at 680 (by decide +kernel) (by decide +kernel), fun _ h => h⟩
def f_Water_exchange_b0   (h : Hp) (x0 : Nat) (x1 : Int32) (x2 : Int32)  : Option (Hp) :=
if x1 < 0 then (
some h

) else (
if hS h x0 = 20 then (
if (Int32.ofNat (hL h x0)) ≤ x1 then (
some h

) else (
if x2 < 0 then (
some h

) else (
if (Int32.ofNat (hL h x0)) ≤ x2 then (
some h

) else (
if ib x1 (hL h x0) = true then (
if ib x2 (hL h x0) = true then (
if ib x1 (hL h x0) = true then (
wr (sI h x0 (ix x1) (hI h x0 (ix x2))) fun h9 =>
if ib x2 (hL h9 x0) = true then (
wr (sI h9 x0 (ix x2) (hI h x0 (ix x1))) fun h12 =>
some h12
) else none) else none) else none) else none
)

)

)
) else none
)

set_option maxRecDepth 20000 in
set_option maxHeartbeats 4000000 in
theorem f_Water_exchange_b0_ok {l : Launch} {X : Nat × (Nat → Int32)} (hst : l.stackTraces = false) {d : Nat} (hd : 0 ≤ d)     {h : Hp} {x0 : Nat} {x1 : Int32} {x2 : Int32}  {r : Hp} (E : f_Water_exchange_b0   h x0 x1 x2 = some r) : Rn l X mX10_exchange d 0 [(0, .ref x0), (1, .int x1), (2, .int x2)] [] h (eV r) r := by
  unfold f_Water_exchange_b0 at E
  refine Rn.iload_n (pc' := 1) dX10_exchange_0 rfl 1 rfl rfl ?_
  refine Rn.if_lt (pc' := 4) (tgt := 34) dX10_exchange_1 (by decide) rfl (fun c1 => ?_) (fun c1 => ?_)
  · replace E := (if_of E).1 c1
    cases E
    exact Rn.vret rfl dX10_exchange_34
  · replace E := (if_of E).2 c1
    refine Rn.iload_n (pc' := 5) dX10_exchange_4 rfl 1 rfl rfl ?_
    refine Rn.aload_n (pc' := 6) dX10_exchange_5 rfl 0 rfl rfl ?_
    obtain ⟨g2, E⟩ := gd_of E
    refine Rn.alen (pc' := 7) g2 (by decide) (by decide) dX10_exchange_6 rfl ?_
    refine Rn.icmp_ge (pc' := 10) (tgt := 34) dX10_exchange_7 (by decide) rfl (fun c3 => ?_) (fun c3 => ?_)
    · replace E := (if_of E).1 c3
      cases E
      exact Rn.vret rfl dX10_exchange_34
    · replace E := (if_of E).2 c3
      refine Rn.iload_n (pc' := 11) dX10_exchange_10 rfl 2 rfl rfl ?_
      refine Rn.if_lt (pc' := 14) (tgt := 34) dX10_exchange_11 (by decide) rfl (fun c4 => ?_) (fun c4 => ?_)
      · replace E := (if_of E).1 c4
        cases E
        exact Rn.vret rfl dX10_exchange_34
      · replace E := (if_of E).2 c4
        refine Rn.iload_n (pc' := 15) dX10_exchange_14 rfl 2 rfl rfl ?_
        refine Rn.aload_n (pc' := 16) dX10_exchange_15 rfl 0 rfl rfl ?_
        refine Rn.alen (pc' := 17) g2 (by decide) (by decide) dX10_exchange_16 rfl ?_
        refine Rn.icmp_ge (pc' := 20) (tgt := 34) dX10_exchange_17 (by decide) rfl (fun c5 => ?_) (fun c5 => ?_)
        · replace E := (if_of E).1 c5
          cases E
          exact Rn.vret rfl dX10_exchange_34
        · replace E := (if_of E).2 c5
          refine Rn.aload_n (pc' := 21) dX10_exchange_20 rfl 0 rfl rfl ?_
          refine Rn.iload_n (pc' := 22) dX10_exchange_21 rfl 1 rfl rfl ?_
          obtain ⟨g6, E⟩ := gd_of E
          refine Rn.iald (pc' := 23) g2 g6 dX10_exchange_22 rfl ?_
          refine Rn.istore_n (pc' := 24) (L' := [(3, .int (hI h x0 (ix x1))), (0, .ref x0), (1, .int x1), (2, .int x2)]) dX10_exchange_23 rfl (by decide) rfl rfl ?_
          refine Rn.aload_n (pc' := 25) dX10_exchange_24 rfl 1 rfl rfl ?_
          refine Rn.iload_n (pc' := 26) dX10_exchange_25 rfl 2 rfl rfl ?_
          refine Rn.aload_n (pc' := 27) dX10_exchange_26 rfl 1 rfl rfl ?_
          refine Rn.iload_n (pc' := 28) dX10_exchange_27 rfl 3 rfl rfl ?_
          obtain ⟨g7, E⟩ := gd_of E
          refine Rn.iald (pc' := 29) g2 g7 dX10_exchange_28 rfl ?_
          obtain ⟨g8, E⟩ := gd_of E
          refine Rn.iast (pc' := 30) g2 g8 dX10_exchange_29 rfl ?_
          replace E := wr_of E
          generalize eh10 : sI h x0 (ix x1) (hI h x0 (ix x2)) = h9 at E ⊢
          refine Rn.aload_n (pc' := 31) dX10_exchange_30 rfl 1 rfl rfl ?_
          refine Rn.iload_n (pc' := 32) dX10_exchange_31 rfl 3 rfl rfl ?_
          refine Rn.iload_n (pc' := 33) dX10_exchange_32 rfl 0 rfl rfl ?_
          obtain ⟨g11, E⟩ := gd_of E
          refine Rn.iast (pc' := 34) (kp_sI eh10 g2) g11 dX10_exchange_33 rfl ?_
          replace E := wr_of E
          generalize eh13 : sI h9 x0 (ix x2) (hI h x0 (ix x1)) = h12 at E ⊢
          cases E
          exact Rn.vret rfl dX10_exchange_34
def f_Water_exchange (h : Hp) (x0 : Nat) (x1 : Int32) (x2 : Int32) : Option (Hp) := f_Water_exchange_b0  h x0 x1 x2
theorem f_Water_exchange_ok {l : Launch} {X : Nat × (Nat → Int32)} (hst : l.stackTraces = false) {h : Hp} {x0 : Nat} {x1 : Int32} {x2 : Int32} {r : Hp} (E : f_Water_exchange h x0 x1 x2 = some r) : MC l X yX10_exchange mX10_exchange 0 [.ref x0, .int x1, .int x2] h (eV r) r :=
  MC.body (by decide +kernel) rfl (by decide) hst (Nat.le_of_ble_eq_true rfl) (f_Water_exchange_b0_ok hst (Nat.le_refl _) E)
abbrev mX10_isTurnedOn : MI := (RX10, cX10_isTurnedOn, 6, (some Jvm.ClassFile.FieldType.boolean), [], false)
theorem ws_X10_isTurnedOn : ∀ w ∈ wsM yX10_isTurnedOn mX10_isTurnedOn, w ∈ gw := List.forall_mem_cons.mpr ⟨gw_at 677 (by decide +kernel) (by decide +kernel), fun _ h => h⟩
theorem kb_X10_405 : KB RX10 405 yX10_exchange mX10_exchange 3 := ⟨gw_at 678 (by decide +kernel) (by decide +kernel), gw_at 107 (by decide +kernel) (by decide +kernel), trivial, ws_X10_exchange, by decide +kernel, by decide +kernel, by decide +kernel, by decide⟩
theorem ks_X10_exchange : Cond.static yX10_exchange ∈ gw := gw_at 679 (by decide +kernel) (by decide +kernel)
def f_Water_isTurnedOn_b81  (k81 : Hp → Nat → Int32 → Int32 → Option (Int32 × Hp)) (h : Hp) (x0 : Nat) (x4 : Int32) (x5 : Int32)  : Option (Int32 × Hp) :=
if x5 ≤ x4 then (
some ((1 : Int32), h)

) else (
bV (f_Water_exchange h x0 x4 x5) fun h3 =>
k81 h3 x0 (x4 + (1 : Int32)) (x5 + (-1 : Int32))

)

set_option maxRecDepth 20000 in
set_option maxHeartbeats 4000000 in
theorem f_Water_isTurnedOn_b81_ok {l : Launch} {X : Nat × (Nat → Int32)} (hst : l.stackTraces = false) {d : Nat} (hd : 1 ≤ d)   {k81 : Hp → Nat → Int32 → Int32 → Option (Int32 × Hp)} (hk81 : ∀ (h : Hp) (x0 : Nat) (x4 : Int32) (x5 : Int32)  (r : Int32 × Hp), k81 h x0 x4 x5 = some r → Rn l X mX10_isTurnedOn d 81 [(0, .ref x0), (4, .int x4), (5, .int x5)] [] h (eI r) r.2) {h : Hp} {x0 : Nat} {x4 : Int32} {x5 : Int32}  {r : Int32 × Hp} (E : f_Water_isTurnedOn_b81  k81 h x0 x4 x5 = some r) : Rn l X mX10_isTurnedOn d 81 [(0, .ref x0), (4, .int x4), (5, .int x5)] [] h (eI r) r.2 := by
  unfold f_Water_isTurnedOn_b81 at E
  refine Rn.iload (pc' := 83) dX10_isTurnedOn_81 1 rfl rfl ?_
  refine Rn.iload (pc' := 85) dX10_isTurnedOn_83 2 rfl rfl ?_
  refine Rn.icmp_ge (pc' := 88) (tgt := 105) dX10_isTurnedOn_85 (by decide) rfl (fun c1 => ?_) (fun c1 => ?_)
  · replace E := (if_of E).1 c1
    refine Rn.iconst (pc' := 106) (v := (1 : Int32)) (hv := by decide) dX10_isTurnedOn_105 rfl ?_
    cases E
    exact Rn.zret rfl rfl dX10_isTurnedOn_106
  · replace E := (if_of E).2 c1
    refine Rn.aload_n (pc' := 89) dX10_isTurnedOn_88 rfl 0 rfl rfl ?_
    refine Rn.iload (pc' := 91) dX10_isTurnedOn_89 1 rfl rfl ?_
    refine Rn.iload (pc' := 93) dX10_isTurnedOn_91 2 rfl rfl ?_
    obtain ⟨h3, e4, E⟩ := bV_of E
    refine Rn.callS1 (pc' := 96) (As := [.ref x0, .int x4, .int x5]) (rest := []) (f_Water_exchange_ok hst e4) (Nat.le_trans (by decide) hd) rfl kb_X10_405 ks_X10_exchange rfl rfl (Nat.le_of_ble_eq_true rfl) dX10_isTurnedOn_93 rfl rfl ?_
    refine Rn.iinc (pc' := 99) (v := (x4 + (1 : Int32))) (L' := [(4, .int (x4 + (1 : Int32))), (0, .ref x0), (5, .int x5)]) dX10_isTurnedOn_96 1 rfl rfl (by decide) rfl rfl ?_
    refine Rn.iinc (pc' := 102) (v := (x5 + (-1 : Int32))) (L' := [(5, .int (x5 + (-1 : Int32))), (4, .int (x4 + (1 : Int32))), (0, .ref x0)]) dX10_isTurnedOn_99 2 rfl rfl (by decide) rfl rfl ?_
    refine Rn.goto (pc' := 81) dX10_isTurnedOn_102 (by decide) ?_
    refine Rn.sub [2, 1, 0] rfl ?_
    exact hk81 _ _ _ _ _ E
def f_Water_isTurnedOn_L81   (n : Nat) : Hp → Nat → Int32 → Int32 → Option (Int32 × Hp) := Nat.rec (motive := fun _ => Hp → Nat → Int32 → Int32 → Option (Int32 × Hp)) (fun _ _ _ _ => none) (fun _ rec => f_Water_isTurnedOn_b81   rec) n
theorem f_Water_isTurnedOn_L81_ok {l : Launch} {X : Nat × (Nat → Int32)} (hst : l.stackTraces = false) {d : Nat} (hd : 1 ≤ d)     : ∀ (n : Nat) (h : Hp) (x0 : Nat) (x4 : Int32) (x5 : Int32)  (r : Int32 × Hp), f_Water_isTurnedOn_L81   n h x0 x4 x5 = some r → Rn l X mX10_isTurnedOn d 81 [(0, .ref x0), (4, .int x4), (5, .int x5)] [] h (eI r) r.2 := by
  intro n
  induction n with
  | zero => intro h x0 x4 x5 r E; cases E
  | succ n ih => intro h x0 x4 x5 r E; exact f_Water_isTurnedOn_b81_ok hst hd   ih E
def f_Water_isTurnedOn_b65   (h : Hp) (x0 : Nat) (x1 : Int32) (x2 : Int32) (x3 : Int32)  : Option (Int32 × Hp) :=
bV (f_Water_exchange h x0 x2 x3) fun h2 =>
f_Water_isTurnedOn_L81   FU h2 x0 (x2 + (1 : Int32)) (x1 - (1 : Int32))

set_option maxRecDepth 20000 in
set_option maxHeartbeats 4000000 in
theorem f_Water_isTurnedOn_b65_ok {l : Launch} {X : Nat × (Nat → Int32)} (hst : l.stackTraces = false) {d : Nat} (hd : 1 ≤ d)     {h : Hp} {x0 : Nat} {x1 : Int32} {x2 : Int32} {x3 : Int32}  {r : Int32 × Hp} (E : f_Water_isTurnedOn_b65   h x0 x1 x2 x3 = some r) : Rn l X mX10_isTurnedOn d 65 [(0, .ref x0), (1, .int x1), (2, .int x2), (3, .int x3)] [] h (eI r) r.2 := by
  unfold f_Water_isTurnedOn_b65 at E
  refine Rn.aload_n (pc' := 66) dX10_isTurnedOn_65 rfl 0 rfl rfl ?_
  refine Rn.iload_n (pc' := 67) dX10_isTurnedOn_66 rfl 2 rfl rfl ?_
  refine Rn.iload_n (pc' := 68) dX10_isTurnedOn_67 rfl 3 rfl rfl ?_
  obtain ⟨h2, e3, E⟩ := bV_of E
  refine Rn.callS1 (pc' := 71) (As := [.ref x0, .int x2, .int x3]) (rest := []) (f_Water_exchange_ok hst e3) (Nat.le_trans (by decide) hd) rfl kb_X10_405 ks_X10_exchange rfl rfl (Nat.le_of_ble_eq_true rfl) dX10_isTurnedOn_68 rfl rfl ?_
  refine Rn.iload_n (pc' := 72) dX10_isTurnedOn_71 rfl 2 rfl rfl ?_
  refine Rn.iconst (pc' := 73) (v := (1 : Int32)) (hv := by decide) dX10_isTurnedOn_72 rfl ?_
  refine Rn.iadd (pc' := 74) dX10_isTurnedOn_73 rfl ?_
  refine Rn.istore (pc' := 76) (L' := [(4, .int (x2 + (1 : Int32))), (0, .ref x0), (1, .int x1), (2, .int x2), (3, .int x3)]) dX10_isTurnedOn_74 (by decide) rfl rfl ?_
  refine Rn.iload_n (pc' := 77) dX10_isTurnedOn_76 rfl 2 rfl rfl ?_
  refine Rn.iconst (pc' := 78) (v := (1 : Int32)) (hv := by decide) dX10_isTurnedOn_77 rfl ?_
  refine Rn.isub (pc' := 79) dX10_isTurnedOn_78 rfl ?_
  refine Rn.istore (pc' := 81) (L' := [(5, .int (x1 - (1 : Int32))), (4, .int (x2 + (1 : Int32))), (0, .ref x0), (1, .int x1), (2, .int x2), (3, .int x3)]) dX10_isTurnedOn_79 (by decide) rfl rfl ?_
  refine Rn.sub [2, 1, 0] rfl ?_
  exact f_Water_isTurnedOn_L81_ok hst hd   FU _ _ _ _ _ E
def f_Water_isTurnedOn_b43  (k43 : Hp → Nat → Int32 → Int32 → Int32 → Option (Int32 × Hp)) (h : Hp) (x0 : Nat) (x1 : Int32) (x2 : Int32) (x3 : Int32)  : Option (Int32 × Hp) :=
if x3 ≤ (x2 + (1 : Int32)) then (
f_Water_isTurnedOn_b65   h x0 x1 x2 x3

) else (
if hS h x0 = 20 then (
if ib x3 (hL h x0) = true then (
if ib x2 (hL h x0) = true then (
if (hI h x0 (ix x2)) ≤ (hI h x0 (ix x3)) then (
f_Water_isTurnedOn_b65   h x0 x1 x2 x3

) else (
k43 h x0 x1 x2 (x3 + (-1 : Int32))

)
) else none) else none) else none
)

set_option maxRecDepth 20000 in
set_option maxHeartbeats 4000000 in
theorem f_Water_isTurnedOn_b43_ok {l : Launch} {X : Nat × (Nat → Int32)} (hst : l.stackTraces = false) {d : Nat} (hd : 1 ≤ d)   {k43 : Hp → Nat → Int32 → Int32 → Int32 → Option (Int32 × Hp)} (hk43 : ∀ (h : Hp) (x0 : Nat) (x1 : Int32) (x2 : Int32) (x3 : Int32)  (r : Int32 × Hp), k43 h x0 x1 x2 x3 = some r → Rn l X mX10_isTurnedOn d 43 [(0, .ref x0), (1, .int x1), (2, .int x2), (3, .int x3)] [] h (eI r) r.2) {h : Hp} {x0 : Nat} {x1 : Int32} {x2 : Int32} {x3 : Int32}  {r : Int32 × Hp} (E : f_Water_isTurnedOn_b43  k43 h x0 x1 x2 x3 = some r) : Rn l X mX10_isTurnedOn d 43 [(0, .ref x0), (1, .int x1), (2, .int x2), (3, .int x3)] [] h (eI r) r.2 := by
  unfold f_Water_isTurnedOn_b43 at E
  refine Rn.iload_n (pc' := 44) dX10_isTurnedOn_43 rfl 3 rfl rfl ?_
  refine Rn.iload_n (pc' := 45) dX10_isTurnedOn_44 rfl 2 rfl rfl ?_
  refine Rn.iconst (pc' := 46) (v := (1 : Int32)) (hv := by decide) dX10_isTurnedOn_45 rfl ?_
  refine Rn.iadd (pc' := 47) dX10_isTurnedOn_46 rfl ?_
  refine Rn.icmp_le (pc' := 50) (tgt := 65) dX10_isTurnedOn_47 (by decide) rfl (fun c1 => ?_) (fun c1 => ?_)
  · replace E := (if_of E).1 c1
    exact f_Water_isTurnedOn_b65_ok hst hd   E
  · replace E := (if_of E).2 c1
    refine Rn.aload_n (pc' := 51) dX10_isTurnedOn_50 rfl 0 rfl rfl ?_
    refine Rn.iload_n (pc' := 52) dX10_isTurnedOn_51 rfl 3 rfl rfl ?_
    obtain ⟨g2, E⟩ := gd_of E
    obtain ⟨g3, E⟩ := gd_of E
    refine Rn.iald (pc' := 53) g2 g3 dX10_isTurnedOn_52 rfl ?_
    refine Rn.aload_n (pc' := 54) dX10_isTurnedOn_53 rfl 0 rfl rfl ?_
    refine Rn.iload_n (pc' := 55) dX10_isTurnedOn_54 rfl 2 rfl rfl ?_
    obtain ⟨g4, E⟩ := gd_of E
    refine Rn.iald (pc' := 56) g2 g4 dX10_isTurnedOn_55 rfl ?_
    refine Rn.icmp_ge (pc' := 59) (tgt := 65) dX10_isTurnedOn_56 (by decide) rfl (fun c5 => ?_) (fun c5 => ?_)
    · replace E := (if_of E).1 c5
      exact f_Water_isTurnedOn_b65_ok hst hd   E
    · replace E := (if_of E).2 c5
      refine Rn.iinc (pc' := 62) (v := (x3 + (-1 : Int32))) (L' := [(3, .int (x3 + (-1 : Int32))), (0, .ref x0), (1, .int x1), (2, .int x2)]) dX10_isTurnedOn_59 3 rfl rfl (by decide) rfl rfl ?_
      refine Rn.goto (pc' := 43) dX10_isTurnedOn_62 (by decide) ?_
      refine Rn.sub [1, 2, 3, 0] rfl ?_
      exact hk43 _ _ _ _ _ _ E
def f_Water_isTurnedOn_L43   (n : Nat) : Hp → Nat → Int32 → Int32 → Int32 → Option (Int32 × Hp) := Nat.rec (motive := fun _ => Hp → Nat → Int32 → Int32 → Int32 → Option (Int32 × Hp)) (fun _ _ _ _ _ => none) (fun _ rec => f_Water_isTurnedOn_b43   rec) n
theorem f_Water_isTurnedOn_L43_ok {l : Launch} {X : Nat × (Nat → Int32)} (hst : l.stackTraces = false) {d : Nat} (hd : 1 ≤ d)     : ∀ (n : Nat) (h : Hp) (x0 : Nat) (x1 : Int32) (x2 : Int32) (x3 : Int32)  (r : Int32 × Hp), f_Water_isTurnedOn_L43   n h x0 x1 x2 x3 = some r → Rn l X mX10_isTurnedOn d 43 [(0, .ref x0), (1, .int x1), (2, .int x2), (3, .int x3)] [] h (eI r) r.2 := by
  intro n
  induction n with
  | zero => intro h x0 x1 x2 x3 r E; cases E
  | succ n ih => intro h x0 x1 x2 x3 r E; exact f_Water_isTurnedOn_b43_ok hst hd   ih E
def f_Water_isTurnedOn_b33   (h : Hp) (x0 : Nat) (x1 : Int32) (x2 : Int32)  : Option (Int32 × Hp) :=
if 0 ≤ x2 then (
f_Water_isTurnedOn_L43   FU h x0 x1 x2 (x1 - (1 : Int32))

) else (
some ((0 : Int32), h)

)

set_option maxRecDepth 20000 in
set_option maxHeartbeats 4000000 in
theorem f_Water_isTurnedOn_b33_ok {l : Launch} {X : Nat × (Nat → Int32)} (hst : l.stackTraces = false) {d : Nat} (hd : 1 ≤ d)     {h : Hp} {x0 : Nat} {x1 : Int32} {x2 : Int32}  {r : Int32 × Hp} (E : f_Water_isTurnedOn_b33   h x0 x1 x2 = some r) : Rn l X mX10_isTurnedOn d 33 [(0, .ref x0), (1, .int x1), (2, .int x2)] [] h (eI r) r.2 := by
  unfold f_Water_isTurnedOn_b33 at E
  refine Rn.iload_n (pc' := 34) dX10_isTurnedOn_33 rfl 2 rfl rfl ?_
  refine Rn.if_ge (pc' := 37) (tgt := 39) dX10_isTurnedOn_34 (by decide) rfl (fun c1 => ?_) (fun c1 => ?_)
  · replace E := (if_of E).1 c1
    refine Rn.iload_n (pc' := 40) dX10_isTurnedOn_39 rfl 1 rfl rfl ?_
    refine Rn.iconst (pc' := 41) (v := (1 : Int32)) (hv := by decide) dX10_isTurnedOn_40 rfl ?_
    refine Rn.isub (pc' := 42) dX10_isTurnedOn_41 rfl ?_
    refine Rn.istore_n (pc' := 43) (L' := [(3, .int (x1 - (1 : Int32))), (0, .ref x0), (1, .int x1), (2, .int x2)]) dX10_isTurnedOn_42 rfl (by decide) rfl rfl ?_
    refine Rn.sub [1, 2, 3, 0] rfl ?_
    exact f_Water_isTurnedOn_L43_ok hst hd   FU _ _ _ _ _ _ E
  · replace E := (if_of E).2 c1
    refine Rn.iconst (pc' := 38) (v := (0 : Int32)) (hv := by decide) dX10_isTurnedOn_37 rfl ?_
    cases E
    exact Rn.zret rfl rfl dX10_isTurnedOn_38
def f_Water_isTurnedOn_b12  (k12 : Hp → Nat → Int32 → Int32 → Option (Int32 × Hp)) (h : Hp) (x0 : Nat) (x1 : Int32) (x2 : Int32)  : Option (Int32 × Hp) :=
if x2 < 0 then (
f_Water_isTurnedOn_b33   h x0 x1 x2

) else (
if hS h x0 = 20 then (
if ib x2 (hL h x0) = true then (
if ib (x2 + (1 : Int32)) (hL h x0) = true then (
if (hI h x0 (ix x2)) ≤ (hI h x0 (ix (x2 + (1 : Int32)))) then (
f_Water_isTurnedOn_b33   h x0 x1 x2

) else (
k12 h x0 x1 (x2 + (-1 : Int32))

)
) else none) else none) else none
)

set_option maxRecDepth 20000 in
set_option maxHeartbeats 4000000 in
theorem f_Water_isTurnedOn_b12_ok {l : Launch} {X : Nat × (Nat → Int32)} (hst : l.stackTraces = false) {d : Nat} (hd : 1 ≤ d)   {k12 : Hp → Nat → Int32 → Int32 → Option (Int32 × Hp)} (hk12 : ∀ (h : Hp) (x0 : Nat) (x1 : Int32) (x2 : Int32)  (r : Int32 × Hp), k12 h x0 x1 x2 = some r → Rn l X mX10_isTurnedOn d 12 [(0, .ref x0), (1, .int x1), (2, .int x2)] [] h (eI r) r.2) {h : Hp} {x0 : Nat} {x1 : Int32} {x2 : Int32}  {r : Int32 × Hp} (E : f_Water_isTurnedOn_b12  k12 h x0 x1 x2 = some r) : Rn l X mX10_isTurnedOn d 12 [(0, .ref x0), (1, .int x1), (2, .int x2)] [] h (eI r) r.2 := by
  unfold f_Water_isTurnedOn_b12 at E
  refine Rn.iload_n (pc' := 13) dX10_isTurnedOn_12 rfl 2 rfl rfl ?_
  refine Rn.if_lt (pc' := 16) (tgt := 33) dX10_isTurnedOn_13 (by decide) rfl (fun c1 => ?_) (fun c1 => ?_)
  · replace E := (if_of E).1 c1
    exact f_Water_isTurnedOn_b33_ok hst hd   E
  · replace E := (if_of E).2 c1
    refine Rn.aload_n (pc' := 17) dX10_isTurnedOn_16 rfl 0 rfl rfl ?_
    refine Rn.iload_n (pc' := 18) dX10_isTurnedOn_17 rfl 2 rfl rfl ?_
    obtain ⟨g2, E⟩ := gd_of E
    obtain ⟨g3, E⟩ := gd_of E
    refine Rn.iald (pc' := 19) g2 g3 dX10_isTurnedOn_18 rfl ?_
    refine Rn.aload_n (pc' := 20) dX10_isTurnedOn_19 rfl 0 rfl rfl ?_
    refine Rn.iload_n (pc' := 21) dX10_isTurnedOn_20 rfl 2 rfl rfl ?_
    refine Rn.iconst (pc' := 22) (v := (1 : Int32)) (hv := by decide) dX10_isTurnedOn_21 rfl ?_
    refine Rn.iadd (pc' := 23) dX10_isTurnedOn_22 rfl ?_
    obtain ⟨g4, E⟩ := gd_of E
    refine Rn.iald (pc' := 24) g2 g4 dX10_isTurnedOn_23 rfl ?_
    refine Rn.icmp_le (pc' := 27) (tgt := 33) dX10_isTurnedOn_24 (by decide) rfl (fun c5 => ?_) (fun c5 => ?_)
    · replace E := (if_of E).1 c5
      exact f_Water_isTurnedOn_b33_ok hst hd   E
    · replace E := (if_of E).2 c5
      refine Rn.iinc (pc' := 30) (v := (x2 + (-1 : Int32))) (L' := [(2, .int (x2 + (-1 : Int32))), (0, .ref x0), (1, .int x1)]) dX10_isTurnedOn_27 2 rfl rfl (by decide) rfl rfl ?_
      refine Rn.goto (pc' := 12) dX10_isTurnedOn_30 (by decide) ?_
      refine Rn.sub [1, 2, 0] rfl ?_
      exact hk12 _ _ _ _ _ E
def f_Water_isTurnedOn_L12   (n : Nat) : Hp → Nat → Int32 → Int32 → Option (Int32 × Hp) := Nat.rec (motive := fun _ => Hp → Nat → Int32 → Int32 → Option (Int32 × Hp)) (fun _ _ _ _ => none) (fun _ rec => f_Water_isTurnedOn_b12   rec) n
theorem f_Water_isTurnedOn_L12_ok {l : Launch} {X : Nat × (Nat → Int32)} (hst : l.stackTraces = false) {d : Nat} (hd : 1 ≤ d)     : ∀ (n : Nat) (h : Hp) (x0 : Nat) (x1 : Int32) (x2 : Int32)  (r : Int32 × Hp), f_Water_isTurnedOn_L12   n h x0 x1 x2 = some r → Rn l X mX10_isTurnedOn d 12 [(0, .ref x0), (1, .int x1), (2, .int x2)] [] h (eI r) r.2 := by
  intro n
  induction n with
  | zero => intro h x0 x1 x2 r E; cases E
  | succ n ih => intro h x0 x1 x2 r E; exact f_Water_isTurnedOn_b12_ok hst hd   ih E
def f_Water_isTurnedOn_b0   (h : Hp) (x0 : Nat) (x1 : Int32)  : Option (Int32 × Hp) :=
if hS h x0 = 20 then (
if x1 ≤ (Int32.ofNat (hL h x0)) then (
f_Water_isTurnedOn_L12   FU h x0 x1 (x1 - (2 : Int32))

) else (
some ((0 : Int32), h)

)
) else none
set_option maxRecDepth 20000 in
set_option maxHeartbeats 4000000 in
theorem f_Water_isTurnedOn_b0_ok {l : Launch} {X : Nat × (Nat → Int32)} (hst : l.stackTraces = false) {d : Nat} (hd : 1 ≤ d)     {h : Hp} {x0 : Nat} {x1 : Int32}  {r : Int32 × Hp} (E : f_Water_isTurnedOn_b0   h x0 x1 = some r) : Rn l X mX10_isTurnedOn d 0 [(0, .ref x0), (1, .int x1)] [] h (eI r) r.2 := by
  unfold f_Water_isTurnedOn_b0 at E
  refine Rn.iload_n (pc' := 1) dX10_isTurnedOn_0 rfl 1 rfl rfl ?_
  refine Rn.aload_n (pc' := 2) dX10_isTurnedOn_1 rfl 0 rfl rfl ?_
  obtain ⟨g1, E⟩ := gd_of E
  refine Rn.alen (pc' := 3) g1 (by decide) (by decide) dX10_isTurnedOn_2 rfl ?_
  refine Rn.icmp_le (pc' := 6) (tgt := 8) dX10_isTurnedOn_3 (by decide) rfl (fun c2 => ?_) (fun c2 => ?_)
  · replace E := (if_of E).1 c2
    refine Rn.iload_n (pc' := 9) dX10_isTurnedOn_8 rfl 1 rfl rfl ?_
    refine Rn.iconst (pc' := 10) (v := (2 : Int32)) (hv := by decide) dX10_isTurnedOn_9 rfl ?_
    refine Rn.isub (pc' := 11) dX10_isTurnedOn_10 rfl ?_
    refine Rn.istore_n (pc' := 12) (L' := [(2, .int (x1 - (2 : Int32))), (0, .ref x0), (1, .int x1)]) dX10_isTurnedOn_11 rfl (by decide) rfl rfl ?_
    refine Rn.sub [1, 2, 0] rfl ?_
    exact f_Water_isTurnedOn_L12_ok hst hd   FU _ _ _ _ _ E
  · replace E := (if_of E).2 c2
    refine Rn.iconst (pc' := 7) (v := (0 : Int32)) (hv := by decide) dX10_isTurnedOn_6 rfl ?_
    cases E
    exact Rn.zret rfl rfl dX10_isTurnedOn_7
def f_Water_isTurnedOn (h : Hp) (x0 : Nat) (x1 : Int32) : Option (Int32 × Hp) := f_Water_isTurnedOn_b0  h x0 x1
theorem f_Water_isTurnedOn_ok {l : Launch} {X : Nat × (Nat → Int32)} (hst : l.stackTraces = false) {h : Hp} {x0 : Nat} {x1 : Int32} {r : Int32 × Hp} (E : f_Water_isTurnedOn h x0 x1 = some r) : MC l X yX10_isTurnedOn mX10_isTurnedOn 1 [.ref x0, .int x1] h (eI r) r.2 :=
  MC.body (by decide +kernel) rfl (by decide) hst (Nat.le_of_ble_eq_true rfl) (f_Water_isTurnedOn_b0_ok hst (Nat.le_refl _) E)
abbrev mX10_order : MI := (RX10, cX10_order, 7, (some Jvm.ClassFile.FieldType.int), [], false)
theorem ws_X10_order : ∀ w ∈ wsM yX10_order mX10_order, w ∈ gw := List.forall_mem_cons.mpr ⟨gw_at 661 (by decide +kernel) (by decide +kernel), fun _ h => h⟩
def f_Water_order_b138   (h : Hp) (x1 : Int32) (x3 : Int32) (x4 : Int32)  : Option (Int32 × Hp) :=
if x1 = 0 then (
some (x3, h)

) else (
some (x4, h)

)

set_option maxRecDepth 20000 in
set_option maxHeartbeats 4000000 in
theorem f_Water_order_b138_ok {l : Launch} {X : Nat × (Nat → Int32)} (hst : l.stackTraces = false) {d : Nat} (hd : 6 ≤ d)     {h : Hp} {x1 : Int32} {x3 : Int32} {x4 : Int32}  {r : Int32 × Hp} (E : f_Water_order_b138   h x1 x3 x4 = some r) : Rn l X mX10_order d 138 [(1, .int x1), (3, .int x3), (4, .int x4)] [] h (eI r) r.2 := by
  unfold f_Water_order_b138 at E
  refine Rn.iload_n (pc' := 139) dX10_order_138 rfl 0 rfl rfl ?_
  refine Rn.if_eq (pc' := 142) (tgt := 147) dX10_order_139 (by decide) rfl (fun c1 => ?_) (fun c1 => ?_)
  · replace E := (if_of E).1 c1
    refine Rn.iload_n (pc' := 148) dX10_order_147 rfl 1 rfl rfl ?_
    cases E
    exact Rn.zret rfl rfl dX10_order_148
  · replace E := (if_of E).2 c1
    refine Rn.iload (pc' := 144) dX10_order_142 2 rfl rfl ?_
    refine Rn.goto (pc' := 148) dX10_order_144 (by decide) ?_
    cases E
    exact Rn.zret rfl rfl dX10_order_148
theorem kb_X10_356 : KB RX10 356 yX10_isTurnedOn mX10_isTurnedOn 2 := ⟨gw_at 675 (by decide +kernel) (by decide +kernel), gw_at 107 (by decide +kernel) (by decide +kernel), trivial, ws_X10_isTurnedOn, by decide +kernel, by decide +kernel, by decide +kernel, by decide⟩
theorem ks_X10_isTurnedOn : Cond.static yX10_isTurnedOn ∈ gw := gw_at 676 (by decide +kernel) (by decide +kernel)
def f_Water_order_b118  (k59 : Hp → Nat → Int32 → Int32 → Int32 → Int32 → Int32 → Option (Int32 × Hp)) (h : Hp) (x0 : Nat) (x1 : Int32) (x2 : Int32) (x3 : Int32) (x4 : Int32) (x5 : Int32)  : Option (Int32 × Hp) :=
if hS h x0 = 10 then (
bI (f_Water_isTurnedOn h (hR h x0 8) x2) fun v2 h3 =>
if v2 = 0 then (
f_Water_order_b138   h3 x1 x3 x4

) else (
k59 h3 x0 x1 x2 x3 x4 (x5 + (1 : Int32))

)
) else none
set_option maxRecDepth 20000 in
set_option maxHeartbeats 4000000 in
theorem f_Water_order_b118_ok {l : Launch} {X : Nat × (Nat → Int32)} (hst : l.stackTraces = false) {d : Nat} (hd : 6 ≤ d)   {k59 : Hp → Nat → Int32 → Int32 → Int32 → Int32 → Int32 → Option (Int32 × Hp)} (hk59 : ∀ (h : Hp) (x0 : Nat) (x1 : Int32) (x2 : Int32) (x3 : Int32) (x4 : Int32) (x5 : Int32)  (r : Int32 × Hp), k59 h x0 x1 x2 x3 x4 x5 = some r → Rn l X mX10_order d 59 [(0, .ref x0), (1, .int x1), (2, .int x2), (3, .int x3), (4, .int x4), (5, .int x5)] [] h (eI r) r.2) {h : Hp} {x0 : Nat} {x1 : Int32} {x2 : Int32} {x3 : Int32} {x4 : Int32} {x5 : Int32}  {r : Int32 × Hp} (E : f_Water_order_b118  k59 h x0 x1 x2 x3 x4 x5 = some r) : Rn l X mX10_order d 118 [(0, .ref x0), (1, .int x1), (2, .int x2), (3, .int x3), (4, .int x4), (5, .int x5)] [] h (eI r) r.2 := by
  unfold f_Water_order_b118 at E
  refine Rn.aload_n (pc' := 119) dX10_order_118 rfl 0 rfl rfl ?_
  obtain ⟨g1, E⟩ := gd_of E
  refine Rn.getR (pc' := 122) fl_X10_55_9 g1 rfl dX10_order_119 rfl ?_
  refine Rn.iload_n (pc' := 123) dX10_order_122 rfl 2 rfl rfl ?_
  obtain ⟨v2, h3, e4, E⟩ := bI_of E
  refine Rn.callS1 (pc' := 126) (As := [.ref (hR h x0 8), .int x2]) (rest := []) (f_Water_isTurnedOn_ok hst e4) (Nat.le_trans (by decide) hd) rfl kb_X10_356 ks_X10_isTurnedOn rfl rfl (Nat.le_of_ble_eq_true rfl) dX10_order_123 rfl rfl ?_
  refine Rn.if_ne (pc' := 129) (tgt := 132) dX10_order_126 (by decide) rfl (fun c5 => ?_) (fun c5 => ?_)
  · replace E := (if_of E).2 c5
    refine Rn.iinc (pc' := 135) (v := (x5 + (1 : Int32))) (L' := [(5, .int (x5 + (1 : Int32))), (0, .ref x0), (1, .int x1), (2, .int x2), (3, .int x3), (4, .int x4)]) dX10_order_132 5 rfl rfl (by decide) rfl rfl ?_
    refine Rn.goto (pc' := 59) dX10_order_135 (by decide) ?_
    refine Rn.sub [1, 2, 3, 4, 5, 0] rfl ?_
    exact hk59 _ _ _ _ _ _ _ _ E
  · replace E := (if_of E).1 c5
    refine Rn.goto (pc' := 138) dX10_order_129 (by decide) ?_
    refine Rn.sub [1, 3, 4] rfl ?_
    exact f_Water_order_b138_ok hst hd   E
theorem kb_X10_352 : KB RX10 352 yX10_figuresOf mX10_figuresOf 2 := ⟨gw_at 672 (by decide +kernel) (by decide +kernel), gw_at 107 (by decide +kernel) (by decide +kernel), trivial, ws_X10_figuresOf, by decide +kernel, by decide +kernel, by decide +kernel, by decide⟩
theorem ks_X10_figuresOf : Cond.static yX10_figuresOf ∈ gw := gw_at 673 (by decide +kernel) (by decide +kernel)
def f_Water_order_b105  (k59 : Hp → Nat → Int32 → Int32 → Int32 → Int32 → Int32 → Option (Int32 × Hp)) (h : Hp) (x0 : Nat) (x1 : Int32) (x2 : Int32) (x5 : Int32) (x6 : Int32)  : Option (Int32 × Hp) :=
if hS h x0 = 10 then (
bI (f_Water_figuresOf h (hR h x0 8) x2) fun v2 h3 =>
f_Water_order_b118  k59 h3 x0 x1 x2 x6 v2 x5
) else none
set_option maxRecDepth 20000 in
set_option maxHeartbeats 4000000 in
theorem f_Water_order_b105_ok {l : Launch} {X : Nat × (Nat → Int32)} (hst : l.stackTraces = false) {d : Nat} (hd : 6 ≤ d)   {k59 : Hp → Nat → Int32 → Int32 → Int32 → Int32 → Int32 → Option (Int32 × Hp)} (hk59 : ∀ (h : Hp) (x0 : Nat) (x1 : Int32) (x2 : Int32) (x3 : Int32) (x4 : Int32) (x5 : Int32)  (r : Int32 × Hp), k59 h x0 x1 x2 x3 x4 x5 = some r → Rn l X mX10_order d 59 [(0, .ref x0), (1, .int x1), (2, .int x2), (3, .int x3), (4, .int x4), (5, .int x5)] [] h (eI r) r.2) {h : Hp} {x0 : Nat} {x1 : Int32} {x2 : Int32} {x5 : Int32} {x6 : Int32}  {r : Int32 × Hp} (E : f_Water_order_b105  k59 h x0 x1 x2 x5 x6 = some r) : Rn l X mX10_order d 105 [(0, .ref x0), (1, .int x1), (2, .int x2), (5, .int x5), (6, .int x6)] [] h (eI r) r.2 := by
  unfold f_Water_order_b105 at E
  refine Rn.iload (pc' := 107) dX10_order_105 4 rfl rfl ?_
  refine Rn.istore_n (pc' := 108) (L' := [(3, .int x6), (0, .ref x0), (1, .int x1), (2, .int x2), (5, .int x5), (6, .int x6)]) dX10_order_107 rfl (by decide) rfl rfl ?_
  refine Rn.aload_n (pc' := 109) dX10_order_108 rfl 1 rfl rfl ?_
  obtain ⟨g1, E⟩ := gd_of E
  refine Rn.getR (pc' := 112) fl_X10_55_9 g1 rfl dX10_order_109 rfl ?_
  refine Rn.iload_n (pc' := 113) dX10_order_112 rfl 3 rfl rfl ?_
  obtain ⟨v2, h3, e4, E⟩ := bI_of E
  refine Rn.callS1 (pc' := 116) (As := [.ref (hR h x0 8), .int x2]) (rest := []) (f_Water_figuresOf_ok hst e4) (Nat.le_trans (by decide) hd) rfl kb_X10_352 ks_X10_figuresOf rfl rfl (Nat.le_of_ble_eq_true rfl) dX10_order_113 rfl rfl ?_
  refine Rn.istore (pc' := 118) (L' := [(4, .int v2), (3, .int x6), (0, .ref x0), (1, .int x1), (2, .int x2), (5, .int x5), (6, .int x6)]) dX10_order_116 (by decide) rfl rfl ?_
  refine Rn.sub [2, 3, 4, 1, 0, 5] rfl ?_
  exact f_Water_order_b118_ok hst hd  hk59 E
theorem kb_X10_348 : KB RX10 348 yX3_drinkBy mX3_drinkBy 1 := ⟨gw_at 664 (by decide +kernel) (by decide +kernel), gw_at 113 (by decide +kernel) (by decide +kernel), trivial, ws_X3_drinkBy, by decide +kernel, by decide +kernel, by decide +kernel, by decide⟩
theorem ki_X3_drinkBy : Cond.instanceMethod yX3_drinkBy ∈ gw ∧ Cond.selects yX3_drinkBy.cls yX3_drinkBy yX3_drinkBy ∈ gw := ⟨gw_at 665 (by decide +kernel) (by decide +kernel), gw_at 666 (by decide +kernel) (by decide +kernel)⟩
def f_Water_order_b59  (k59 : Hp → Nat → Int32 → Int32 → Int32 → Int32 → Int32 → Option (Int32 × Hp)) (h : Hp) (x0 : Nat) (x1 : Int32) (x2 : Int32) (x3 : Int32) (x4 : Int32) (x5 : Int32)  : Option (Int32 × Hp) :=
if (120 : Int32) ≤ x5 then (
f_Water_order_b138   h x1 x3 x4

) else (
if x3 = 0 then (
f_Water_order_b138   h x1 x3 x4

) else (
if hS h x0 = 10 then (
if hS h (hR h x0 6) = 4 then (
bV (f_Land_copyFrom h (hR h x0 6) (hR h x0 5)) fun h6 =>
if hS h6 x0 = 10 then (
if hS h6 (hR h6 x0 6) = 4 then (
bI (f_Land_drinkBy h6 (hR h6 x0 6) (hR h6 x0 8)) fun v10 h11 =>
if x3 = (-1 : Int32) then (
f_Water_order_b105  k59 h11 x0 x1 x2 x5 v10

) else (
if x3 ≤ v10 then (
f_Water_order_b118  k59 h11 x0 x1 x2 x3 x4 x5

) else (
f_Water_order_b105  k59 h11 x0 x1 x2 x5 v10

)

)
) else none) else none) else none) else none
)

)

set_option maxRecDepth 20000 in
set_option maxHeartbeats 4000000 in
theorem f_Water_order_b59_ok {l : Launch} {X : Nat × (Nat → Int32)} (hst : l.stackTraces = false) {d : Nat} (hd : 6 ≤ d)   {k59 : Hp → Nat → Int32 → Int32 → Int32 → Int32 → Int32 → Option (Int32 × Hp)} (hk59 : ∀ (h : Hp) (x0 : Nat) (x1 : Int32) (x2 : Int32) (x3 : Int32) (x4 : Int32) (x5 : Int32)  (r : Int32 × Hp), k59 h x0 x1 x2 x3 x4 x5 = some r → Rn l X mX10_order d 59 [(0, .ref x0), (1, .int x1), (2, .int x2), (3, .int x3), (4, .int x4), (5, .int x5)] [] h (eI r) r.2) {h : Hp} {x0 : Nat} {x1 : Int32} {x2 : Int32} {x3 : Int32} {x4 : Int32} {x5 : Int32}  {r : Int32 × Hp} (E : f_Water_order_b59  k59 h x0 x1 x2 x3 x4 x5 = some r) : Rn l X mX10_order d 59 [(0, .ref x0), (1, .int x1), (2, .int x2), (3, .int x3), (4, .int x4), (5, .int x5)] [] h (eI r) r.2 := by
  unfold f_Water_order_b59 at E
  refine Rn.iload (pc' := 61) dX10_order_59 5 rfl rfl ?_
  refine Rn.bipush (pc' := 63) (v := (120 : Int32)) (hv := by decide) dX10_order_61 rfl ?_
  refine Rn.icmp_ge (pc' := 66) (tgt := 138) dX10_order_63 (by decide) rfl (fun c1 => ?_) (fun c1 => ?_)
  · replace E := (if_of E).1 c1
    refine Rn.sub [1, 3, 4] rfl ?_
    exact f_Water_order_b138_ok hst hd   E
  · replace E := (if_of E).2 c1
    refine Rn.iload_n (pc' := 67) dX10_order_66 rfl 3 rfl rfl ?_
    refine Rn.if_eq (pc' := 70) (tgt := 138) dX10_order_67 (by decide) rfl (fun c2 => ?_) (fun c2 => ?_)
    · replace E := (if_of E).1 c2
      refine Rn.sub [1, 3, 4] rfl ?_
      exact f_Water_order_b138_ok hst hd   E
    · replace E := (if_of E).2 c2
      refine Rn.aload_n (pc' := 71) dX10_order_70 rfl 0 rfl rfl ?_
      obtain ⟨g3, E⟩ := gd_of E
      refine Rn.getR (pc' := 74) fl_X10_49_9 g3 rfl dX10_order_71 rfl ?_
      refine Rn.aload_n (pc' := 75) dX10_order_74 rfl 0 rfl rfl ?_
      refine Rn.getR (pc' := 78) fl_X10_46_9 g3 rfl dX10_order_75 rfl ?_
      obtain ⟨g4, E⟩ := gd_of E
      obtain ⟨h6, e7, E⟩ := bV_of E
      refine Rn.callV1 (pc' := 81) (As := [.ref (hR h x0 5)]) (rest := []) (f_Land_copyFrom_ok hst e7) (Nat.le_trans (by decide) hd) rfl kb_X10_219 ki_X3_copyFrom rfl g4 rfl rfl (Nat.le_of_ble_eq_true rfl) dX10_order_78 rfl rfl ?_
      refine Rn.aload_n (pc' := 82) dX10_order_81 rfl 0 rfl rfl ?_
      obtain ⟨g8, E⟩ := gd_of E
      refine Rn.getR (pc' := 85) fl_X10_49_9 g8 rfl dX10_order_82 rfl ?_
      refine Rn.aload_n (pc' := 86) dX10_order_85 rfl 0 rfl rfl ?_
      refine Rn.getR (pc' := 89) fl_X10_55_9 g8 rfl dX10_order_86 rfl ?_
      obtain ⟨g9, E⟩ := gd_of E
      obtain ⟨v10, h11, e12, E⟩ := bI_of E
      refine Rn.callV1 (pc' := 92) (As := [.ref (hR h6 x0 8)]) (rest := []) (f_Land_drinkBy_ok hst e12) (Nat.le_trans (by decide) hd) rfl kb_X10_348 ki_X3_drinkBy rfl g9 rfl rfl (Nat.le_of_ble_eq_true rfl) dX10_order_89 rfl rfl ?_
      refine Rn.istore (pc' := 94) (L' := [(6, .int v10), (0, .ref x0), (1, .int x1), (2, .int x2), (3, .int x3), (4, .int x4), (5, .int x5)]) dX10_order_92 (by decide) rfl rfl ?_
      refine Rn.iload_n (pc' := 95) dX10_order_94 rfl 4 rfl rfl ?_
      refine Rn.iconst (pc' := 96) (v := (-1 : Int32)) (hv := by decide) dX10_order_95 rfl ?_
      refine Rn.icmp_eq (pc' := 99) (tgt := 105) dX10_order_96 (by decide) rfl (fun c13 => ?_) (fun c13 => ?_)
      · replace E := (if_of E).1 c13
        refine Rn.sub [1, 2, 3, 6, 0] rfl ?_
        exact f_Water_order_b105_ok hst hd  hk59 E
      · replace E := (if_of E).2 c13
        refine Rn.iload (pc' := 101) dX10_order_99 0 rfl rfl ?_
        refine Rn.iload_n (pc' := 102) dX10_order_101 rfl 4 rfl rfl ?_
        refine Rn.icmp_ge (pc' := 105) (tgt := 118) dX10_order_102 (by decide) rfl (fun c14 => ?_) (fun c14 => ?_)
        · replace E := (if_of E).1 c14
          refine Rn.sub [1, 2, 3, 4, 5, 6] rfl ?_
          exact f_Water_order_b118_ok hst hd  hk59 E
        · replace E := (if_of E).2 c14
          refine Rn.sub [1, 2, 3, 6, 0] rfl ?_
          exact f_Water_order_b105_ok hst hd  hk59 E
def f_Water_order_L59   (n : Nat) : Hp → Nat → Int32 → Int32 → Int32 → Int32 → Int32 → Option (Int32 × Hp) := Nat.rec (motive := fun _ => Hp → Nat → Int32 → Int32 → Int32 → Int32 → Int32 → Option (Int32 × Hp)) (fun _ _ _ _ _ _ _ => none) (fun _ rec => f_Water_order_b59   rec) n
theorem f_Water_order_L59_ok {l : Launch} {X : Nat × (Nat → Int32)} (hst : l.stackTraces = false) {d : Nat} (hd : 6 ≤ d)     : ∀ (n : Nat) (h : Hp) (x0 : Nat) (x1 : Int32) (x2 : Int32) (x3 : Int32) (x4 : Int32) (x5 : Int32)  (r : Int32 × Hp), f_Water_order_L59   n h x0 x1 x2 x3 x4 x5 = some r → Rn l X mX10_order d 59 [(0, .ref x0), (1, .int x1), (2, .int x2), (3, .int x3), (4, .int x4), (5, .int x5)] [] h (eI r) r.2 := by
  intro n
  induction n with
  | zero => intro h x0 x1 x2 x3 x4 x5 r E; cases E
  | succ n ih => intro h x0 x1 x2 x3 x4 x5 r E; exact f_Water_order_b59_ok hst hd   ih E
def f_Water_order_b32  (k32 : Hp → Nat → Int32 → Int32 → Int32 → Option (Int32 × Hp)) (h : Hp) (x0 : Nat) (x1 : Int32) (x2 : Int32) (x3 : Int32)  : Option (Int32 × Hp) :=
if (8 : Int32) ≤ x3 then (
f_Water_order_L59   FU h x0 x1 x2 (-1 : Int32) (0 : Int32) (0 : Int32)

) else (
if hS h x0 = 10 then (
if hS h (hR h x0 8) = 20 then (
if ib x3 (hL h (hR h x0 8)) = true then (
wr (sI h (hR h x0 8) (ix x3) x3) fun h5 =>
k32 h5 x0 x1 x2 (x3 + (1 : Int32))
) else none) else none) else none
)

set_option maxRecDepth 20000 in
set_option maxHeartbeats 4000000 in
theorem f_Water_order_b32_ok {l : Launch} {X : Nat × (Nat → Int32)} (hst : l.stackTraces = false) {d : Nat} (hd : 6 ≤ d)   {k32 : Hp → Nat → Int32 → Int32 → Int32 → Option (Int32 × Hp)} (hk32 : ∀ (h : Hp) (x0 : Nat) (x1 : Int32) (x2 : Int32) (x3 : Int32)  (r : Int32 × Hp), k32 h x0 x1 x2 x3 = some r → Rn l X mX10_order d 32 [(0, .ref x0), (1, .int x1), (2, .int x2), (3, .int x3)] [] h (eI r) r.2) {h : Hp} {x0 : Nat} {x1 : Int32} {x2 : Int32} {x3 : Int32}  {r : Int32 × Hp} (E : f_Water_order_b32  k32 h x0 x1 x2 x3 = some r) : Rn l X mX10_order d 32 [(0, .ref x0), (1, .int x1), (2, .int x2), (3, .int x3)] [] h (eI r) r.2 := by
  unfold f_Water_order_b32 at E
  refine Rn.iload_n (pc' := 33) dX10_order_32 rfl 3 rfl rfl ?_
  refine Rn.bipush (pc' := 35) (v := (8 : Int32)) (hv := by decide) dX10_order_33 rfl ?_
  refine Rn.icmp_ge (pc' := 38) (tgt := 51) dX10_order_35 (by decide) rfl (fun c1 => ?_) (fun c1 => ?_)
  · replace E := (if_of E).1 c1
    refine Rn.iconst (pc' := 52) (v := (-1 : Int32)) (hv := by decide) dX10_order_51 rfl ?_
    refine Rn.istore_n (pc' := 53) (L' := [(3, .int (-1 : Int32)), (0, .ref x0), (1, .int x1), (2, .int x2)]) dX10_order_52 rfl (by decide) rfl rfl ?_
    refine Rn.iconst (pc' := 54) (v := (0 : Int32)) (hv := by decide) dX10_order_53 rfl ?_
    refine Rn.istore (pc' := 56) (L' := [(4, .int (0 : Int32)), (3, .int (-1 : Int32)), (0, .ref x0), (1, .int x1), (2, .int x2)]) dX10_order_54 (by decide) rfl rfl ?_
    refine Rn.iconst (pc' := 57) (v := (0 : Int32)) (hv := by decide) dX10_order_56 rfl ?_
    refine Rn.istore (pc' := 59) (L' := [(5, .int (0 : Int32)), (4, .int (0 : Int32)), (3, .int (-1 : Int32)), (0, .ref x0), (1, .int x1), (2, .int x2)]) dX10_order_57 (by decide) rfl rfl ?_
    refine Rn.sub [3, 4, 5, 2, 1, 0] rfl ?_
    exact f_Water_order_L59_ok hst hd   FU _ _ _ _ _ _ _ _ E
  · replace E := (if_of E).2 c1
    refine Rn.aload_n (pc' := 39) dX10_order_38 rfl 0 rfl rfl ?_
    obtain ⟨g2, E⟩ := gd_of E
    refine Rn.getR (pc' := 42) fl_X10_55_9 g2 rfl dX10_order_39 rfl ?_
    refine Rn.iload_n (pc' := 43) dX10_order_42 rfl 3 rfl rfl ?_
    refine Rn.iload_n (pc' := 44) dX10_order_43 rfl 3 rfl rfl ?_
    obtain ⟨g3, E⟩ := gd_of E
    obtain ⟨g4, E⟩ := gd_of E
    refine Rn.iast (pc' := 45) g3 g4 dX10_order_44 rfl ?_
    replace E := wr_of E
    generalize eh6 : sI h (hR h x0 8) (ix x3) x3 = h5 at E ⊢
    refine Rn.iinc (pc' := 48) (v := (x3 + (1 : Int32))) (L' := [(3, .int (x3 + (1 : Int32))), (0, .ref x0), (1, .int x1), (2, .int x2)]) dX10_order_45 3 rfl rfl (by decide) rfl rfl ?_
    refine Rn.goto (pc' := 32) dX10_order_48 (by decide) ?_
    refine Rn.sub [1, 2, 3, 0] rfl ?_
    exact hk32 _ _ _ _ _ _ E
def f_Water_order_L32   (n : Nat) : Hp → Nat → Int32 → Int32 → Int32 → Option (Int32 × Hp) := Nat.rec (motive := fun _ => Hp → Nat → Int32 → Int32 → Int32 → Option (Int32 × Hp)) (fun _ _ _ _ _ => none) (fun _ rec => f_Water_order_b32   rec) n
theorem f_Water_order_L32_ok {l : Launch} {X : Nat × (Nat → Int32)} (hst : l.stackTraces = false) {d : Nat} (hd : 6 ≤ d)     : ∀ (n : Nat) (h : Hp) (x0 : Nat) (x1 : Int32) (x2 : Int32) (x3 : Int32)  (r : Int32 × Hp), f_Water_order_L32   n h x0 x1 x2 x3 = some r → Rn l X mX10_order d 32 [(0, .ref x0), (1, .int x1), (2, .int x2), (3, .int x3)] [] h (eI r) r.2 := by
  intro n
  induction n with
  | zero => intro h x0 x1 x2 x3 r E; cases E
  | succ n ih => intro h x0 x1 x2 x3 r E; exact f_Water_order_b32_ok hst hd   ih E
theorem kb_X10_345 : KB RX10 345 yX3_leakAll mX3_leakAll 0 := ⟨gw_at 662 (by decide +kernel) (by decide +kernel), gw_at 113 (by decide +kernel) (by decide +kernel), trivial, ws_X3_leakAll, by decide +kernel, by decide +kernel, by decide +kernel, by decide⟩
theorem kb_X10_267 : KB RX10 267 yJ9_min_7cf53 mJ9_min_7cf53 2 := ⟨gw_at 663 (by decide +kernel) (by decide +kernel), gw_at 128 (by decide +kernel) (by decide +kernel), trivial, ws_J9_min_7cf53, by decide +kernel, by decide +kernel, by decide +kernel, by decide⟩
def f_Water_order_b0   (h : Hp) (x0 : Nat) (x1 : Int32)  : Option (Int32 × Hp) :=
if hS h x0 = 10 then (
if hS h (hR h x0 5) = 4 then (
bV (f_Land_copyFrom h (hR h x0 5) (hR h x0 4)) fun h4 =>
if hS h4 x0 = 10 then (
if hS h4 (hR h4 x0 5) = 4 then (
bV (f_Land_leakAll h4 (hR h4 x0 5)) fun h9 =>
if hS h9 x0 = 10 then (
if hS h9 (hR h9 x0 4) = 4 then (
bI (f_Math_min h9 (5 : Int32) (hI h9 (hR h9 x0 4) 1)) fun v13 h14 =>
f_Water_order_L32   FU h14 x0 x1 v13 (0 : Int32)
) else none) else none) else none) else none) else none) else none
set_option maxRecDepth 20000 in
set_option maxHeartbeats 4000000 in
theorem f_Water_order_b0_ok {l : Launch} {X : Nat × (Nat → Int32)} (hst : l.stackTraces = false) {d : Nat} (hd : 6 ≤ d)     {h : Hp} {x0 : Nat} {x1 : Int32}  {r : Int32 × Hp} (E : f_Water_order_b0   h x0 x1 = some r) : Rn l X mX10_order d 0 [(0, .ref x0), (1, .int x1)] [] h (eI r) r.2 := by
  unfold f_Water_order_b0 at E
  refine Rn.aload_n (pc' := 1) dX10_order_0 rfl 0 rfl rfl ?_
  obtain ⟨g1, E⟩ := gd_of E
  refine Rn.getR (pc' := 4) fl_X10_46_9 g1 rfl dX10_order_1 rfl ?_
  refine Rn.aload_n (pc' := 5) dX10_order_4 rfl 0 rfl rfl ?_
  refine Rn.getR (pc' := 8) fl_X10_42_9 g1 rfl dX10_order_5 rfl ?_
  obtain ⟨g2, E⟩ := gd_of E
  obtain ⟨h4, e5, E⟩ := bV_of E
  refine Rn.callV1 (pc' := 11) (As := [.ref (hR h x0 4)]) (rest := []) (f_Land_copyFrom_ok hst e5) (Nat.le_trans (by decide) hd) rfl kb_X10_219 ki_X3_copyFrom rfl g2 rfl rfl (Nat.le_of_ble_eq_true rfl) dX10_order_8 rfl rfl ?_
  refine Rn.aload_n (pc' := 12) dX10_order_11 rfl 0 rfl rfl ?_
  obtain ⟨g6, E⟩ := gd_of E
  refine Rn.getR (pc' := 15) fl_X10_46_9 g6 rfl dX10_order_12 rfl ?_
  obtain ⟨g7, E⟩ := gd_of E
  obtain ⟨h9, e10, E⟩ := bV_of E
  refine Rn.callV1 (pc' := 18) (As := []) (rest := []) (f_Land_leakAll_ok hst e10) (Nat.le_trans (by decide) hd) rfl kb_X10_345 ki_X3_leakAll rfl g7 rfl rfl (Nat.le_of_ble_eq_true rfl) dX10_order_15 rfl rfl ?_
  refine Rn.iconst (pc' := 19) (v := (5 : Int32)) (hv := by decide) dX10_order_18 rfl ?_
  refine Rn.aload_n (pc' := 20) dX10_order_19 rfl 0 rfl rfl ?_
  obtain ⟨g11, E⟩ := gd_of E
  refine Rn.getR (pc' := 23) fl_X10_42_9 g11 rfl dX10_order_20 rfl ?_
  obtain ⟨g12, E⟩ := gd_of E
  refine Rn.getI (pc' := 26) fl_X10_76_3 g12 rfl dX10_order_23 rfl ?_
  obtain ⟨v13, h14, e15, E⟩ := bI_of E
  refine Rn.callS1 (pc' := 29) (As := [.int (5 : Int32), .int (hI h9 (hR h9 x0 4) 1)]) (rest := []) (f_Math_min_ok hst e15) (Nat.le_trans (by decide) hd) rfl kb_X10_267 ks_J9_min_7cf53 rfl rfl (Nat.le_of_ble_eq_true rfl) dX10_order_26 rfl rfl ?_
  refine Rn.istore_n (pc' := 30) (L' := [(2, .int v13), (0, .ref x0), (1, .int x1)]) dX10_order_29 rfl (by decide) rfl rfl ?_
  refine Rn.iconst (pc' := 31) (v := (0 : Int32)) (hv := by decide) dX10_order_30 rfl ?_
  refine Rn.istore_n (pc' := 32) (L' := [(3, .int (0 : Int32)), (2, .int v13), (0, .ref x0), (1, .int x1)]) dX10_order_31 rfl (by decide) rfl rfl ?_
  refine Rn.sub [2, 3, 1, 0] rfl ?_
  exact f_Water_order_L32_ok hst hd   FU _ _ _ _ _ _ E
def f_Water_order (h : Hp) (x0 : Nat) (x1 : Int32) : Option (Int32 × Hp) := f_Water_order_b0  h x0 x1
theorem f_Water_order_ok {l : Launch} {X : Nat × (Nat → Int32)} (hst : l.stackTraces = false) {h : Hp} {x0 : Nat} {x1 : Int32} {r : Int32 × Hp} (E : f_Water_order h x0 x1 = some r) : MC l X yX10_order mX10_order 6 [.ref x0, .int x1] h (eI r) r.2 :=
  MC.body (by decide +kernel) rfl (by decide) hst (Nat.le_of_ble_eq_true rfl) (f_Water_order_b0_ok hst (Nat.le_refl _) E)
abbrev mX11_orders : MI := (RX11, cX11_orders, 6, (some Jvm.ClassFile.FieldType.boolean), [], false)
theorem ws_X11_orders : ∀ w ∈ wsM yX11_orders mX11_orders, w ∈ gw := List.forall_mem_cons.mpr ⟨gw_at 1929 (by decide +kernel) (by decide +kernel), fun _ h => h⟩
def f_Model_orders_b52  (k52 : Hp → Nat → Int32 → Int32 → Int32 → Option (Int32 × Hp)) (h : Hp) (x0 : Nat) (x2 : Int32) (x4 : Int32) (x5 : Int32)  : Option (Int32 × Hp) :=
if hS h x0 = 11 then (
bI (f_Model_houses h x0) fun v2 h3 =>
if v2 ≤ x5 then (
if x4 = ((jshl (1 : Int32) x2) - (1 : Int32)) then (
some ((1 : Int32), h3)

) else (
some ((0 : Int32), h3)

)

) else (
if hS h3 x0 = 11 then (
if hS h3 (hR h3 x0 19) = 20 then (
if ib x5 (hL h3 (hR h3 x0 19)) = true then (
wr (sI h3 (hR h3 x0 19) (ix x5) x5) fun h10 =>
k52 h10 x0 x2 x4 (x5 + (1 : Int32))
) else none) else none) else none
)
) else none
set_option maxRecDepth 20000 in
set_option maxHeartbeats 4000000 in
theorem f_Model_orders_b52_ok {l : Launch} {X : Nat × (Nat → Int32)} (hst : l.stackTraces = false) {d : Nat} (hd : 1 ≤ d)   {k52 : Hp → Nat → Int32 → Int32 → Int32 → Option (Int32 × Hp)} (hk52 : ∀ (h : Hp) (x0 : Nat) (x2 : Int32) (x4 : Int32) (x5 : Int32)  (r : Int32 × Hp), k52 h x0 x2 x4 x5 = some r → Rn l X mX11_orders d 52 [(0, .ref x0), (2, .int x2), (4, .int x4), (5, .int x5)] [] h (eI r) r.2) {h : Hp} {x0 : Nat} {x2 : Int32} {x4 : Int32} {x5 : Int32}  {r : Int32 × Hp} (E : f_Model_orders_b52  k52 h x0 x2 x4 x5 = some r) : Rn l X mX11_orders d 52 [(0, .ref x0), (2, .int x2), (4, .int x4), (5, .int x5)] [] h (eI r) r.2 := by
  unfold f_Model_orders_b52 at E
  refine Rn.iload (pc' := 54) dX11_orders_52 3 rfl rfl ?_
  refine Rn.aload_n (pc' := 55) dX11_orders_54 rfl 0 rfl rfl ?_
  obtain ⟨g1, E⟩ := gd_of E
  obtain ⟨v2, h3, e4, E⟩ := bI_of E
  refine Rn.callV1 (pc' := 58) (As := []) (rest := [.int x5]) (f_Model_houses_ok hst e4) (Nat.le_trans (by decide) hd) rfl kb_X11_60 ki_X11_houses rfl g1 rfl rfl (Nat.le_of_ble_eq_true rfl) dX11_orders_55 rfl rfl ?_
  refine Rn.icmp_ge (pc' := 61) (tgt := 76) dX11_orders_58 (by decide) rfl (fun c5 => ?_) (fun c5 => ?_)
  · replace E := (if_of E).1 c5
    refine Rn.iload (pc' := 78) dX11_orders_76 2 rfl rfl ?_
    refine Rn.iconst (pc' := 79) (v := (1 : Int32)) (hv := by decide) dX11_orders_78 rfl ?_
    refine Rn.iload_n (pc' := 80) dX11_orders_79 rfl 1 rfl rfl ?_
    refine Rn.ishl (pc' := 81) dX11_orders_80 rfl ?_
    refine Rn.iconst (pc' := 82) (v := (1 : Int32)) (hv := by decide) dX11_orders_81 rfl ?_
    refine Rn.isub (pc' := 83) dX11_orders_82 rfl ?_
    refine Rn.icmp_ne (pc' := 86) (tgt := 90) dX11_orders_83 (by decide) rfl (fun c6 => ?_) (fun c6 => ?_)
    · replace E := (if_of E).2 c6
      refine Rn.iconst (pc' := 91) (v := (0 : Int32)) (hv := by decide) dX11_orders_90 rfl ?_
      cases E
      exact Rn.zret rfl rfl dX11_orders_91
    · replace E := (if_of E).1 c6
      refine Rn.iconst (pc' := 87) (v := (1 : Int32)) (hv := by decide) dX11_orders_86 rfl ?_
      refine Rn.goto (pc' := 91) dX11_orders_87 (by decide) ?_
      cases E
      exact Rn.zret rfl rfl dX11_orders_91
  · replace E := (if_of E).2 c5
    refine Rn.aload_n (pc' := 62) dX11_orders_61 rfl 0 rfl rfl ?_
    obtain ⟨g7, E⟩ := gd_of E
    refine Rn.getR (pc' := 65) fl_X11_42_10 g7 rfl dX11_orders_62 rfl ?_
    refine Rn.iload (pc' := 67) dX11_orders_65 3 rfl rfl ?_
    refine Rn.iload (pc' := 69) dX11_orders_67 3 rfl rfl ?_
    obtain ⟨g8, E⟩ := gd_of E
    obtain ⟨g9, E⟩ := gd_of E
    refine Rn.iast (pc' := 70) g8 g9 dX11_orders_69 rfl ?_
    replace E := wr_of E
    generalize eh11 : sI h3 (hR h3 x0 19) (ix x5) x5 = h10 at E ⊢
    refine Rn.iinc (pc' := 73) (v := (x5 + (1 : Int32))) (L' := [(5, .int (x5 + (1 : Int32))), (0, .ref x0), (2, .int x2), (4, .int x4)]) dX11_orders_70 3 rfl rfl (by decide) rfl rfl ?_
    refine Rn.goto (pc' := 52) dX11_orders_73 (by decide) ?_
    refine Rn.sub [1, 2, 3, 0] rfl ?_
    exact hk52 _ _ _ _ _ _ E
def f_Model_orders_L52   (n : Nat) : Hp → Nat → Int32 → Int32 → Int32 → Option (Int32 × Hp) := Nat.rec (motive := fun _ => Hp → Nat → Int32 → Int32 → Int32 → Option (Int32 × Hp)) (fun _ _ _ _ _ => none) (fun _ rec => f_Model_orders_b52   rec) n
theorem f_Model_orders_L52_ok {l : Launch} {X : Nat × (Nat → Int32)} (hst : l.stackTraces = false) {d : Nat} (hd : 1 ≤ d)     : ∀ (n : Nat) (h : Hp) (x0 : Nat) (x2 : Int32) (x4 : Int32) (x5 : Int32)  (r : Int32 × Hp), f_Model_orders_L52   n h x0 x2 x4 x5 = some r → Rn l X mX11_orders d 52 [(0, .ref x0), (2, .int x2), (4, .int x4), (5, .int x5)] [] h (eI r) r.2 := by
  intro n
  induction n with
  | zero => intro h x0 x2 x4 x5 r E; cases E
  | succ n ih => intro h x0 x2 x4 x5 r E; exact f_Model_orders_b52_ok hst hd   ih E
def f_Model_orders_b10  (k10 : Hp → Nat → Int32 → Int32 → Int32 → Int32 → Option (Int32 × Hp)) (h : Hp) (x0 : Nat) (x2 : Int32) (x3 : Int32) (x4 : Int32) (x5 : Int32)  : Option (Int32 × Hp) :=
if x5 < 0 then (
f_Model_orders_L52   FU h x0 x2 x4 x2

) else (
if hS h x0 = 11 then (
if ¬ x2 = 0 then (
if hS h (hR h x0 19) = 20 then (
if ib x5 (hL h (hR h x0 19)) = true then (
wr (sI h (hR h x0 19) (ix x5) (jrem x3 x2)) fun h6 =>
if hS h6 (hR h6 x0 19) = 20 then (
if ib x5 (hL h6 (hR h6 x0 19)) = true then (
if ¬ x2 = 0 then (
k10 h6 x0 x2 (x3 / x2) (x4 ||| (jshl (1 : Int32) (hI h6 (hR h6 x0 19) (ix x5)))) (x5 + (-1 : Int32))
) else none) else none) else none) else none) else none) else none) else none
)

set_option maxRecDepth 20000 in
set_option maxHeartbeats 4000000 in
theorem f_Model_orders_b10_ok {l : Launch} {X : Nat × (Nat → Int32)} (hst : l.stackTraces = false) {d : Nat} (hd : 1 ≤ d)   {k10 : Hp → Nat → Int32 → Int32 → Int32 → Int32 → Option (Int32 × Hp)} (hk10 : ∀ (h : Hp) (x0 : Nat) (x2 : Int32) (x3 : Int32) (x4 : Int32) (x5 : Int32)  (r : Int32 × Hp), k10 h x0 x2 x3 x4 x5 = some r → Rn l X mX11_orders d 10 [(0, .ref x0), (2, .int x2), (3, .int x3), (4, .int x4), (5, .int x5)] [] h (eI r) r.2) {h : Hp} {x0 : Nat} {x2 : Int32} {x3 : Int32} {x4 : Int32} {x5 : Int32}  {r : Int32 × Hp} (E : f_Model_orders_b10  k10 h x0 x2 x3 x4 x5 = some r) : Rn l X mX11_orders d 10 [(0, .ref x0), (2, .int x2), (3, .int x3), (4, .int x4), (5, .int x5)] [] h (eI r) r.2 := by
  unfold f_Model_orders_b10 at E
  refine Rn.iload (pc' := 12) dX11_orders_10 4 rfl rfl ?_
  refine Rn.if_lt (pc' := 15) (tgt := 49) dX11_orders_12 (by decide) rfl (fun c1 => ?_) (fun c1 => ?_)
  · replace E := (if_of E).1 c1
    refine Rn.iload_n (pc' := 50) dX11_orders_49 rfl 1 rfl rfl ?_
    refine Rn.istore (pc' := 52) (L' := [(5, .int x2), (0, .ref x0), (2, .int x2), (3, .int x3), (4, .int x4)]) dX11_orders_50 (by decide) rfl rfl ?_
    refine Rn.sub [1, 2, 4, 0] rfl ?_
    exact f_Model_orders_L52_ok hst hd   FU _ _ _ _ _ _ E
  · replace E := (if_of E).2 c1
    refine Rn.aload_n (pc' := 16) dX11_orders_15 rfl 0 rfl rfl ?_
    obtain ⟨g2, E⟩ := gd_of E
    refine Rn.getR (pc' := 19) fl_X11_42_10 g2 rfl dX11_orders_16 rfl ?_
    refine Rn.iload (pc' := 21) dX11_orders_19 4 rfl rfl ?_
    refine Rn.iload_n (pc' := 22) dX11_orders_21 rfl 2 rfl rfl ?_
    refine Rn.iload_n (pc' := 23) dX11_orders_22 rfl 1 rfl rfl ?_
    obtain ⟨g3, E⟩ := gd_of E
    refine Rn.irem (pc' := 24) (hne := g3) dX11_orders_23 rfl ?_
    obtain ⟨g4, E⟩ := gd_of E
    obtain ⟨g5, E⟩ := gd_of E
    refine Rn.iast (pc' := 25) g4 g5 dX11_orders_24 rfl ?_
    replace E := wr_of E
    generalize eh7 : sI h (hR h x0 19) (ix x5) (jrem x3 x2) = h6 at E ⊢
    refine Rn.iload (pc' := 27) dX11_orders_25 3 rfl rfl ?_
    refine Rn.iconst (pc' := 28) (v := (1 : Int32)) (hv := by decide) dX11_orders_27 rfl ?_
    refine Rn.aload_n (pc' := 29) dX11_orders_28 rfl 0 rfl rfl ?_
    refine Rn.getR (pc' := 32) fl_X11_42_10 (kp_sI eh7 g2) rfl dX11_orders_29 rfl ?_
    refine Rn.iload (pc' := 34) dX11_orders_32 4 rfl rfl ?_
    obtain ⟨g8, E⟩ := gd_of E
    obtain ⟨g9, E⟩ := gd_of E
    refine Rn.iald (pc' := 35) g8 g9 dX11_orders_34 rfl ?_
    refine Rn.ishl (pc' := 36) dX11_orders_35 rfl ?_
    refine Rn.ior (pc' := 37) dX11_orders_36 rfl ?_
    refine Rn.istore (pc' := 39) (L' := [(4, .int (x4 ||| (jshl (1 : Int32) (hI h6 (hR h6 x0 19) (ix x5))))), (0, .ref x0), (2, .int x2), (3, .int x3), (5, .int x5)]) dX11_orders_37 (by decide) rfl rfl ?_
    refine Rn.iload_n (pc' := 40) dX11_orders_39 rfl 3 rfl rfl ?_
    refine Rn.iload_n (pc' := 41) dX11_orders_40 rfl 2 rfl rfl ?_
    obtain ⟨g10, E⟩ := gd_of E
    refine Rn.idiv (pc' := 42) (hne := g10) dX11_orders_41 rfl ?_
    refine Rn.istore_n (pc' := 43) (L' := [(3, .int (x3 / x2)), (4, .int (x4 ||| (jshl (1 : Int32) (hI h6 (hR h6 x0 19) (ix x5))))), (0, .ref x0), (2, .int x2), (5, .int x5)]) dX11_orders_42 rfl (by decide) rfl rfl ?_
    refine Rn.iinc (pc' := 46) (v := (x5 + (-1 : Int32))) (L' := [(5, .int (x5 + (-1 : Int32))), (3, .int (x3 / x2)), (4, .int (x4 ||| (jshl (1 : Int32) (hI h6 (hR h6 x0 19) (ix x5))))), (0, .ref x0), (2, .int x2)]) dX11_orders_43 4 rfl rfl (by decide) rfl rfl ?_
    refine Rn.goto (pc' := 10) dX11_orders_46 (by decide) ?_
    refine Rn.sub [3, 4, 1, 2, 0] rfl ?_
    exact hk10 _ _ _ _ _ _ _ E
def f_Model_orders_L10   (n : Nat) : Hp → Nat → Int32 → Int32 → Int32 → Int32 → Option (Int32 × Hp) := Nat.rec (motive := fun _ => Hp → Nat → Int32 → Int32 → Int32 → Int32 → Option (Int32 × Hp)) (fun _ _ _ _ _ _ => none) (fun _ rec => f_Model_orders_b10   rec) n
theorem f_Model_orders_L10_ok {l : Launch} {X : Nat × (Nat → Int32)} (hst : l.stackTraces = false) {d : Nat} (hd : 1 ≤ d)     : ∀ (n : Nat) (h : Hp) (x0 : Nat) (x2 : Int32) (x3 : Int32) (x4 : Int32) (x5 : Int32)  (r : Int32 × Hp), f_Model_orders_L10   n h x0 x2 x3 x4 x5 = some r → Rn l X mX11_orders d 10 [(0, .ref x0), (2, .int x2), (3, .int x3), (4, .int x4), (5, .int x5)] [] h (eI r) r.2 := by
  intro n
  induction n with
  | zero => intro h x0 x2 x3 x4 x5 r E; cases E
  | succ n ih => intro h x0 x2 x3 x4 x5 r E; exact f_Model_orders_b10_ok hst hd   ih E
def f_Model_orders_b0   (h : Hp) (x0 : Nat) (x1 : Int32) (x2 : Int32)  : Option (Int32 × Hp) :=
f_Model_orders_L10   FU h x0 x2 x1 (0 : Int32) (x2 - (1 : Int32))

set_option maxRecDepth 20000 in
set_option maxHeartbeats 4000000 in
theorem f_Model_orders_b0_ok {l : Launch} {X : Nat × (Nat → Int32)} (hst : l.stackTraces = false) {d : Nat} (hd : 1 ≤ d)     {h : Hp} {x0 : Nat} {x1 : Int32} {x2 : Int32}  {r : Int32 × Hp} (E : f_Model_orders_b0   h x0 x1 x2 = some r) : Rn l X mX11_orders d 0 [(0, .ref x0), (1, .int x1), (2, .int x2)] [] h (eI r) r.2 := by
  unfold f_Model_orders_b0 at E
  refine Rn.iload_n (pc' := 1) dX11_orders_0 rfl 1 rfl rfl ?_
  refine Rn.istore_n (pc' := 2) (L' := [(3, .int x1), (0, .ref x0), (1, .int x1), (2, .int x2)]) dX11_orders_1 rfl (by decide) rfl rfl ?_
  refine Rn.iconst (pc' := 3) (v := (0 : Int32)) (hv := by decide) dX11_orders_2 rfl ?_
  refine Rn.istore (pc' := 5) (L' := [(4, .int (0 : Int32)), (3, .int x1), (0, .ref x0), (1, .int x1), (2, .int x2)]) dX11_orders_3 (by decide) rfl rfl ?_
  refine Rn.iload_n (pc' := 6) dX11_orders_5 rfl 4 rfl rfl ?_
  refine Rn.iconst (pc' := 7) (v := (1 : Int32)) (hv := by decide) dX11_orders_6 rfl ?_
  refine Rn.isub (pc' := 8) dX11_orders_7 rfl ?_
  refine Rn.istore (pc' := 10) (L' := [(5, .int (x2 - (1 : Int32))), (4, .int (0 : Int32)), (3, .int x1), (0, .ref x0), (1, .int x1), (2, .int x2)]) dX11_orders_8 (by decide) rfl rfl ?_
  refine Rn.sub [3, 5, 2, 1, 0] rfl ?_
  exact f_Model_orders_L10_ok hst hd   FU _ _ _ _ _ _ _ E
def f_Model_orders (h : Hp) (x0 : Nat) (x1 : Int32) (x2 : Int32) : Option (Int32 × Hp) := f_Model_orders_b0  h x0 x1 x2
theorem f_Model_orders_ok {l : Launch} {X : Nat × (Nat → Int32)} (hst : l.stackTraces = false) {h : Hp} {x0 : Nat} {x1 : Int32} {x2 : Int32} {r : Int32 × Hp} (E : f_Model_orders h x0 x1 x2 = some r) : MC l X yX11_orders mX11_orders 1 [.ref x0, .int x1, .int x2] h (eI r) r.2 :=
  MC.body (by decide +kernel) rfl (by decide) hst (Nat.le_of_ble_eq_true rfl) (f_Model_orders_b0_ok hst (Nat.le_refl _) E)
abbrev mX11_order : MI := (RX11, cX11_order, 9, (some Jvm.ClassFile.FieldType.int), [], false)
theorem ws_X11_order : ∀ w ∈ wsM yX11_order mX11_order, w ∈ gw := List.forall_mem_cons.mpr ⟨gw_at 1925 (by decide +kernel) (by decide +kernel), fun _ h => h⟩
def f_Model_order_b170  (k54 : Hp → Nat → Int32 → Int32 → Int32 → Int32 → Int32 → Int32 → Option (Int32 × Hp)) (h : Hp) (x0 : Nat) (x1 : Int32) (x2 : Int32) (x3 : Int32) (x4 : Int32) (x5 : Int32) (x6 : Int32)  : Option (Int32 × Hp) :=
k54 h x0 x1 x2 x3 x4 x5 (x6 + (1 : Int32))

set_option maxRecDepth 20000 in
set_option maxHeartbeats 4000000 in
theorem f_Model_order_b170_ok {l : Launch} {X : Nat × (Nat → Int32)} (hst : l.stackTraces = false) {d : Nat} (hd : 7 ≤ d)   {k54 : Hp → Nat → Int32 → Int32 → Int32 → Int32 → Int32 → Int32 → Option (Int32 × Hp)} (hk54 : ∀ (h : Hp) (x0 : Nat) (x1 : Int32) (x2 : Int32) (x3 : Int32) (x4 : Int32) (x5 : Int32) (x6 : Int32)  (r : Int32 × Hp), k54 h x0 x1 x2 x3 x4 x5 x6 = some r → Rn l X mX11_order d 54 [(0, .ref x0), (1, .int x1), (2, .int x2), (3, .int x3), (4, .int x4), (5, .int x5), (6, .int x6)] [] h (eI r) r.2) {h : Hp} {x0 : Nat} {x1 : Int32} {x2 : Int32} {x3 : Int32} {x4 : Int32} {x5 : Int32} {x6 : Int32}  {r : Int32 × Hp} (E : f_Model_order_b170  k54 h x0 x1 x2 x3 x4 x5 x6 = some r) : Rn l X mX11_order d 170 [(0, .ref x0), (1, .int x1), (2, .int x2), (3, .int x3), (4, .int x4), (5, .int x5), (6, .int x6)] [] h (eI r) r.2 := by
  unfold f_Model_order_b170 at E
  refine Rn.iinc (pc' := 173) (v := (x6 + (1 : Int32))) (L' := [(6, .int (x6 + (1 : Int32))), (0, .ref x0), (1, .int x1), (2, .int x2), (3, .int x3), (4, .int x4), (5, .int x5)]) dX11_order_170 6 rfl rfl (by decide) rfl rfl ?_
  refine Rn.goto (pc' := 54) dX11_order_173 (by decide) ?_
  refine Rn.sub [1, 2, 3, 4, 5, 6, 0] rfl ?_
  exact hk54 _ _ _ _ _ _ _ _ _ E
def f_Model_order_b143  (k54 : Hp → Nat → Int32 → Int32 → Int32 → Int32 → Int32 → Int32 → Option (Int32 × Hp)) (k143 : Hp → Nat → Int32 → Int32 → Int32 → Int32 → Int32 → Int32 → Int32 → Option (Int32 × Hp)) (h : Hp) (x0 : Nat) (x1 : Int32) (x2 : Int32) (x3 : Int32) (x4 : Int32) (x5 : Int32) (x6 : Int32) (x8 : Int32)  : Option (Int32 × Hp) :=
if x2 ≤ x8 then (
f_Model_order_b170  k54 h x0 x1 x2 x3 x4 x5 x6

) else (
if hS h x0 = 11 then (
if hS h (hR h x0 19) = 20 then (
if ib x8 (hL h (hR h x0 19)) = true then (
k143 h x0 x1 x2 x3 (((8 : Int32) * x4) + (hI h (hR h x0 19) (ix x8))) x5 x6 (x8 + (1 : Int32))
) else none) else none) else none
)

set_option maxRecDepth 20000 in
set_option maxHeartbeats 4000000 in
theorem f_Model_order_b143_ok {l : Launch} {X : Nat × (Nat → Int32)} (hst : l.stackTraces = false) {d : Nat} (hd : 7 ≤ d)   {k54 : Hp → Nat → Int32 → Int32 → Int32 → Int32 → Int32 → Int32 → Option (Int32 × Hp)} {k143 : Hp → Nat → Int32 → Int32 → Int32 → Int32 → Int32 → Int32 → Int32 → Option (Int32 × Hp)} (hk54 : ∀ (h : Hp) (x0 : Nat) (x1 : Int32) (x2 : Int32) (x3 : Int32) (x4 : Int32) (x5 : Int32) (x6 : Int32)  (r : Int32 × Hp), k54 h x0 x1 x2 x3 x4 x5 x6 = some r → Rn l X mX11_order d 54 [(0, .ref x0), (1, .int x1), (2, .int x2), (3, .int x3), (4, .int x4), (5, .int x5), (6, .int x6)] [] h (eI r) r.2) (hk143 : ∀ (h : Hp) (x0 : Nat) (x1 : Int32) (x2 : Int32) (x3 : Int32) (x4 : Int32) (x5 : Int32) (x6 : Int32) (x8 : Int32)  (r : Int32 × Hp), k143 h x0 x1 x2 x3 x4 x5 x6 x8 = some r → Rn l X mX11_order d 143 [(0, .ref x0), (1, .int x1), (2, .int x2), (3, .int x3), (4, .int x4), (5, .int x5), (6, .int x6), (8, .int x8)] [] h (eI r) r.2) {h : Hp} {x0 : Nat} {x1 : Int32} {x2 : Int32} {x3 : Int32} {x4 : Int32} {x5 : Int32} {x6 : Int32} {x8 : Int32}  {r : Int32 × Hp} (E : f_Model_order_b143  k54 k143 h x0 x1 x2 x3 x4 x5 x6 x8 = some r) : Rn l X mX11_order d 143 [(0, .ref x0), (1, .int x1), (2, .int x2), (3, .int x3), (4, .int x4), (5, .int x5), (6, .int x6), (8, .int x8)] [] h (eI r) r.2 := by
  unfold f_Model_order_b143 at E
  refine Rn.iload (pc' := 145) dX11_order_143 7 rfl rfl ?_
  refine Rn.iload_n (pc' := 146) dX11_order_145 rfl 2 rfl rfl ?_
  refine Rn.icmp_ge (pc' := 149) (tgt := 170) dX11_order_146 (by decide) rfl (fun c1 => ?_) (fun c1 => ?_)
  · replace E := (if_of E).1 c1
    refine Rn.sub [0, 1, 2, 3, 4, 5, 6] rfl ?_
    exact f_Model_order_b170_ok hst hd  hk54 E
  · replace E := (if_of E).2 c1
    refine Rn.bipush (pc' := 151) (v := (8 : Int32)) (hv := by decide) dX11_order_149 rfl ?_
    refine Rn.iload (pc' := 153) dX11_order_151 4 rfl rfl ?_
    refine Rn.imul (pc' := 154) dX11_order_153 rfl ?_
    refine Rn.aload_n (pc' := 155) dX11_order_154 rfl 0 rfl rfl ?_
    obtain ⟨g2, E⟩ := gd_of E
    refine Rn.getR (pc' := 158) fl_X11_42_10 g2 rfl dX11_order_155 rfl ?_
    refine Rn.iload (pc' := 160) dX11_order_158 7 rfl rfl ?_
    obtain ⟨g3, E⟩ := gd_of E
    obtain ⟨g4, E⟩ := gd_of E
    refine Rn.iald (pc' := 161) g3 g4 dX11_order_160 rfl ?_
    refine Rn.iadd (pc' := 162) dX11_order_161 rfl ?_
    refine Rn.istore (pc' := 164) (L' := [(4, .int (((8 : Int32) * x4) + (hI h (hR h x0 19) (ix x8)))), (0, .ref x0), (1, .int x1), (2, .int x2), (3, .int x3), (5, .int x5), (6, .int x6), (8, .int x8)]) dX11_order_162 (by decide) rfl rfl ?_
    refine Rn.iinc (pc' := 167) (v := (x8 + (1 : Int32))) (L' := [(8, .int (x8 + (1 : Int32))), (4, .int (((8 : Int32) * x4) + (hI h (hR h x0 19) (ix x8)))), (0, .ref x0), (1, .int x1), (2, .int x2), (3, .int x3), (5, .int x5), (6, .int x6)]) dX11_order_164 7 rfl rfl (by decide) rfl rfl ?_
    refine Rn.goto (pc' := 143) dX11_order_167 (by decide) ?_
    refine Rn.sub [2, 3, 4, 5, 1, 6, 7, 0] rfl ?_
    exact hk143 _ _ _ _ _ _ _ _ _ _ E
def f_Model_order_L143  (k54 : Hp → Nat → Int32 → Int32 → Int32 → Int32 → Int32 → Int32 → Option (Int32 × Hp)) (n : Nat) : Hp → Nat → Int32 → Int32 → Int32 → Int32 → Int32 → Int32 → Int32 → Option (Int32 × Hp) := Nat.rec (motive := fun _ => Hp → Nat → Int32 → Int32 → Int32 → Int32 → Int32 → Int32 → Int32 → Option (Int32 × Hp)) (fun _ _ _ _ _ _ _ _ _ => none) (fun _ rec => f_Model_order_b143  k54 rec) n
theorem f_Model_order_L143_ok {l : Launch} {X : Nat × (Nat → Int32)} (hst : l.stackTraces = false) {d : Nat} (hd : 7 ≤ d)   {k54 : Hp → Nat → Int32 → Int32 → Int32 → Int32 → Int32 → Int32 → Option (Int32 × Hp)} (hk54 : ∀ (h : Hp) (x0 : Nat) (x1 : Int32) (x2 : Int32) (x3 : Int32) (x4 : Int32) (x5 : Int32) (x6 : Int32)  (r : Int32 × Hp), k54 h x0 x1 x2 x3 x4 x5 x6 = some r → Rn l X mX11_order d 54 [(0, .ref x0), (1, .int x1), (2, .int x2), (3, .int x3), (4, .int x4), (5, .int x5), (6, .int x6)] [] h (eI r) r.2) : ∀ (n : Nat) (h : Hp) (x0 : Nat) (x1 : Int32) (x2 : Int32) (x3 : Int32) (x4 : Int32) (x5 : Int32) (x6 : Int32) (x8 : Int32)  (r : Int32 × Hp), f_Model_order_L143  k54 n h x0 x1 x2 x3 x4 x5 x6 x8 = some r → Rn l X mX11_order d 143 [(0, .ref x0), (1, .int x1), (2, .int x2), (3, .int x3), (4, .int x4), (5, .int x5), (6, .int x6), (8, .int x8)] [] h (eI r) r.2 := by
  intro n
  induction n with
  | zero => intro h x0 x1 x2 x3 x4 x5 x6 x8 r E; cases E
  | succ n ih => intro h x0 x1 x2 x3 x4 x5 x6 x8 r E; exact f_Model_order_b143_ok hst hd  hk54 ih E
def f_Model_order_b133  (k54 : Hp → Nat → Int32 → Int32 → Int32 → Int32 → Int32 → Int32 → Option (Int32 × Hp)) (h : Hp) (x0 : Nat) (x1 : Int32) (x2 : Int32) (x3 : Int32) (x6 : Int32) (x7 : Int32)  : Option (Int32 × Hp) :=
f_Model_order_L143  k54 FU h x0 x1 x2 x3 (0 : Int32) x7 x6 (0 : Int32)

set_option maxRecDepth 20000 in
set_option maxHeartbeats 4000000 in
theorem f_Model_order_b133_ok {l : Launch} {X : Nat × (Nat → Int32)} (hst : l.stackTraces = false) {d : Nat} (hd : 7 ≤ d)   {k54 : Hp → Nat → Int32 → Int32 → Int32 → Int32 → Int32 → Int32 → Option (Int32 × Hp)} (hk54 : ∀ (h : Hp) (x0 : Nat) (x1 : Int32) (x2 : Int32) (x3 : Int32) (x4 : Int32) (x5 : Int32) (x6 : Int32)  (r : Int32 × Hp), k54 h x0 x1 x2 x3 x4 x5 x6 = some r → Rn l X mX11_order d 54 [(0, .ref x0), (1, .int x1), (2, .int x2), (3, .int x3), (4, .int x4), (5, .int x5), (6, .int x6)] [] h (eI r) r.2) {h : Hp} {x0 : Nat} {x1 : Int32} {x2 : Int32} {x3 : Int32} {x6 : Int32} {x7 : Int32}  {r : Int32 × Hp} (E : f_Model_order_b133  k54 h x0 x1 x2 x3 x6 x7 = some r) : Rn l X mX11_order d 133 [(0, .ref x0), (1, .int x1), (2, .int x2), (3, .int x3), (6, .int x6), (7, .int x7)] [] h (eI r) r.2 := by
  unfold f_Model_order_b133 at E
  refine Rn.iload (pc' := 135) dX11_order_133 5 rfl rfl ?_
  refine Rn.istore (pc' := 137) (L' := [(5, .int x7), (0, .ref x0), (1, .int x1), (2, .int x2), (3, .int x3), (6, .int x6), (7, .int x7)]) dX11_order_135 (by decide) rfl rfl ?_
  refine Rn.iconst (pc' := 138) (v := (0 : Int32)) (hv := by decide) dX11_order_137 rfl ?_
  refine Rn.istore (pc' := 140) (L' := [(4, .int (0 : Int32)), (5, .int x7), (0, .ref x0), (1, .int x1), (2, .int x2), (3, .int x3), (6, .int x6), (7, .int x7)]) dX11_order_138 (by decide) rfl rfl ?_
  refine Rn.iconst (pc' := 141) (v := (0 : Int32)) (hv := by decide) dX11_order_140 rfl ?_
  refine Rn.istore (pc' := 143) (L' := [(8, .int (0 : Int32)), (4, .int (0 : Int32)), (5, .int x7), (0, .ref x0), (1, .int x1), (2, .int x2), (3, .int x3), (6, .int x6), (7, .int x7)]) dX11_order_141 (by decide) rfl rfl ?_
  refine Rn.sub [3, 4, 5, 6, 1, 2, 7, 0] rfl ?_
  exact f_Model_order_L143_ok hst hd  hk54 FU _ _ _ _ _ _ _ _ _ _ E
def f_Model_order_b83  (k54 : Hp → Nat → Int32 → Int32 → Int32 → Int32 → Int32 → Int32 → Option (Int32 × Hp)) (k83 : Hp → Nat → Int32 → Int32 → Int32 → Int32 → Int32 → Int32 → Int32 → Int32 → Option (Int32 × Hp)) (h : Hp) (x0 : Nat) (x1 : Int32) (x2 : Int32) (x3 : Int32) (x4 : Int32) (x5 : Int32) (x6 : Int32) (x7 : Int32) (x8 : Int32)  : Option (Int32 × Hp) :=
if hS h x0 = 11 then (
bI (f_Model_houses h x0) fun v2 h3 =>
if v2 ≤ x8 then (
if hS h3 x0 = 11 then (
bV (f_Model_laysBack h3 x0) fun h8 =>
if x4 < 0 then (
f_Model_order_b133  k54 h8 x0 x1 x2 x3 x6 x7

) else (
if x7 < x5 then (
f_Model_order_b133  k54 h8 x0 x1 x2 x3 x6 x7

) else (
f_Model_order_b170  k54 h8 x0 x1 x2 x3 x4 x5 x6

)

)
) else none
) else (
if hS h3 x0 = 11 then (
if hS h3 (hR h3 x0 19) = 20 then (
if ib x8 (hL h3 (hR h3 x0 19)) = true then (
bI (f_Model_drinks h3 x0 (hI h3 (hR h3 x0 19) (ix x8))) fun v15 h16 =>
k83 h16 x0 x1 x2 x3 x4 x5 x6 (x7 + v15) (x8 + (1 : Int32))
) else none) else none) else none
)
) else none
set_option maxRecDepth 20000 in
set_option maxHeartbeats 4000000 in
theorem f_Model_order_b83_ok {l : Launch} {X : Nat × (Nat → Int32)} (hst : l.stackTraces = false) {d : Nat} (hd : 7 ≤ d)   {k54 : Hp → Nat → Int32 → Int32 → Int32 → Int32 → Int32 → Int32 → Option (Int32 × Hp)} {k83 : Hp → Nat → Int32 → Int32 → Int32 → Int32 → Int32 → Int32 → Int32 → Int32 → Option (Int32 × Hp)} (hk54 : ∀ (h : Hp) (x0 : Nat) (x1 : Int32) (x2 : Int32) (x3 : Int32) (x4 : Int32) (x5 : Int32) (x6 : Int32)  (r : Int32 × Hp), k54 h x0 x1 x2 x3 x4 x5 x6 = some r → Rn l X mX11_order d 54 [(0, .ref x0), (1, .int x1), (2, .int x2), (3, .int x3), (4, .int x4), (5, .int x5), (6, .int x6)] [] h (eI r) r.2) (hk83 : ∀ (h : Hp) (x0 : Nat) (x1 : Int32) (x2 : Int32) (x3 : Int32) (x4 : Int32) (x5 : Int32) (x6 : Int32) (x7 : Int32) (x8 : Int32)  (r : Int32 × Hp), k83 h x0 x1 x2 x3 x4 x5 x6 x7 x8 = some r → Rn l X mX11_order d 83 [(0, .ref x0), (1, .int x1), (2, .int x2), (3, .int x3), (4, .int x4), (5, .int x5), (6, .int x6), (7, .int x7), (8, .int x8)] [] h (eI r) r.2) {h : Hp} {x0 : Nat} {x1 : Int32} {x2 : Int32} {x3 : Int32} {x4 : Int32} {x5 : Int32} {x6 : Int32} {x7 : Int32} {x8 : Int32}  {r : Int32 × Hp} (E : f_Model_order_b83  k54 k83 h x0 x1 x2 x3 x4 x5 x6 x7 x8 = some r) : Rn l X mX11_order d 83 [(0, .ref x0), (1, .int x1), (2, .int x2), (3, .int x3), (4, .int x4), (5, .int x5), (6, .int x6), (7, .int x7), (8, .int x8)] [] h (eI r) r.2 := by
  unfold f_Model_order_b83 at E
  refine Rn.iload (pc' := 85) dX11_order_83 8 rfl rfl ?_
  refine Rn.aload_n (pc' := 86) dX11_order_85 rfl 0 rfl rfl ?_
  obtain ⟨g1, E⟩ := gd_of E
  obtain ⟨v2, h3, e4, E⟩ := bI_of E
  refine Rn.callV1 (pc' := 89) (As := []) (rest := [.int x8]) (f_Model_houses_ok hst e4) (Nat.le_trans (by decide) hd) rfl kb_X11_60 ki_X11_houses rfl g1 rfl rfl (Nat.le_of_ble_eq_true rfl) dX11_order_86 rfl rfl ?_
  refine Rn.icmp_ge (pc' := 92) (tgt := 114) dX11_order_89 (by decide) rfl (fun c5 => ?_) (fun c5 => ?_)
  · replace E := (if_of E).1 c5
    refine Rn.aload_n (pc' := 115) dX11_order_114 rfl 0 rfl rfl ?_
    obtain ⟨g6, E⟩ := gd_of E
    obtain ⟨h8, e9, E⟩ := bV_of E
    refine Rn.callV1 (pc' := 118) (As := []) (rest := []) (f_Model_laysBack_ok hst e9) (Nat.le_trans (by decide) hd) rfl kb_X11_335 ki_X11_laysBack rfl g6 rfl rfl (Nat.le_of_ble_eq_true rfl) dX11_order_115 rfl rfl ?_
    refine Rn.iload (pc' := 120) dX11_order_118 4 rfl rfl ?_
    refine Rn.if_lt (pc' := 123) (tgt := 133) dX11_order_120 (by decide) rfl (fun c10 => ?_) (fun c10 => ?_)
    · replace E := (if_of E).1 c10
      refine Rn.sub [0, 1, 2, 3, 6, 7] rfl ?_
      exact f_Model_order_b133_ok hst hd  hk54 E
    · replace E := (if_of E).2 c10
      refine Rn.iload (pc' := 125) dX11_order_123 7 rfl rfl ?_
      refine Rn.iload (pc' := 127) dX11_order_125 5 rfl rfl ?_
      refine Rn.icmp_lt (pc' := 130) (tgt := 133) dX11_order_127 (by decide) rfl (fun c11 => ?_) (fun c11 => ?_)
      · replace E := (if_of E).1 c11
        refine Rn.sub [0, 1, 2, 3, 6, 7] rfl ?_
        exact f_Model_order_b133_ok hst hd  hk54 E
      · replace E := (if_of E).2 c11
        refine Rn.goto (pc' := 170) dX11_order_130 (by decide) ?_
        refine Rn.sub [0, 1, 2, 3, 4, 5, 6] rfl ?_
        exact f_Model_order_b170_ok hst hd  hk54 E
  · replace E := (if_of E).2 c5
    refine Rn.iload (pc' := 94) dX11_order_92 7 rfl rfl ?_
    refine Rn.aload_n (pc' := 95) dX11_order_94 rfl 0 rfl rfl ?_
    refine Rn.aload_n (pc' := 96) dX11_order_95 rfl 0 rfl rfl ?_
    obtain ⟨g12, E⟩ := gd_of E
    refine Rn.getR (pc' := 99) fl_X11_42_10 g12 rfl dX11_order_96 rfl ?_
    refine Rn.iload (pc' := 101) dX11_order_99 8 rfl rfl ?_
    obtain ⟨g13, E⟩ := gd_of E
    obtain ⟨g14, E⟩ := gd_of E
    refine Rn.iald (pc' := 102) g13 g14 dX11_order_101 rfl ?_
    obtain ⟨v15, h16, e17, E⟩ := bI_of E
    refine Rn.callV1 (pc' := 105) (As := [.int (hI h3 (hR h3 x0 19) (ix x8))]) (rest := [.int x7]) (f_Model_drinks_ok hst e17) (Nat.le_trans (by decide) hd) rfl kb_X11_318 ki_X11_drinks rfl g12 rfl rfl (Nat.le_of_ble_eq_true rfl) dX11_order_102 rfl rfl ?_
    refine Rn.iadd (pc' := 106) dX11_order_105 rfl ?_
    refine Rn.istore (pc' := 108) (L' := [(7, .int (x7 + v15)), (0, .ref x0), (1, .int x1), (2, .int x2), (3, .int x3), (4, .int x4), (5, .int x5), (6, .int x6), (8, .int x8)]) dX11_order_106 (by decide) rfl rfl ?_
    refine Rn.iinc (pc' := 111) (v := (x8 + (1 : Int32))) (L' := [(8, .int (x8 + (1 : Int32))), (7, .int (x7 + v15)), (0, .ref x0), (1, .int x1), (2, .int x2), (3, .int x3), (4, .int x4), (5, .int x5), (6, .int x6)]) dX11_order_108 8 rfl rfl (by decide) rfl rfl ?_
    refine Rn.goto (pc' := 83) dX11_order_111 (by decide) ?_
    refine Rn.sub [2, 3, 4, 5, 6, 7, 8, 1, 0] rfl ?_
    exact hk83 _ _ _ _ _ _ _ _ _ _ _ E
def f_Model_order_L83  (k54 : Hp → Nat → Int32 → Int32 → Int32 → Int32 → Int32 → Int32 → Option (Int32 × Hp)) (n : Nat) : Hp → Nat → Int32 → Int32 → Int32 → Int32 → Int32 → Int32 → Int32 → Int32 → Option (Int32 × Hp) := Nat.rec (motive := fun _ => Hp → Nat → Int32 → Int32 → Int32 → Int32 → Int32 → Int32 → Int32 → Int32 → Option (Int32 × Hp)) (fun _ _ _ _ _ _ _ _ _ _ => none) (fun _ rec => f_Model_order_b83  k54 rec) n
theorem f_Model_order_L83_ok {l : Launch} {X : Nat × (Nat → Int32)} (hst : l.stackTraces = false) {d : Nat} (hd : 7 ≤ d)   {k54 : Hp → Nat → Int32 → Int32 → Int32 → Int32 → Int32 → Int32 → Option (Int32 × Hp)} (hk54 : ∀ (h : Hp) (x0 : Nat) (x1 : Int32) (x2 : Int32) (x3 : Int32) (x4 : Int32) (x5 : Int32) (x6 : Int32)  (r : Int32 × Hp), k54 h x0 x1 x2 x3 x4 x5 x6 = some r → Rn l X mX11_order d 54 [(0, .ref x0), (1, .int x1), (2, .int x2), (3, .int x3), (4, .int x4), (5, .int x5), (6, .int x6)] [] h (eI r) r.2) : ∀ (n : Nat) (h : Hp) (x0 : Nat) (x1 : Int32) (x2 : Int32) (x3 : Int32) (x4 : Int32) (x5 : Int32) (x6 : Int32) (x7 : Int32) (x8 : Int32)  (r : Int32 × Hp), f_Model_order_L83  k54 n h x0 x1 x2 x3 x4 x5 x6 x7 x8 = some r → Rn l X mX11_order d 83 [(0, .ref x0), (1, .int x1), (2, .int x2), (3, .int x3), (4, .int x4), (5, .int x5), (6, .int x6), (7, .int x7), (8, .int x8)] [] h (eI r) r.2 := by
  intro n
  induction n with
  | zero => intro h x0 x1 x2 x3 x4 x5 x6 x7 x8 r E; cases E
  | succ n ih => intro h x0 x1 x2 x3 x4 x5 x6 x7 x8 r E; exact f_Model_order_b83_ok hst hd  hk54 ih E
theorem kb_X11_362 : KB RX11 362 yX11_orders mX11_orders 2 := ⟨gw_at 1926 (by decide +kernel) (by decide +kernel), gw_at 117 (by decide +kernel) (by decide +kernel), trivial, ws_X11_orders, by decide +kernel, by decide +kernel, by decide +kernel, by decide⟩
theorem ki_X11_orders : Cond.instanceMethod yX11_orders ∈ gw ∧ Cond.selects yX11_orders.cls yX11_orders yX11_orders ∈ gw := ⟨gw_at 1928 (by decide +kernel) (by decide +kernel), gw_at 105 (by decide +kernel) (by decide +kernel)⟩
def f_Model_order_b54  (k54 : Hp → Nat → Int32 → Int32 → Int32 → Int32 → Int32 → Int32 → Option (Int32 × Hp)) (h : Hp) (x0 : Nat) (x1 : Int32) (x2 : Int32) (x3 : Int32) (x4 : Int32) (x5 : Int32) (x6 : Int32)  : Option (Int32 × Hp) :=
if x3 ≤ x6 then (
if x1 = 0 then (
some (x5, h)

) else (
some (x4, h)

)

) else (
if hS h x0 = 11 then (
bI (f_Model_orders h x0 x6 x2) fun v4 h5 =>
if v4 = 0 then (
f_Model_order_b170  k54 h5 x0 x1 x2 x3 x4 x5 x6

) else (
if hS h5 x0 = 11 then (
bV (f_Model_leaks h5 x0) fun h10 =>
f_Model_order_L83  k54 FU h10 x0 x1 x2 x3 x4 x5 x6 (0 : Int32) (0 : Int32)
) else none
)
) else none
)

set_option maxRecDepth 20000 in
set_option maxHeartbeats 4000000 in
theorem f_Model_order_b54_ok {l : Launch} {X : Nat × (Nat → Int32)} (hst : l.stackTraces = false) {d : Nat} (hd : 7 ≤ d)   {k54 : Hp → Nat → Int32 → Int32 → Int32 → Int32 → Int32 → Int32 → Option (Int32 × Hp)} (hk54 : ∀ (h : Hp) (x0 : Nat) (x1 : Int32) (x2 : Int32) (x3 : Int32) (x4 : Int32) (x5 : Int32) (x6 : Int32)  (r : Int32 × Hp), k54 h x0 x1 x2 x3 x4 x5 x6 = some r → Rn l X mX11_order d 54 [(0, .ref x0), (1, .int x1), (2, .int x2), (3, .int x3), (4, .int x4), (5, .int x5), (6, .int x6)] [] h (eI r) r.2) {h : Hp} {x0 : Nat} {x1 : Int32} {x2 : Int32} {x3 : Int32} {x4 : Int32} {x5 : Int32} {x6 : Int32}  {r : Int32 × Hp} (E : f_Model_order_b54  k54 h x0 x1 x2 x3 x4 x5 x6 = some r) : Rn l X mX11_order d 54 [(0, .ref x0), (1, .int x1), (2, .int x2), (3, .int x3), (4, .int x4), (5, .int x5), (6, .int x6)] [] h (eI r) r.2 := by
  unfold f_Model_order_b54 at E
  refine Rn.iload (pc' := 56) dX11_order_54 6 rfl rfl ?_
  refine Rn.iload_n (pc' := 57) dX11_order_56 rfl 3 rfl rfl ?_
  refine Rn.icmp_ge (pc' := 60) (tgt := 176) dX11_order_57 (by decide) rfl (fun c1 => ?_) (fun c1 => ?_)
  · replace E := (if_of E).1 c1
    refine Rn.iload_n (pc' := 177) dX11_order_176 rfl 1 rfl rfl ?_
    refine Rn.if_eq (pc' := 180) (tgt := 185) dX11_order_177 (by decide) rfl (fun c2 => ?_) (fun c2 => ?_)
    · replace E := (if_of E).1 c2
      refine Rn.iload (pc' := 187) dX11_order_185 5 rfl rfl ?_
      cases E
      exact Rn.zret rfl rfl dX11_order_187
    · replace E := (if_of E).2 c2
      refine Rn.iload (pc' := 182) dX11_order_180 4 rfl rfl ?_
      refine Rn.goto (pc' := 187) dX11_order_182 (by decide) ?_
      cases E
      exact Rn.zret rfl rfl dX11_order_187
  · replace E := (if_of E).2 c1
    refine Rn.aload_n (pc' := 61) dX11_order_60 rfl 0 rfl rfl ?_
    refine Rn.iload (pc' := 63) dX11_order_61 6 rfl rfl ?_
    refine Rn.iload_n (pc' := 64) dX11_order_63 rfl 2 rfl rfl ?_
    obtain ⟨g3, E⟩ := gd_of E
    obtain ⟨v4, h5, e6, E⟩ := bI_of E
    refine Rn.callV1 (pc' := 67) (As := [.int x6, .int x2]) (rest := []) (f_Model_orders_ok hst e6) (Nat.le_trans (by decide) hd) rfl kb_X11_362 ki_X11_orders rfl g3 rfl rfl (Nat.le_of_ble_eq_true rfl) dX11_order_64 rfl rfl ?_
    refine Rn.if_ne (pc' := 70) (tgt := 73) dX11_order_67 (by decide) rfl (fun c7 => ?_) (fun c7 => ?_)
    · replace E := (if_of E).2 c7
      refine Rn.aload_n (pc' := 74) dX11_order_73 rfl 0 rfl rfl ?_
      obtain ⟨g8, E⟩ := gd_of E
      obtain ⟨h10, e11, E⟩ := bV_of E
      refine Rn.callV1 (pc' := 77) (As := []) (rest := []) (f_Model_leaks_ok hst e11) (Nat.le_trans (by decide) hd) rfl kb_X11_312 ki_X11_leaks rfl g8 rfl rfl (Nat.le_of_ble_eq_true rfl) dX11_order_74 rfl rfl ?_
      refine Rn.iconst (pc' := 78) (v := (0 : Int32)) (hv := by decide) dX11_order_77 rfl ?_
      refine Rn.istore (pc' := 80) (L' := [(7, .int (0 : Int32)), (0, .ref x0), (1, .int x1), (2, .int x2), (3, .int x3), (4, .int x4), (5, .int x5), (6, .int x6)]) dX11_order_78 (by decide) rfl rfl ?_
      refine Rn.iconst (pc' := 81) (v := (0 : Int32)) (hv := by decide) dX11_order_80 rfl ?_
      refine Rn.istore (pc' := 83) (L' := [(8, .int (0 : Int32)), (7, .int (0 : Int32)), (0, .ref x0), (1, .int x1), (2, .int x2), (3, .int x3), (4, .int x4), (5, .int x5), (6, .int x6)]) dX11_order_81 (by decide) rfl rfl ?_
      refine Rn.sub [2, 3, 4, 5, 6, 7, 8, 1, 0] rfl ?_
      exact f_Model_order_L83_ok hst hd  hk54 FU _ _ _ _ _ _ _ _ _ _ _ E
    · replace E := (if_of E).1 c7
      refine Rn.goto (pc' := 170) dX11_order_70 (by decide) ?_
      exact f_Model_order_b170_ok hst hd  hk54 E
def f_Model_order_L54   (n : Nat) : Hp → Nat → Int32 → Int32 → Int32 → Int32 → Int32 → Int32 → Option (Int32 × Hp) := Nat.rec (motive := fun _ => Hp → Nat → Int32 → Int32 → Int32 → Int32 → Int32 → Int32 → Option (Int32 × Hp)) (fun _ _ _ _ _ _ _ _ => none) (fun _ rec => f_Model_order_b54   rec) n
theorem f_Model_order_L54_ok {l : Launch} {X : Nat × (Nat → Int32)} (hst : l.stackTraces = false) {d : Nat} (hd : 7 ≤ d)     : ∀ (n : Nat) (h : Hp) (x0 : Nat) (x1 : Int32) (x2 : Int32) (x3 : Int32) (x4 : Int32) (x5 : Int32) (x6 : Int32)  (r : Int32 × Hp), f_Model_order_L54   n h x0 x1 x2 x3 x4 x5 x6 = some r → Rn l X mX11_order d 54 [(0, .ref x0), (1, .int x1), (2, .int x2), (3, .int x3), (4, .int x4), (5, .int x5), (6, .int x6)] [] h (eI r) r.2 := by
  intro n
  induction n with
  | zero => intro h x0 x1 x2 x3 x4 x5 x6 r E; cases E
  | succ n ih => intro h x0 x1 x2 x3 x4 x5 x6 r E; exact f_Model_order_b54_ok hst hd   ih E
def f_Model_order_b25  (k25 : Hp → Nat → Int32 → Int32 → Int32 → Int32 → Option (Int32 × Hp)) (h : Hp) (x0 : Nat) (x1 : Int32) (x2 : Int32) (x3 : Int32) (x4 : Int32)  : Option (Int32 × Hp) :=
if x2 ≤ x4 then (
if hS h x0 = 11 then (
bV (f_Model_keeps h x0) fun h4 =>
f_Model_order_L54   FU h4 x0 x1 x2 x3 (-1 : Int32) (0 : Int32) (0 : Int32)
) else none
) else (
k25 h x0 x1 x2 (x3 * x2) (x4 + (1 : Int32))

)

set_option maxRecDepth 20000 in
set_option maxHeartbeats 4000000 in
theorem f_Model_order_b25_ok {l : Launch} {X : Nat × (Nat → Int32)} (hst : l.stackTraces = false) {d : Nat} (hd : 7 ≤ d)   {k25 : Hp → Nat → Int32 → Int32 → Int32 → Int32 → Option (Int32 × Hp)} (hk25 : ∀ (h : Hp) (x0 : Nat) (x1 : Int32) (x2 : Int32) (x3 : Int32) (x4 : Int32)  (r : Int32 × Hp), k25 h x0 x1 x2 x3 x4 = some r → Rn l X mX11_order d 25 [(0, .ref x0), (1, .int x1), (2, .int x2), (3, .int x3), (4, .int x4)] [] h (eI r) r.2) {h : Hp} {x0 : Nat} {x1 : Int32} {x2 : Int32} {x3 : Int32} {x4 : Int32}  {r : Int32 × Hp} (E : f_Model_order_b25  k25 h x0 x1 x2 x3 x4 = some r) : Rn l X mX11_order d 25 [(0, .ref x0), (1, .int x1), (2, .int x2), (3, .int x3), (4, .int x4)] [] h (eI r) r.2 := by
  unfold f_Model_order_b25 at E
  refine Rn.iload (pc' := 27) dX11_order_25 4 rfl rfl ?_
  refine Rn.iload_n (pc' := 28) dX11_order_27 rfl 2 rfl rfl ?_
  refine Rn.icmp_ge (pc' := 31) (tgt := 41) dX11_order_28 (by decide) rfl (fun c1 => ?_) (fun c1 => ?_)
  · replace E := (if_of E).1 c1
    refine Rn.aload_n (pc' := 42) dX11_order_41 rfl 0 rfl rfl ?_
    obtain ⟨g2, E⟩ := gd_of E
    obtain ⟨h4, e5, E⟩ := bV_of E
    refine Rn.callV1 (pc' := 45) (As := []) (rest := []) (f_Model_keeps_ok hst e5) (Nat.le_trans (by decide) hd) rfl kb_X11_332 ki_X11_keeps rfl g2 rfl rfl (Nat.le_of_ble_eq_true rfl) dX11_order_42 rfl rfl ?_
    refine Rn.iconst (pc' := 46) (v := (-1 : Int32)) (hv := by decide) dX11_order_45 rfl ?_
    refine Rn.istore (pc' := 48) (L' := [(4, .int (-1 : Int32)), (0, .ref x0), (1, .int x1), (2, .int x2), (3, .int x3)]) dX11_order_46 (by decide) rfl rfl ?_
    refine Rn.iconst (pc' := 49) (v := (0 : Int32)) (hv := by decide) dX11_order_48 rfl ?_
    refine Rn.istore (pc' := 51) (L' := [(5, .int (0 : Int32)), (4, .int (-1 : Int32)), (0, .ref x0), (1, .int x1), (2, .int x2), (3, .int x3)]) dX11_order_49 (by decide) rfl rfl ?_
    refine Rn.iconst (pc' := 52) (v := (0 : Int32)) (hv := by decide) dX11_order_51 rfl ?_
    refine Rn.istore (pc' := 54) (L' := [(6, .int (0 : Int32)), (5, .int (0 : Int32)), (4, .int (-1 : Int32)), (0, .ref x0), (1, .int x1), (2, .int x2), (3, .int x3)]) dX11_order_52 (by decide) rfl rfl ?_
    refine Rn.sub [3, 4, 5, 6, 2, 1, 0] rfl ?_
    exact f_Model_order_L54_ok hst hd   FU _ _ _ _ _ _ _ _ _ E
  · replace E := (if_of E).2 c1
    refine Rn.iload_n (pc' := 32) dX11_order_31 rfl 3 rfl rfl ?_
    refine Rn.iload_n (pc' := 33) dX11_order_32 rfl 2 rfl rfl ?_
    refine Rn.imul (pc' := 34) dX11_order_33 rfl ?_
    refine Rn.istore_n (pc' := 35) (L' := [(3, .int (x3 * x2)), (0, .ref x0), (1, .int x1), (2, .int x2), (4, .int x4)]) dX11_order_34 rfl (by decide) rfl rfl ?_
    refine Rn.iinc (pc' := 38) (v := (x4 + (1 : Int32))) (L' := [(4, .int (x4 + (1 : Int32))), (3, .int (x3 * x2)), (0, .ref x0), (1, .int x1), (2, .int x2)]) dX11_order_35 4 rfl rfl (by decide) rfl rfl ?_
    refine Rn.goto (pc' := 25) dX11_order_38 (by decide) ?_
    refine Rn.sub [2, 3, 4, 1, 0] rfl ?_
    exact hk25 _ _ _ _ _ _ _ E
def f_Model_order_L25   (n : Nat) : Hp → Nat → Int32 → Int32 → Int32 → Int32 → Option (Int32 × Hp) := Nat.rec (motive := fun _ => Hp → Nat → Int32 → Int32 → Int32 → Int32 → Option (Int32 × Hp)) (fun _ _ _ _ _ _ => none) (fun _ rec => f_Model_order_b25   rec) n
theorem f_Model_order_L25_ok {l : Launch} {X : Nat × (Nat → Int32)} (hst : l.stackTraces = false) {d : Nat} (hd : 7 ≤ d)     : ∀ (n : Nat) (h : Hp) (x0 : Nat) (x1 : Int32) (x2 : Int32) (x3 : Int32) (x4 : Int32)  (r : Int32 × Hp), f_Model_order_L25   n h x0 x1 x2 x3 x4 = some r → Rn l X mX11_order d 25 [(0, .ref x0), (1, .int x1), (2, .int x2), (3, .int x3), (4, .int x4)] [] h (eI r) r.2 := by
  intro n
  induction n with
  | zero => intro h x0 x1 x2 x3 x4 r E; cases E
  | succ n ih => intro h x0 x1 x2 x3 x4 r E; exact f_Model_order_b25_ok hst hd   ih E
def f_Model_order_b0   (h : Hp) (x0 : Nat) (x1 : Int32)  : Option (Int32 × Hp) :=
if hS h x0 = 11 then (
wr (sI h x0 0 (0 : Int32)) fun h2 =>
bI (f_Model_houses h2 x0) fun v4 h5 =>
bI (f_Math_min h5 (5 : Int32) v4) fun v7 h8 =>
if v7 = 0 then (
some ((0 : Int32), h8)

) else (
f_Model_order_L25   FU h8 x0 x1 v7 (1 : Int32) (0 : Int32)

)
) else none
set_option maxRecDepth 20000 in
set_option maxHeartbeats 4000000 in
theorem f_Model_order_b0_ok {l : Launch} {X : Nat × (Nat → Int32)} (hst : l.stackTraces = false) {d : Nat} (hd : 7 ≤ d)     {h : Hp} {x0 : Nat} {x1 : Int32}  {r : Int32 × Hp} (E : f_Model_order_b0   h x0 x1 = some r) : Rn l X mX11_order d 0 [(0, .ref x0), (1, .int x1)] [] h (eI r) r.2 := by
  unfold f_Model_order_b0 at E
  refine Rn.aload_n (pc' := 1) dX11_order_0 rfl 0 rfl rfl ?_
  refine Rn.iconst (pc' := 2) (v := (0 : Int32)) (hv := by decide) dX11_order_1 rfl ?_
  obtain ⟨g1, E⟩ := gd_of E
  refine Rn.putI (pc' := 5) fl_X11_3_10 (fun q hq => by cases hq; decide) g1 rfl rfl rfl dX11_order_2 rfl ?_
  replace E := wr_of E
  generalize eh3 : sI h x0 0 (0 : Int32) = h2 at E ⊢
  refine Rn.iconst (pc' := 6) (v := (5 : Int32)) (hv := by decide) dX11_order_5 rfl ?_
  refine Rn.aload_n (pc' := 7) dX11_order_6 rfl 0 rfl rfl ?_
  obtain ⟨v4, h5, e6, E⟩ := bI_of E
  refine Rn.callV1 (pc' := 10) (As := []) (rest := [.int (5 : Int32)]) (f_Model_houses_ok hst e6) (Nat.le_trans (by decide) hd) rfl kb_X11_60 ki_X11_houses rfl (kp_sI eh3 g1) rfl rfl (Nat.le_of_ble_eq_true rfl) dX11_order_7 rfl rfl ?_
  obtain ⟨v7, h8, e9, E⟩ := bI_of E
  refine Rn.callS1 (pc' := 13) (As := [.int (5 : Int32), .int v4]) (rest := []) (f_Math_min_ok hst e9) (Nat.le_trans (by decide) hd) rfl kb_X11_63 ks_J9_min_7cf53 rfl rfl (Nat.le_of_ble_eq_true rfl) dX11_order_10 rfl rfl ?_
  refine Rn.istore_n (pc' := 14) (L' := [(2, .int v7), (0, .ref x0), (1, .int x1)]) dX11_order_13 rfl (by decide) rfl rfl ?_
  refine Rn.iload_n (pc' := 15) dX11_order_14 rfl 0 rfl rfl ?_
  refine Rn.if_ne (pc' := 18) (tgt := 20) dX11_order_15 (by decide) rfl (fun c10 => ?_) (fun c10 => ?_)
  · replace E := (if_of E).2 c10
    refine Rn.iconst (pc' := 21) (v := (1 : Int32)) (hv := by decide) dX11_order_20 rfl ?_
    refine Rn.istore_n (pc' := 22) (L' := [(3, .int (1 : Int32)), (2, .int v7), (0, .ref x0), (1, .int x1)]) dX11_order_21 rfl (by decide) rfl rfl ?_
    refine Rn.iconst (pc' := 23) (v := (0 : Int32)) (hv := by decide) dX11_order_22 rfl ?_
    refine Rn.istore (pc' := 25) (L' := [(4, .int (0 : Int32)), (3, .int (1 : Int32)), (2, .int v7), (0, .ref x0), (1, .int x1)]) dX11_order_23 (by decide) rfl rfl ?_
    refine Rn.sub [3, 4, 2, 1, 0] rfl ?_
    exact f_Model_order_L25_ok hst hd   FU _ _ _ _ _ _ _ E
  · replace E := (if_of E).1 c10
    refine Rn.iconst (pc' := 19) (v := (0 : Int32)) (hv := by decide) dX11_order_18 rfl ?_
    cases E
    exact Rn.zret rfl rfl dX11_order_19
def f_Model_order (h : Hp) (x0 : Nat) (x1 : Int32) : Option (Int32 × Hp) := f_Model_order_b0  h x0 x1
theorem f_Model_order_ok {l : Launch} {X : Nat × (Nat → Int32)} (hst : l.stackTraces = false) {h : Hp} {x0 : Nat} {x1 : Int32} {r : Int32 × Hp} (E : f_Model_order h x0 x1 = some r) : MC l X yX11_order mX11_order 7 [.ref x0, .int x1] h (eI r) r.2 :=
  MC.body (by decide +kernel) rfl (by decide) hst (Nat.le_of_ble_eq_true rfl) (f_Model_order_b0_ok hst (Nat.le_refl _) E)
abbrev mX10_needCistern : MI := (RX10, cX10_needCistern, 2, none, [], false)
theorem ws_X10_needCistern : ∀ w ∈ wsM yX10_needCistern mX10_needCistern, w ∈ gw := List.forall_mem_cons.mpr ⟨gw_at 1113 (by decide +kernel) (by decide +kernel), fun _ h => h⟩
def f_Water_needCistern_b15   (h : Hp)   : Option ((Unit ⊕ Nat) × Hp) :=
some (.inr 1, hA h 0 0 6)

set_option maxRecDepth 20000 in
set_option maxHeartbeats 4000000 in
theorem f_Water_needCistern_b15_ok {l : Launch} {X : Nat × (Nat → Int32)} (hst : l.stackTraces = false) {d : Nat} (hd : 0 ≤ d)     {h : Hp}   {r : (Unit ⊕ Nat) × Hp} (E : f_Water_needCistern_b15   h  = some r) : Rn l X mX10_needCistern d 15 [] [] h (xV r) r.2 := by
  unfold f_Water_needCistern_b15 at E
  cases E
  exact Rn.throwSW (x := 1) (i := 3) kt_X10_384_388 rfl rfl dX10_needCistern_15 dX10_needCistern_18 dX10_needCistern_19 dX10_needCistern_22 dX10_needCistern_25 (Nat.le_of_ble_eq_true rfl)
def f_Water_needCistern_b0   (h : Hp) (x0 : Nat) (x1 : Int32)  : Option ((Unit ⊕ Nat) × Hp) :=
if x1 < 0 then (
f_Water_needCistern_b15   h

) else (
if hS h x0 = 10 then (
if hS h (hR h x0 4) = 4 then (
if x1 < (hI h (hR h x0 4) 0) then (
some (.inl (), h)

) else (
f_Water_needCistern_b15   h

)
) else none) else none
)

set_option maxRecDepth 20000 in
set_option maxHeartbeats 4000000 in
theorem f_Water_needCistern_b0_ok {l : Launch} {X : Nat × (Nat → Int32)} (hst : l.stackTraces = false) {d : Nat} (hd : 0 ≤ d)     {h : Hp} {x0 : Nat} {x1 : Int32}  {r : (Unit ⊕ Nat) × Hp} (E : f_Water_needCistern_b0   h x0 x1 = some r) : Rn l X mX10_needCistern d 0 [(0, .ref x0), (1, .int x1)] [] h (xV r) r.2 := by
  unfold f_Water_needCistern_b0 at E
  refine Rn.iload_n (pc' := 1) dX10_needCistern_0 rfl 1 rfl rfl ?_
  refine Rn.if_lt (pc' := 4) (tgt := 15) dX10_needCistern_1 (by decide) rfl (fun c1 => ?_) (fun c1 => ?_)
  · replace E := (if_of E).1 c1
    refine Rn.sub [] rfl ?_
    exact f_Water_needCistern_b15_ok hst hd   E
  · replace E := (if_of E).2 c1
    refine Rn.iload_n (pc' := 5) dX10_needCistern_4 rfl 1 rfl rfl ?_
    refine Rn.aload_n (pc' := 6) dX10_needCistern_5 rfl 0 rfl rfl ?_
    obtain ⟨g2, E⟩ := gd_of E
    refine Rn.getR (pc' := 9) fl_X10_42_9 g2 rfl dX10_needCistern_6 rfl ?_
    obtain ⟨g3, E⟩ := gd_of E
    refine Rn.getI (pc' := 12) fl_X10_73_3 g3 rfl dX10_needCistern_9 rfl ?_
    refine Rn.icmp_lt (pc' := 15) (tgt := 26) dX10_needCistern_12 (by decide) rfl (fun c4 => ?_) (fun c4 => ?_)
    · replace E := (if_of E).1 c4
      cases E
      exact Rn.vret rfl dX10_needCistern_26
    · replace E := (if_of E).2 c4
      refine Rn.sub [] rfl ?_
      exact f_Water_needCistern_b15_ok hst hd   E
def f_Water_needCistern (h : Hp) (x0 : Nat) (x1 : Int32) : Option ((Unit ⊕ Nat) × Hp) := f_Water_needCistern_b0  h x0 x1
theorem f_Water_needCistern_ok {l : Launch} {X : Nat × (Nat → Int32)} (hst : l.stackTraces = false) {h : Hp} {x0 : Nat} {x1 : Int32} {r : (Unit ⊕ Nat) × Hp} (E : f_Water_needCistern h x0 x1 = some r) : MC l X yX10_needCistern mX10_needCistern 0 [.ref x0, .int x1] h (xV r) r.2 :=
  MC.body (by decide +kernel) rfl (by decide) hst (Nat.le_of_ble_eq_true rfl) (f_Water_needCistern_b0_ok hst (Nat.le_refl _) E)
abbrev mX10_mix : MI := (RX10, cX10_mix, 7, (some Jvm.ClassFile.FieldType.int), [], false)
theorem ws_X10_mix : ∀ w ∈ wsM yX10_mix mX10_mix, w ∈ gw := List.forall_mem_cons.mpr ⟨gw_at 1397 (by decide +kernel) (by decide +kernel), fun _ h => h⟩
def f_Water_mix_b19   (h : Hp)   : Option ((Int32 ⊕ Nat) × Hp) :=
some (.inr 2, hA h 0 0 6)

set_option maxRecDepth 20000 in
set_option maxHeartbeats 4000000 in
theorem f_Water_mix_b19_ok {l : Launch} {X : Nat × (Nat → Int32)} (hst : l.stackTraces = false) {d : Nat} (hd : 4 ≤ d)     {h : Hp}   {r : (Int32 ⊕ Nat) × Hp} (E : f_Water_mix_b19   h  = some r) : Rn l X mX10_mix d 19 [] [] h (xI r) r.2 := by
  unfold f_Water_mix_b19 at E
  cases E
  exact Rn.throwSW (x := 2) (i := 20) kt_X10_88_92 rfl rfl dX10_mix_19 dX10_mix_22 dX10_mix_23 dX10_mix_26 dX10_mix_29 (Nat.le_of_ble_eq_true rfl)
theorem kb_X10_123 : KB RX10 123 yX10_needCistern mX10_needCistern 1 := ⟨gw_at 1110 (by decide +kernel) (by decide +kernel), gw_at 107 (by decide +kernel) (by decide +kernel), trivial, ws_X10_needCistern, by decide +kernel, by decide +kernel, by decide +kernel, by decide⟩
theorem ki_X10_needCistern : Cond.instanceMethod yX10_needCistern ∈ gw ∧ Cond.selects yX10_needCistern.cls yX10_needCistern yX10_needCistern ∈ gw := ⟨gw_at 1112 (by decide +kernel) (by decide +kernel), gw_at 31 (by decide +kernel) (by decide +kernel)⟩
theorem fl_X10_126_3 : FL RX10 126 3 3 := ⟨_, rfl, by decide, "VintageWater$Land", gw_at 366 (by decide +kernel) (by decide +kernel), Or.inl rfl⟩
theorem fl_X10_148_0 : FL RX10 148 0 5 := ⟨_, rfl, by decide, "VintageWater$Cistern", gw_at 285 (by decide +kernel) (by decide +kernel), Or.inl rfl⟩
theorem kb_X10_338 : KB RX10 338 yX0_free mX0_free 0 := ⟨gw_at 1399 (by decide +kernel) (by decide +kernel), gw_at 114 (by decide +kernel) (by decide +kernel), trivial, ws_X0_free, by decide +kernel, by decide +kernel, by decide +kernel, by decide⟩
theorem kb_X10_341 : KB RX10 341 yX3_moveMost mX3_moveMost 3 := ⟨gw_at 1400 (by decide +kernel) (by decide +kernel), gw_at 113 (by decide +kernel) (by decide +kernel), trivial, ws_X3_moveMost, by decide +kernel, by decide +kernel, by decide +kernel, by decide⟩
def f_Water_mix_b0   (h : Hp) (x0 : Nat) (x1 : Int32) (x2 : Int32) (x3 : Int32)  : Option ((Int32 ⊕ Nat) × Hp) :=
if hS h x0 = 10 then (
bX (f_Water_needCistern h x0 x1) fun _ h3 =>
if hS h3 x0 = 10 then (
bX (f_Water_needCistern h3 x0 x2) fun _ h7 =>
if x1 = x2 then (
f_Water_mix_b19   h7

) else (
if 0 ≤ x3 then (
if hS h7 x0 = 10 then (
if hS h7 (hR h7 x0 4) = 4 then (
if hS h7 (hR h7 (hR h7 x0 4) 3) = 23 then (
if ib x1 (hL h7 (hR h7 (hR h7 x0 4) 3)) = true then (
if ib x2 (hL h7 (hR h7 (hR h7 x0 4) 3)) = true then (
if hS h7 (hR h7 (hR h7 (hR h7 x0 4) 3) (ix x1)) = 1 then (
if hS h7 (hR h7 (hR h7 (hR h7 x0 4) 3) (ix x2)) = 1 then (
bI (f_Cistern_free h7 (hR h7 (hR h7 (hR h7 x0 4) 3) (ix x2))) fun v18 h19 =>
bI (f_Math_min h19 (hI h7 (hR h7 (hR h7 (hR h7 x0 4) 3) (ix x1)) 5) v18) fun v21 h22 =>
bI (f_Math_min h22 x3 v21) fun v24 h25 =>
if hS h25 x0 = 10 then (
if hS h25 (hR h25 x0 4) = 4 then (
bV (f_Land_moveMost h25 (hR h25 x0 4) (hR h7 (hR h7 (hR h7 x0 4) 3) (ix x1)) (hR h7 (hR h7 (hR h7 x0 4) 3) (ix x2)) v24) fun h30 =>
some (.inl v24, h30)
) else none) else none) else none) else none) else none) else none) else none) else none) else none
) else (
f_Water_mix_b19   h7

)

)
) else none) else none
set_option maxRecDepth 20000 in
set_option maxHeartbeats 4000000 in
theorem f_Water_mix_b0_ok {l : Launch} {X : Nat × (Nat → Int32)} (hst : l.stackTraces = false) {d : Nat} (hd : 4 ≤ d)     {h : Hp} {x0 : Nat} {x1 : Int32} {x2 : Int32} {x3 : Int32}  {r : (Int32 ⊕ Nat) × Hp} (E : f_Water_mix_b0   h x0 x1 x2 x3 = some r) : Rn l X mX10_mix d 0 [(0, .ref x0), (1, .int x1), (2, .int x2), (3, .int x3)] [] h (xI r) r.2 := by
  unfold f_Water_mix_b0 at E
  refine Rn.aload_n (pc' := 1) dX10_mix_0 rfl 0 rfl rfl ?_
  refine Rn.iload_n (pc' := 2) dX10_mix_1 rfl 1 rfl rfl ?_
  obtain ⟨g1, E⟩ := gd_of E
  rcases bX_of E with ⟨u_, h3, e4, E⟩ | ⟨x_, h3, e4, rfl⟩
  rotate_left
  · exact Rn.callVX (As := [.int x1]) (rest := []) (f_Water_needCistern_ok hst e4) (Nat.le_trans (by decide) hd) rfl kb_X10_123 ki_X10_needCistern rfl g1 rfl rfl (Nat.le_of_ble_eq_true rfl) dX10_mix_2 (RnX.out (by decide))
  refine Rn.callV1 (pc' := 5) (As := [.int x1]) (rest := []) (f_Water_needCistern_ok hst e4) (Nat.le_trans (by decide) hd) rfl kb_X10_123 ki_X10_needCistern rfl g1 rfl rfl (Nat.le_of_ble_eq_true rfl) dX10_mix_2 rfl rfl ?_
  refine Rn.aload_n (pc' := 6) dX10_mix_5 rfl 0 rfl rfl ?_
  refine Rn.iload_n (pc' := 7) dX10_mix_6 rfl 2 rfl rfl ?_
  obtain ⟨g5, E⟩ := gd_of E
  rcases bX_of E with ⟨u_, h7, e8, E⟩ | ⟨x_, h7, e8, rfl⟩
  rotate_left
  · exact Rn.callVX (As := [.int x2]) (rest := []) (f_Water_needCistern_ok hst e8) (Nat.le_trans (by decide) hd) rfl kb_X10_123 ki_X10_needCistern rfl g5 rfl rfl (Nat.le_of_ble_eq_true rfl) dX10_mix_7 (RnX.out (by decide))
  refine Rn.callV1 (pc' := 10) (As := [.int x2]) (rest := []) (f_Water_needCistern_ok hst e8) (Nat.le_trans (by decide) hd) rfl kb_X10_123 ki_X10_needCistern rfl g5 rfl rfl (Nat.le_of_ble_eq_true rfl) dX10_mix_7 rfl rfl ?_
  refine Rn.iload_n (pc' := 11) dX10_mix_10 rfl 1 rfl rfl ?_
  refine Rn.iload_n (pc' := 12) dX10_mix_11 rfl 2 rfl rfl ?_
  refine Rn.icmp_eq (pc' := 15) (tgt := 19) dX10_mix_12 (by decide) rfl (fun c9 => ?_) (fun c9 => ?_)
  · replace E := (if_of E).1 c9
    refine Rn.sub [] rfl ?_
    exact f_Water_mix_b19_ok hst hd   E
  · replace E := (if_of E).2 c9
    refine Rn.iload_n (pc' := 16) dX10_mix_15 rfl 3 rfl rfl ?_
    refine Rn.if_ge (pc' := 19) (tgt := 30) dX10_mix_16 (by decide) rfl (fun c10 => ?_) (fun c10 => ?_)
    · replace E := (if_of E).1 c10
      refine Rn.aload_n (pc' := 31) dX10_mix_30 rfl 0 rfl rfl ?_
      obtain ⟨g11, E⟩ := gd_of E
      refine Rn.getR (pc' := 34) fl_X10_42_9 g11 rfl dX10_mix_31 rfl ?_
      obtain ⟨g12, E⟩ := gd_of E
      refine Rn.getR (pc' := 37) fl_X10_126_3 g12 rfl dX10_mix_34 rfl ?_
      refine Rn.iload_n (pc' := 38) dX10_mix_37 rfl 1 rfl rfl ?_
      obtain ⟨g13, E⟩ := gd_of E
      obtain ⟨g14, E⟩ := gd_of E
      refine Rn.aald (pc' := 39) g13 (by decide) (by decide) g14 dX10_mix_38 rfl ?_
      refine Rn.astore (pc' := 41) (L' := [(4, .ref (hR h7 (hR h7 (hR h7 x0 4) 3) (ix x1))), (0, .ref x0), (1, .int x1), (2, .int x2), (3, .int x3)]) dX10_mix_39 (by decide) rfl rfl ?_
      refine Rn.aload_n (pc' := 42) dX10_mix_41 rfl 1 rfl rfl ?_
      refine Rn.getR (pc' := 45) fl_X10_42_9 g11 rfl dX10_mix_42 rfl ?_
      refine Rn.getR (pc' := 48) fl_X10_126_3 g12 rfl dX10_mix_45 rfl ?_
      refine Rn.iload_n (pc' := 49) dX10_mix_48 rfl 3 rfl rfl ?_
      obtain ⟨g15, E⟩ := gd_of E
      refine Rn.aald (pc' := 50) g13 (by decide) (by decide) g15 dX10_mix_49 rfl ?_
      refine Rn.astore (pc' := 52) (L' := [(5, .ref (hR h7 (hR h7 (hR h7 x0 4) 3) (ix x2))), (4, .ref (hR h7 (hR h7 (hR h7 x0 4) 3) (ix x1))), (0, .ref x0), (1, .int x1), (2, .int x2), (3, .int x3)]) dX10_mix_50 (by decide) rfl rfl ?_
      refine Rn.iload_n (pc' := 53) dX10_mix_52 rfl 5 rfl rfl ?_
      refine Rn.aload (pc' := 55) dX10_mix_53 1 rfl rfl ?_
      obtain ⟨g16, E⟩ := gd_of E
      refine Rn.getI (pc' := 58) fl_X10_148_0 g16 rfl dX10_mix_55 rfl ?_
      refine Rn.aload (pc' := 60) dX10_mix_58 0 rfl rfl ?_
      obtain ⟨g17, E⟩ := gd_of E
      obtain ⟨v18, h19, e20, E⟩ := bI_of E
      refine Rn.callV1 (pc' := 63) (As := []) (rest := [.int (hI h7 (hR h7 (hR h7 (hR h7 x0 4) 3) (ix x1)) 5), .int x3]) (f_Cistern_free_ok hst e20) (Nat.le_trans (by decide) hd) rfl kb_X10_338 ki_X0_free rfl g17 rfl rfl (Nat.le_of_ble_eq_true rfl) dX10_mix_60 rfl rfl ?_
      obtain ⟨v21, h22, e23, E⟩ := bI_of E
      refine Rn.callS1 (pc' := 66) (As := [.int (hI h7 (hR h7 (hR h7 (hR h7 x0 4) 3) (ix x1)) 5), .int v18]) (rest := [.int x3]) (f_Math_min_ok hst e23) (Nat.le_trans (by decide) hd) rfl kb_X10_267 ks_J9_min_7cf53 rfl rfl (Nat.le_of_ble_eq_true rfl) dX10_mix_63 rfl rfl ?_
      obtain ⟨v24, h25, e26, E⟩ := bI_of E
      refine Rn.callS1 (pc' := 69) (As := [.int x3, .int v21]) (rest := []) (f_Math_min_ok hst e26) (Nat.le_trans (by decide) hd) rfl kb_X10_267 ks_J9_min_7cf53 rfl rfl (Nat.le_of_ble_eq_true rfl) dX10_mix_66 rfl rfl ?_
      refine Rn.istore (pc' := 71) (L' := [(6, .int v24), (5, .ref (hR h7 (hR h7 (hR h7 x0 4) 3) (ix x2))), (4, .ref (hR h7 (hR h7 (hR h7 x0 4) 3) (ix x1))), (0, .ref x0), (1, .int x1), (2, .int x2), (3, .int x3)]) dX10_mix_69 (by decide) rfl rfl ?_
      refine Rn.aload_n (pc' := 72) dX10_mix_71 rfl 3 rfl rfl ?_
      obtain ⟨g27, E⟩ := gd_of E
      refine Rn.getR (pc' := 75) fl_X10_42_9 g27 rfl dX10_mix_72 rfl ?_
      refine Rn.aload (pc' := 77) dX10_mix_75 2 rfl rfl ?_
      refine Rn.aload (pc' := 79) dX10_mix_77 1 rfl rfl ?_
      refine Rn.iload (pc' := 81) dX10_mix_79 0 rfl rfl ?_
      obtain ⟨g28, E⟩ := gd_of E
      obtain ⟨h30, e31, E⟩ := bV_of E
      refine Rn.callV1 (pc' := 84) (As := [.ref (hR h7 (hR h7 (hR h7 x0 4) 3) (ix x1)), .ref (hR h7 (hR h7 (hR h7 x0 4) 3) (ix x2)), .int v24]) (rest := []) (f_Land_moveMost_ok hst e31) (Nat.le_trans (by decide) hd) rfl kb_X10_341 ki_X3_moveMost rfl g28 rfl rfl (Nat.le_of_ble_eq_true rfl) dX10_mix_81 rfl rfl ?_
      refine Rn.iload (pc' := 86) dX10_mix_84 0 rfl rfl ?_
      cases E
      exact Rn.zret rfl rfl dX10_mix_86
    · replace E := (if_of E).2 c10
      refine Rn.sub [] rfl ?_
      exact f_Water_mix_b19_ok hst hd   E
def f_Water_mix (h : Hp) (x0 : Nat) (x1 : Int32) (x2 : Int32) (x3 : Int32) : Option ((Int32 ⊕ Nat) × Hp) := f_Water_mix_b0  h x0 x1 x2 x3
theorem f_Water_mix_ok {l : Launch} {X : Nat × (Nat → Int32)} (hst : l.stackTraces = false) {h : Hp} {x0 : Nat} {x1 : Int32} {x2 : Int32} {x3 : Int32} {r : (Int32 ⊕ Nat) × Hp} (E : f_Water_mix h x0 x1 x2 x3 = some r) : MC l X yX10_mix mX10_mix 4 [.ref x0, .int x1, .int x2, .int x3] h (xI r) r.2 :=
  MC.body (by decide +kernel) rfl (by decide) hst (Nat.le_of_ble_eq_true rfl) (f_Water_mix_b0_ok hst (Nat.le_refl _) E)
abbrev mL_mix : MI := (RL, cL_mix, 6, (some Jvm.ClassFile.FieldType.int), [(0, 12, 15, 24), (0, 12, 19, 13)], false)
theorem ws_L_mix : ∀ w ∈ wsM yL_mix mL_mix, w ∈ gw := List.forall_mem_cons.mpr ⟨gw_at 1393 (by decide +kernel) (by decide +kernel), fun _ h => h⟩
theorem kb_L_89 : KB RL 89 yX10_mix mX10_mix 3 := ⟨gw_at 1394 (by decide +kernel) (by decide +kernel), gw_at 107 (by decide +kernel) (by decide +kernel), trivial, ws_X10_mix, by decide +kernel, by decide +kernel, by decide +kernel, by decide⟩
theorem ki_X10_mix : Cond.instanceMethod yX10_mix ∈ gw ∧ Cond.selects yX10_mix.cls yX10_mix yX10_mix ∈ gw := ⟨gw_at 1395 (by decide +kernel) (by decide +kernel), gw_at 1396 (by decide +kernel) (by decide +kernel)⟩
def f_Lw_mix_b0   (h : Hp) (x0 : Nat) (x1 : Int32) (x2 : Int32) (x3 : Int32) (x4 : Nat)  : Option (Int32 × Hp) :=
if hS h x0 = 10 then (
bC (f_Water_mix h x0 x1 x2 x3) (fun v2 h3 =>
if hS h3 x4 = 22 then (
if ib (0 : Int32) (hL h3 x4) = true then (
wr (sJ h3 x4 (ix (0 : Int32)) (Int32.toInt64 v2)) fun h7 =>
some ((0 : Int32), h7)
) else none) else none
) (fun x_ h3 =>
if x_ = 1 then (
some ((1 : Int32), h3)

) else (
if x_ = 2 then (
some ((2 : Int32), h3)

) else (
none)))
) else none
set_option maxRecDepth 20000 in
set_option maxHeartbeats 4000000 in
theorem f_Lw_mix_b0_ok {l : Launch} {X : Nat × (Nat → Int32)} (hst : l.stackTraces = false) {d : Nat} (hd : 5 ≤ d)     {h : Hp} {x0 : Nat} {x1 : Int32} {x2 : Int32} {x3 : Int32} {x4 : Nat}  {r : Int32 × Hp} (E : f_Lw_mix_b0   h x0 x1 x2 x3 x4 = some r) : Rn l X mL_mix d 0 [(0, .ref x0), (1, .int x1), (2, .int x2), (3, .int x3), (4, .ref x4)] [] h (eI r) r.2 := by
  unfold f_Lw_mix_b0 at E
  refine Rn.aload (pc' := 2) dL_mix_0 4 rfl rfl ?_
  refine Rn.iconst (pc' := 3) (v := (0 : Int32)) (hv := by decide) dL_mix_2 rfl ?_
  refine Rn.aload_n (pc' := 4) dL_mix_3 rfl 0 rfl rfl ?_
  refine Rn.iload_n (pc' := 5) dL_mix_4 rfl 1 rfl rfl ?_
  refine Rn.iload_n (pc' := 6) dL_mix_5 rfl 2 rfl rfl ?_
  refine Rn.iload_n (pc' := 7) dL_mix_6 rfl 3 rfl rfl ?_
  obtain ⟨g1, E⟩ := gd_of E
  rcases bC_of E with ⟨v2, h3, e4, E⟩ | ⟨x_, h3, e4, E⟩
  · refine Rn.callV1 (pc' := 10) (As := [.int x1, .int x2, .int x3]) (rest := [.int (0 : Int32), .ref x4]) (f_Water_mix_ok hst e4) (Nat.le_trans (by decide) hd) rfl kb_L_89 ki_X10_mix rfl g1 rfl rfl (Nat.le_of_ble_eq_true rfl) dL_mix_7 rfl rfl ?_
    refine Rn.i2l (pc' := 11) dL_mix_10 rfl ?_
    obtain ⟨g5, E⟩ := gd_of E
    obtain ⟨g6, E⟩ := gd_of E
    refine Rn.last (pc' := 12) g5 g6 dL_mix_11 rfl ?_
    replace E := wr_of E
    generalize eh8 : sJ h3 x4 (ix (0 : Int32)) (Int32.toInt64 v2) = h7 at E ⊢
    refine Rn.goto (pc' := 23) dL_mix_12 (by decide) ?_
    refine Rn.iconst (pc' := 24) (v := (0 : Int32)) (hv := by decide) dL_mix_23 rfl ?_
    cases E
    exact Rn.zret rfl rfl dL_mix_24
  · refine Rn.callVX (As := [.int x1, .int x2, .int x3]) (rest := [.int (0 : Int32), .ref x4]) (f_Water_mix_ok hst e4) (Nat.le_trans (by decide) hd) rfl kb_L_89 ki_X10_mix rfl g1 rfl rfl (Nat.le_of_ble_eq_true rfl) dL_mix_7 ?_
    by_cases c9 : x_ = 1
    · replace E := (if_of E).1 c9
      subst c9
      refine RnX.catch (x := 1) (i := 5) (pch := 17) 0 rfl (pre0) (by decide) (by decide) kk_L_24 (by decide) (Or.inr ⟨dL_mix_15, rfl⟩) (by decide) ?_
      change Rn _ _ _ _ _ [(0, .ref x0), (1, .int x1), (2, .int x2), (3, .int x3), (4, .ref x4)] _ _ _ _
      refine Rn.iconst (pc' := 18) (v := (1 : Int32)) (hv := by decide) dL_mix_17 rfl ?_
      cases E
      exact Rn.zret rfl rfl dL_mix_18
    replace E := (if_of E).2 c9
    by_cases c10 : x_ = 2
    · replace E := (if_of E).1 c10
      subst c10
      refine RnX.catch (x := 2) (i := 5) (pch := 21) 1 rfl (pre1 (Or.inr ⟨by decide, _, kk_L_24, by decide⟩)) (by decide) (by decide) kk_L_13 (by decide) (Or.inr ⟨dL_mix_19, rfl⟩) (by decide) ?_
      change Rn _ _ _ _ _ [(0, .ref x0), (1, .int x1), (2, .int x2), (3, .int x3), (4, .ref x4)] _ _ _ _
      refine Rn.iconst (pc' := 22) (v := (2 : Int32)) (hv := by decide) dL_mix_21 rfl ?_
      cases E
      exact Rn.zret rfl rfl dL_mix_22
    replace E := (if_of E).2 c10
    cases E
def f_Lw_mix (h : Hp) (x0 : Nat) (x1 : Int32) (x2 : Int32) (x3 : Int32) (x4 : Nat) : Option (Int32 × Hp) := f_Lw_mix_b0  h x0 x1 x2 x3 x4
theorem f_Lw_mix_ok {l : Launch} {X : Nat × (Nat → Int32)} (hst : l.stackTraces = false) {h : Hp} {x0 : Nat} {x1 : Int32} {x2 : Int32} {x3 : Int32} {x4 : Nat} {r : Int32 × Hp} (E : f_Lw_mix h x0 x1 x2 x3 x4 = some r) : MC l X yL_mix mL_mix 5 [.ref x0, .int x1, .int x2, .int x3, .ref x4] h (eI r) r.2 :=
  MC.body (by decide +kernel) rfl (by decide) hst (Nat.le_of_ble_eq_true rfl) (f_Lw_mix_b0_ok hst (Nat.le_refl _) E)
abbrev mX11_noCistern : MI := (RX11, cX11_noCistern, 2, (some Jvm.ClassFile.FieldType.boolean), [], false)
theorem ws_X11_noCistern : ∀ w ∈ wsM yX11_noCistern mX11_noCistern, w ∈ gw := List.forall_mem_cons.mpr ⟨gw_at 1704 (by decide +kernel) (by decide +kernel), fun _ h => h⟩
def f_Model_noCistern_b0   (h : Hp) (x0 : Nat) (x1 : Int32)  : Option (Int32 × Hp) :=
if hS h x0 = 11 then (
bI (f_Model_cisterns h x0) fun v2 h3 =>
bI (f_Model_in h3 x1 (0 : Int32) (v2 - (1 : Int32))) fun v5 h6 =>
if v5 = 0 then (
some ((1 : Int32), h6)

) else (
some ((0 : Int32), h6)

)
) else none
set_option maxRecDepth 20000 in
set_option maxHeartbeats 4000000 in
theorem f_Model_noCistern_b0_ok {l : Launch} {X : Nat × (Nat → Int32)} (hst : l.stackTraces = false) {d : Nat} (hd : 1 ≤ d)     {h : Hp} {x0 : Nat} {x1 : Int32}  {r : Int32 × Hp} (E : f_Model_noCistern_b0   h x0 x1 = some r) : Rn l X mX11_noCistern d 0 [(0, .ref x0), (1, .int x1)] [] h (eI r) r.2 := by
  unfold f_Model_noCistern_b0 at E
  refine Rn.iload_n (pc' := 1) dX11_noCistern_0 rfl 1 rfl rfl ?_
  refine Rn.iconst (pc' := 2) (v := (0 : Int32)) (hv := by decide) dX11_noCistern_1 rfl ?_
  refine Rn.aload_n (pc' := 3) dX11_noCistern_2 rfl 0 rfl rfl ?_
  obtain ⟨g1, E⟩ := gd_of E
  obtain ⟨v2, h3, e4, E⟩ := bI_of E
  refine Rn.callV1 (pc' := 6) (As := []) (rest := [.int (0 : Int32), .int x1]) (f_Model_cisterns_ok hst e4) (Nat.le_trans (by decide) hd) rfl kb_X11_52 ki_X11_cisterns rfl g1 rfl rfl (Nat.le_of_ble_eq_true rfl) dX11_noCistern_3 rfl rfl ?_
  refine Rn.iconst (pc' := 7) (v := (1 : Int32)) (hv := by decide) dX11_noCistern_6 rfl ?_
  refine Rn.isub (pc' := 8) dX11_noCistern_7 rfl ?_
  obtain ⟨v5, h6, e7, E⟩ := bI_of E
  refine Rn.callS1 (pc' := 11) (As := [.int x1, .int (0 : Int32), .int (v2 - (1 : Int32))]) (rest := []) (f_Model_in_ok hst e7) (Nat.le_trans (by decide) hd) rfl kb_X11_56 ks_X11_in rfl rfl (Nat.le_of_ble_eq_true rfl) dX11_noCistern_8 rfl rfl ?_
  refine Rn.if_ne (pc' := 14) (tgt := 18) dX11_noCistern_11 (by decide) rfl (fun c8 => ?_) (fun c8 => ?_)
  · replace E := (if_of E).2 c8
    refine Rn.iconst (pc' := 19) (v := (0 : Int32)) (hv := by decide) dX11_noCistern_18 rfl ?_
    cases E
    exact Rn.zret rfl rfl dX11_noCistern_19
  · replace E := (if_of E).1 c8
    refine Rn.iconst (pc' := 15) (v := (1 : Int32)) (hv := by decide) dX11_noCistern_14 rfl ?_
    refine Rn.goto (pc' := 19) dX11_noCistern_15 (by decide) ?_
    cases E
    exact Rn.zret rfl rfl dX11_noCistern_19
def f_Model_noCistern (h : Hp) (x0 : Nat) (x1 : Int32) : Option (Int32 × Hp) := f_Model_noCistern_b0  h x0 x1
theorem f_Model_noCistern_ok {l : Launch} {X : Nat × (Nat → Int32)} (hst : l.stackTraces = false) {h : Hp} {x0 : Nat} {x1 : Int32} {r : Int32 × Hp} (E : f_Model_noCistern h x0 x1 = some r) : MC l X yX11_noCistern mX11_noCistern 1 [.ref x0, .int x1] h (eI r) r.2 :=
  MC.body (by decide +kernel) rfl (by decide) hst (Nat.le_of_ble_eq_true rfl) (f_Model_noCistern_b0_ok hst (Nat.le_refl _) E)
abbrev mX11_mix : MI := (RX11, cX11_mix, 5, (some Jvm.ClassFile.FieldType.int), [], false)
theorem ws_X11_mix : ∀ w ∈ wsM yX11_mix mX11_mix, w ∈ gw := List.forall_mem_cons.mpr ⟨gw_at 1921 (by decide +kernel) (by decide +kernel), fun _ h => h⟩
def f_Model_mix_b61  (k61 : Hp → Nat → Int32 → Int32 → Int32 → Int32 → Option (Int32 × Hp)) (h : Hp) (x0 : Nat) (x1 : Int32) (x2 : Int32) (x3 : Int32) (x4 : Int32)  : Option (Int32 × Hp) :=
if x3 ≤ x4 then (
some (x4, h)

) else (
if hS h x0 = 11 then (
bI (f_Model_measures h x0 x1) fun v3 h4 =>
if v3 ≤ 0 then (
some (x4, h4)

) else (
if hS h4 x0 = 11 then (
bI (f_Model_measures h4 x0 x2) fun v8 h9 =>
if hS h9 x0 = 11 then (
bI (f_Model_ofCistern h9 x0 x2 (0 : Int32)) fun v12 h13 =>
if v12 ≤ v8 then (
some (x4, h13)

) else (
if hS h13 x0 = 11 then (
bV (f_Model_drops h13 x0 x1 x2) fun h18 =>
k61 h18 x0 x1 x2 x3 (x4 + (1 : Int32))
) else none
)
) else none) else none
)
) else none
)

set_option maxRecDepth 20000 in
set_option maxHeartbeats 4000000 in
theorem f_Model_mix_b61_ok {l : Launch} {X : Nat × (Nat → Int32)} (hst : l.stackTraces = false) {d : Nat} (hd : 4 ≤ d)   {k61 : Hp → Nat → Int32 → Int32 → Int32 → Int32 → Option (Int32 × Hp)} (hk61 : ∀ (h : Hp) (x0 : Nat) (x1 : Int32) (x2 : Int32) (x3 : Int32) (x4 : Int32)  (r : Int32 × Hp), k61 h x0 x1 x2 x3 x4 = some r → Rn l X mX11_mix d 61 [(0, .ref x0), (1, .int x1), (2, .int x2), (3, .int x3), (4, .int x4)] [] h (eI r) r.2) {h : Hp} {x0 : Nat} {x1 : Int32} {x2 : Int32} {x3 : Int32} {x4 : Int32}  {r : Int32 × Hp} (E : f_Model_mix_b61  k61 h x0 x1 x2 x3 x4 = some r) : Rn l X mX11_mix d 61 [(0, .ref x0), (1, .int x1), (2, .int x2), (3, .int x3), (4, .int x4)] [] h (eI r) r.2 := by
  unfold f_Model_mix_b61 at E
  refine Rn.iload (pc' := 63) dX11_mix_61 4 rfl rfl ?_
  refine Rn.iload_n (pc' := 64) dX11_mix_63 rfl 3 rfl rfl ?_
  refine Rn.icmp_ge (pc' := 67) (tgt := 101) dX11_mix_64 (by decide) rfl (fun c1 => ?_) (fun c1 => ?_)
  · replace E := (if_of E).1 c1
    refine Rn.iload (pc' := 103) dX11_mix_101 4 rfl rfl ?_
    cases E
    exact Rn.zret rfl rfl dX11_mix_103
  · replace E := (if_of E).2 c1
    refine Rn.aload_n (pc' := 68) dX11_mix_67 rfl 0 rfl rfl ?_
    refine Rn.iload_n (pc' := 69) dX11_mix_68 rfl 1 rfl rfl ?_
    obtain ⟨g2, E⟩ := gd_of E
    obtain ⟨v3, h4, e5, E⟩ := bI_of E
    refine Rn.callV1 (pc' := 72) (As := [.int x1]) (rest := []) (f_Model_measures_ok hst e5) (Nat.le_trans (by decide) hd) rfl kb_X11_75 ki_X11_measures rfl g2 rfl rfl (Nat.le_of_ble_eq_true rfl) dX11_mix_69 rfl rfl ?_
    refine Rn.if_le (pc' := 75) (tgt := 101) dX11_mix_72 (by decide) rfl (fun c6 => ?_) (fun c6 => ?_)
    · replace E := (if_of E).1 c6
      refine Rn.iload (pc' := 103) dX11_mix_101 4 rfl rfl ?_
      cases E
      exact Rn.zret rfl rfl dX11_mix_103
    · replace E := (if_of E).2 c6
      refine Rn.aload_n (pc' := 76) dX11_mix_75 rfl 0 rfl rfl ?_
      refine Rn.iload_n (pc' := 77) dX11_mix_76 rfl 2 rfl rfl ?_
      obtain ⟨g7, E⟩ := gd_of E
      obtain ⟨v8, h9, e10, E⟩ := bI_of E
      refine Rn.callV1 (pc' := 80) (As := [.int x2]) (rest := []) (f_Model_measures_ok hst e10) (Nat.le_trans (by decide) hd) rfl kb_X11_75 ki_X11_measures rfl g7 rfl rfl (Nat.le_of_ble_eq_true rfl) dX11_mix_77 rfl rfl ?_
      refine Rn.aload_n (pc' := 81) dX11_mix_80 rfl 0 rfl rfl ?_
      refine Rn.iload_n (pc' := 82) dX11_mix_81 rfl 2 rfl rfl ?_
      refine Rn.iconst (pc' := 83) (v := (0 : Int32)) (hv := by decide) dX11_mix_82 rfl ?_
      obtain ⟨g11, E⟩ := gd_of E
      obtain ⟨v12, h13, e14, E⟩ := bI_of E
      refine Rn.callV1 (pc' := 86) (As := [.int x2, .int (0 : Int32)]) (rest := [.int v8]) (f_Model_ofCistern_ok hst e14) (Nat.le_trans (by decide) hd) rfl kb_X11_69 ki_X11_ofCistern rfl g11 rfl rfl (Nat.le_of_ble_eq_true rfl) dX11_mix_83 rfl rfl ?_
      refine Rn.icmp_ge (pc' := 89) (tgt := 101) dX11_mix_86 (by decide) rfl (fun c15 => ?_) (fun c15 => ?_)
      · replace E := (if_of E).1 c15
        refine Rn.iload (pc' := 103) dX11_mix_101 4 rfl rfl ?_
        cases E
        exact Rn.zret rfl rfl dX11_mix_103
      · replace E := (if_of E).2 c15
        refine Rn.aload_n (pc' := 90) dX11_mix_89 rfl 0 rfl rfl ?_
        refine Rn.iload_n (pc' := 91) dX11_mix_90 rfl 1 rfl rfl ?_
        refine Rn.iload_n (pc' := 92) dX11_mix_91 rfl 2 rfl rfl ?_
        obtain ⟨g16, E⟩ := gd_of E
        obtain ⟨h18, e19, E⟩ := bV_of E
        refine Rn.callV1 (pc' := 95) (As := [.int x1, .int x2]) (rest := []) (f_Model_drops_ok hst e19) (Nat.le_trans (by decide) hd) rfl kb_X11_305 ki_X11_drops rfl g16 rfl rfl (Nat.le_of_ble_eq_true rfl) dX11_mix_92 rfl rfl ?_
        refine Rn.iinc (pc' := 98) (v := (x4 + (1 : Int32))) (L' := [(4, .int (x4 + (1 : Int32))), (0, .ref x0), (1, .int x1), (2, .int x2), (3, .int x3)]) dX11_mix_95 4 rfl rfl (by decide) rfl rfl ?_
        refine Rn.goto (pc' := 61) dX11_mix_98 (by decide) ?_
        refine Rn.sub [1, 2, 3, 4, 0] rfl ?_
        exact hk61 _ _ _ _ _ _ _ E
def f_Model_mix_L61   (n : Nat) : Hp → Nat → Int32 → Int32 → Int32 → Int32 → Option (Int32 × Hp) := Nat.rec (motive := fun _ => Hp → Nat → Int32 → Int32 → Int32 → Int32 → Option (Int32 × Hp)) (fun _ _ _ _ _ _ => none) (fun _ rec => f_Model_mix_b61   rec) n
theorem f_Model_mix_L61_ok {l : Launch} {X : Nat × (Nat → Int32)} (hst : l.stackTraces = false) {d : Nat} (hd : 4 ≤ d)     : ∀ (n : Nat) (h : Hp) (x0 : Nat) (x1 : Int32) (x2 : Int32) (x3 : Int32) (x4 : Int32)  (r : Int32 × Hp), f_Model_mix_L61   n h x0 x1 x2 x3 x4 = some r → Rn l X mX11_mix d 61 [(0, .ref x0), (1, .int x1), (2, .int x2), (3, .int x3), (4, .int x4)] [] h (eI r) r.2 := by
  intro n
  induction n with
  | zero => intro h x0 x1 x2 x3 x4 r E; cases E
  | succ n ih => intro h x0 x1 x2 x3 x4 r E; exact f_Model_mix_b61_ok hst hd   ih E
def f_Model_mix_b49   (h : Hp) (x0 : Nat) (x1 : Int32) (x2 : Int32) (x3 : Int32) (s0 : Nat) (s1 : Int32) : Option (Int32 × Hp) :=
if hS h s0 = 11 then (
bI (f_Model_throwsIf h s0 s1 (2 : Int32)) fun v2 h3 =>
if v2 = 0 then (
f_Model_mix_L61   FU h3 x0 x1 x2 x3 (0 : Int32)

) else (
some ((0 : Int32), h3)

)
) else none
set_option maxRecDepth 20000 in
set_option maxHeartbeats 4000000 in
theorem f_Model_mix_b49_ok {l : Launch} {X : Nat × (Nat → Int32)} (hst : l.stackTraces = false) {d : Nat} (hd : 4 ≤ d)     {h : Hp} {x0 : Nat} {x1 : Int32} {x2 : Int32} {x3 : Int32} {s0 : Nat} {s1 : Int32} {r : Int32 × Hp} (E : f_Model_mix_b49   h x0 x1 x2 x3 s0 s1 = some r) : Rn l X mX11_mix d 49 [(0, .ref x0), (1, .int x1), (2, .int x2), (3, .int x3)] [.int s1, .ref s0] h (eI r) r.2 := by
  unfold f_Model_mix_b49 at E
  refine Rn.iconst (pc' := 50) (v := (2 : Int32)) (hv := by decide) dX11_mix_49 rfl ?_
  obtain ⟨g1, E⟩ := gd_of E
  obtain ⟨v2, h3, e4, E⟩ := bI_of E
  refine Rn.callV1 (pc' := 53) (As := [.int s1, .int (2 : Int32)]) (rest := []) (f_Model_throwsIf_ok hst e4) (Nat.le_trans (by decide) hd) rfl kb_X11_265 ki_X11_throwsIf rfl g1 rfl rfl (Nat.le_of_ble_eq_true rfl) dX11_mix_50 rfl rfl ?_
  refine Rn.if_eq (pc' := 56) (tgt := 58) dX11_mix_53 (by decide) rfl (fun c5 => ?_) (fun c5 => ?_)
  · replace E := (if_of E).1 c5
    refine Rn.iconst (pc' := 59) (v := (0 : Int32)) (hv := by decide) dX11_mix_58 rfl ?_
    refine Rn.istore (pc' := 61) (L' := [(4, .int (0 : Int32)), (0, .ref x0), (1, .int x1), (2, .int x2), (3, .int x3)]) dX11_mix_59 (by decide) rfl rfl ?_
    refine Rn.sub [1, 2, 3, 4, 0] rfl ?_
    exact f_Model_mix_L61_ok hst hd   FU _ _ _ _ _ _ _ E
  · replace E := (if_of E).2 c5
    refine Rn.iconst (pc' := 57) (v := (0 : Int32)) (hv := by decide) dX11_mix_56 rfl ?_
    cases E
    exact Rn.zret rfl rfl dX11_mix_57
def f_Model_mix_b44   (h : Hp) (x0 : Nat) (x1 : Int32) (x2 : Int32) (x3 : Int32) (s0 : Nat) : Option (Int32 × Hp) :=
f_Model_mix_b49   h x0 x1 x2 x3 s0 (1 : Int32)

set_option maxRecDepth 20000 in
set_option maxHeartbeats 4000000 in
theorem f_Model_mix_b44_ok {l : Launch} {X : Nat × (Nat → Int32)} (hst : l.stackTraces = false) {d : Nat} (hd : 4 ≤ d)     {h : Hp} {x0 : Nat} {x1 : Int32} {x2 : Int32} {x3 : Int32} {s0 : Nat} {r : Int32 × Hp} (E : f_Model_mix_b44   h x0 x1 x2 x3 s0 = some r) : Rn l X mX11_mix d 44 [(0, .ref x0), (1, .int x1), (2, .int x2), (3, .int x3)] [.ref s0] h (eI r) r.2 := by
  unfold f_Model_mix_b44 at E
  refine Rn.iconst (pc' := 45) (v := (1 : Int32)) (hv := by decide) dX11_mix_44 rfl ?_
  refine Rn.goto (pc' := 49) dX11_mix_45 (by decide) ?_
  exact f_Model_mix_b49_ok hst hd   E
def f_Model_mix_b27   (h : Hp) (x0 : Nat) (x1 : Int32) (x2 : Int32) (x3 : Int32) (s0 : Nat) (s1 : Int32) : Option (Int32 × Hp) :=
if hS h s0 = 11 then (
bI (f_Model_throwsIf h s0 s1 (1 : Int32)) fun v2 h3 =>
if v2 = 0 then (
if x1 = x2 then (
f_Model_mix_b44   h3 x0 x1 x2 x3 x0

) else (
if 0 ≤ x3 then (
f_Model_mix_b49   h3 x0 x1 x2 x3 x0 (0 : Int32)

) else (
f_Model_mix_b44   h3 x0 x1 x2 x3 x0

)

)

) else (
some ((0 : Int32), h3)

)
) else none
set_option maxRecDepth 20000 in
set_option maxHeartbeats 4000000 in
theorem f_Model_mix_b27_ok {l : Launch} {X : Nat × (Nat → Int32)} (hst : l.stackTraces = false) {d : Nat} (hd : 4 ≤ d)     {h : Hp} {x0 : Nat} {x1 : Int32} {x2 : Int32} {x3 : Int32} {s0 : Nat} {s1 : Int32} {r : Int32 × Hp} (E : f_Model_mix_b27   h x0 x1 x2 x3 s0 s1 = some r) : Rn l X mX11_mix d 27 [(0, .ref x0), (1, .int x1), (2, .int x2), (3, .int x3)] [.int s1, .ref s0] h (eI r) r.2 := by
  unfold f_Model_mix_b27 at E
  refine Rn.iconst (pc' := 28) (v := (1 : Int32)) (hv := by decide) dX11_mix_27 rfl ?_
  obtain ⟨g1, E⟩ := gd_of E
  obtain ⟨v2, h3, e4, E⟩ := bI_of E
  refine Rn.callV1 (pc' := 31) (As := [.int s1, .int (1 : Int32)]) (rest := []) (f_Model_throwsIf_ok hst e4) (Nat.le_trans (by decide) hd) rfl kb_X11_265 ki_X11_throwsIf rfl g1 rfl rfl (Nat.le_of_ble_eq_true rfl) dX11_mix_28 rfl rfl ?_
  refine Rn.if_ne (pc' := 34) (tgt := 56) dX11_mix_31 (by decide) rfl (fun c5 => ?_) (fun c5 => ?_)
  · replace E := (if_of E).2 c5
    refine Rn.iconst (pc' := 57) (v := (0 : Int32)) (hv := by decide) dX11_mix_56 rfl ?_
    cases E
    exact Rn.zret rfl rfl dX11_mix_57
  · replace E := (if_of E).1 c5
    refine Rn.aload_n (pc' := 35) dX11_mix_34 rfl 0 rfl rfl ?_
    refine Rn.iload_n (pc' := 36) dX11_mix_35 rfl 1 rfl rfl ?_
    refine Rn.iload_n (pc' := 37) dX11_mix_36 rfl 2 rfl rfl ?_
    refine Rn.icmp_eq (pc' := 40) (tgt := 44) dX11_mix_37 (by decide) rfl (fun c6 => ?_) (fun c6 => ?_)
    · replace E := (if_of E).1 c6
      exact f_Model_mix_b44_ok hst hd   E
    · replace E := (if_of E).2 c6
      refine Rn.iload_n (pc' := 41) dX11_mix_40 rfl 3 rfl rfl ?_
      refine Rn.if_ge (pc' := 44) (tgt := 48) dX11_mix_41 (by decide) rfl (fun c7 => ?_) (fun c7 => ?_)
      · replace E := (if_of E).1 c7
        refine Rn.iconst (pc' := 49) (v := (0 : Int32)) (hv := by decide) dX11_mix_48 rfl ?_
        exact f_Model_mix_b49_ok hst hd   E
      · replace E := (if_of E).2 c7
        exact f_Model_mix_b44_ok hst hd   E
def f_Model_mix_b22   (h : Hp) (x0 : Nat) (x1 : Int32) (x2 : Int32) (x3 : Int32) (s0 : Nat) : Option (Int32 × Hp) :=
f_Model_mix_b27   h x0 x1 x2 x3 s0 (1 : Int32)

set_option maxRecDepth 20000 in
set_option maxHeartbeats 4000000 in
theorem f_Model_mix_b22_ok {l : Launch} {X : Nat × (Nat → Int32)} (hst : l.stackTraces = false) {d : Nat} (hd : 4 ≤ d)     {h : Hp} {x0 : Nat} {x1 : Int32} {x2 : Int32} {x3 : Int32} {s0 : Nat} {r : Int32 × Hp} (E : f_Model_mix_b22   h x0 x1 x2 x3 s0 = some r) : Rn l X mX11_mix d 22 [(0, .ref x0), (1, .int x1), (2, .int x2), (3, .int x3)] [.ref s0] h (eI r) r.2 := by
  unfold f_Model_mix_b22 at E
  refine Rn.iconst (pc' := 23) (v := (1 : Int32)) (hv := by decide) dX11_mix_22 rfl ?_
  refine Rn.goto (pc' := 27) dX11_mix_23 (by decide) ?_
  exact f_Model_mix_b27_ok hst hd   E
theorem kb_X11_284 : KB RX11 284 yX11_noCistern mX11_noCistern 1 := ⟨gw_at 1701 (by decide +kernel) (by decide +kernel), gw_at 117 (by decide +kernel) (by decide +kernel), trivial, ws_X11_noCistern, by decide +kernel, by decide +kernel, by decide +kernel, by decide⟩
theorem ki_X11_noCistern : Cond.instanceMethod yX11_noCistern ∈ gw ∧ Cond.selects yX11_noCistern.cls yX11_noCistern yX11_noCistern ∈ gw := ⟨gw_at 1703 (by decide +kernel) (by decide +kernel), gw_at 78 (by decide +kernel) (by decide +kernel)⟩
def f_Model_mix_b0   (h : Hp) (x0 : Nat) (x1 : Int32) (x2 : Int32) (x3 : Int32)  : Option (Int32 × Hp) :=
if hS h x0 = 11 then (
wr (sI h x0 0 (0 : Int32)) fun h2 =>
bI (f_Model_noCistern h2 x0 x1) fun v4 h5 =>
if v4 = 0 then (
if hS h5 x0 = 11 then (
bI (f_Model_noCistern h5 x0 x2) fun v9 h10 =>
if v9 = 0 then (
f_Model_mix_b27   h10 x0 x1 x2 x3 x0 (0 : Int32)

) else (
f_Model_mix_b22   h10 x0 x1 x2 x3 x0

)
) else none
) else (
f_Model_mix_b22   h5 x0 x1 x2 x3 x0

)
) else none
set_option maxRecDepth 20000 in
set_option maxHeartbeats 4000000 in
theorem f_Model_mix_b0_ok {l : Launch} {X : Nat × (Nat → Int32)} (hst : l.stackTraces = false) {d : Nat} (hd : 4 ≤ d)     {h : Hp} {x0 : Nat} {x1 : Int32} {x2 : Int32} {x3 : Int32}  {r : Int32 × Hp} (E : f_Model_mix_b0   h x0 x1 x2 x3 = some r) : Rn l X mX11_mix d 0 [(0, .ref x0), (1, .int x1), (2, .int x2), (3, .int x3)] [] h (eI r) r.2 := by
  unfold f_Model_mix_b0 at E
  refine Rn.aload_n (pc' := 1) dX11_mix_0 rfl 0 rfl rfl ?_
  refine Rn.iconst (pc' := 2) (v := (0 : Int32)) (hv := by decide) dX11_mix_1 rfl ?_
  obtain ⟨g1, E⟩ := gd_of E
  refine Rn.putI (pc' := 5) fl_X11_3_10 (fun q hq => by cases hq; decide) g1 rfl rfl rfl dX11_mix_2 rfl ?_
  replace E := wr_of E
  generalize eh3 : sI h x0 0 (0 : Int32) = h2 at E ⊢
  refine Rn.aload_n (pc' := 6) dX11_mix_5 rfl 0 rfl rfl ?_
  refine Rn.aload_n (pc' := 7) dX11_mix_6 rfl 0 rfl rfl ?_
  refine Rn.iload_n (pc' := 8) dX11_mix_7 rfl 1 rfl rfl ?_
  obtain ⟨v4, h5, e6, E⟩ := bI_of E
  refine Rn.callV1 (pc' := 11) (As := [.int x1]) (rest := [.ref x0]) (f_Model_noCistern_ok hst e6) (Nat.le_trans (by decide) hd) rfl kb_X11_284 ki_X11_noCistern rfl (kp_sI eh3 g1) rfl rfl (Nat.le_of_ble_eq_true rfl) dX11_mix_8 rfl rfl ?_
  refine Rn.if_ne (pc' := 14) (tgt := 22) dX11_mix_11 (by decide) rfl (fun c7 => ?_) (fun c7 => ?_)
  · replace E := (if_of E).2 c7
    exact f_Model_mix_b22_ok hst hd   E
  · replace E := (if_of E).1 c7
    refine Rn.aload_n (pc' := 15) dX11_mix_14 rfl 0 rfl rfl ?_
    refine Rn.iload_n (pc' := 16) dX11_mix_15 rfl 2 rfl rfl ?_
    obtain ⟨g8, E⟩ := gd_of E
    obtain ⟨v9, h10, e11, E⟩ := bI_of E
    refine Rn.callV1 (pc' := 19) (As := [.int x2]) (rest := [.ref x0]) (f_Model_noCistern_ok hst e11) (Nat.le_trans (by decide) hd) rfl kb_X11_284 ki_X11_noCistern rfl g8 rfl rfl (Nat.le_of_ble_eq_true rfl) dX11_mix_16 rfl rfl ?_
    refine Rn.if_eq (pc' := 22) (tgt := 26) dX11_mix_19 (by decide) rfl (fun c12 => ?_) (fun c12 => ?_)
    · replace E := (if_of E).1 c12
      refine Rn.iconst (pc' := 27) (v := (0 : Int32)) (hv := by decide) dX11_mix_26 rfl ?_
      exact f_Model_mix_b27_ok hst hd   E
    · replace E := (if_of E).2 c12
      exact f_Model_mix_b22_ok hst hd   E
def f_Model_mix (h : Hp) (x0 : Nat) (x1 : Int32) (x2 : Int32) (x3 : Int32) : Option (Int32 × Hp) := f_Model_mix_b0  h x0 x1 x2 x3
theorem f_Model_mix_ok {l : Launch} {X : Nat × (Nat → Int32)} (hst : l.stackTraces = false) {h : Hp} {x0 : Nat} {x1 : Int32} {x2 : Int32} {x3 : Int32} {r : Int32 × Hp} (E : f_Model_mix h x0 x1 x2 x3 = some r) : MC l X yX11_mix mX11_mix 4 [.ref x0, .int x1, .int x2, .int x3] h (eI r) r.2 :=
  MC.body (by decide +kernel) rfl (by decide) hst (Nat.le_of_ble_eq_true rfl) (f_Model_mix_b0_ok hst (Nat.le_refl _) E)
abbrev mX10_needDebt : MI := (RX10, cX10_needDebt, 2, none, [], false)
theorem ws_X10_needDebt : ∀ w ∈ wsM yX10_needDebt mX10_needDebt, w ∈ gw := List.forall_mem_cons.mpr ⟨gw_at 1378 (by decide +kernel) (by decide +kernel), fun _ h => h⟩
def f_Water_needDebt_b15   (h : Hp)   : Option ((Unit ⊕ Nat) × Hp) :=
some (.inr 1, hA h 0 0 6)

set_option maxRecDepth 20000 in
set_option maxHeartbeats 4000000 in
theorem f_Water_needDebt_b15_ok {l : Launch} {X : Nat × (Nat → Int32)} (hst : l.stackTraces = false) {d : Nat} (hd : 0 ≤ d)     {h : Hp}   {r : (Unit ⊕ Nat) × Hp} (E : f_Water_needDebt_b15   h  = some r) : Rn l X mX10_needDebt d 15 [] [] h (xV r) r.2 := by
  unfold f_Water_needDebt_b15 at E
  cases E
  exact Rn.throwSW (x := 1) (i := 19) kt_X10_384_388 rfl rfl dX10_needDebt_15 dX10_needDebt_18 dX10_needDebt_19 dX10_needDebt_22 dX10_needDebt_25 (Nat.le_of_ble_eq_true rfl)
def f_Water_needDebt_b0   (h : Hp) (x0 : Nat) (x1 : Int32)  : Option ((Unit ⊕ Nat) × Hp) :=
if x1 < 0 then (
f_Water_needDebt_b15   h

) else (
if hS h x0 = 10 then (
if hS h (hR h x0 4) = 4 then (
if x1 < (hI h (hR h x0 4) 2) then (
some (.inl (), h)

) else (
f_Water_needDebt_b15   h

)
) else none) else none
)

set_option maxRecDepth 20000 in
set_option maxHeartbeats 4000000 in
theorem f_Water_needDebt_b0_ok {l : Launch} {X : Nat × (Nat → Int32)} (hst : l.stackTraces = false) {d : Nat} (hd : 0 ≤ d)     {h : Hp} {x0 : Nat} {x1 : Int32}  {r : (Unit ⊕ Nat) × Hp} (E : f_Water_needDebt_b0   h x0 x1 = some r) : Rn l X mX10_needDebt d 0 [(0, .ref x0), (1, .int x1)] [] h (xV r) r.2 := by
  unfold f_Water_needDebt_b0 at E
  refine Rn.iload_n (pc' := 1) dX10_needDebt_0 rfl 1 rfl rfl ?_
  refine Rn.if_lt (pc' := 4) (tgt := 15) dX10_needDebt_1 (by decide) rfl (fun c1 => ?_) (fun c1 => ?_)
  · replace E := (if_of E).1 c1
    refine Rn.sub [] rfl ?_
    exact f_Water_needDebt_b15_ok hst hd   E
  · replace E := (if_of E).2 c1
    refine Rn.iload_n (pc' := 5) dX10_needDebt_4 rfl 1 rfl rfl ?_
    refine Rn.aload_n (pc' := 6) dX10_needDebt_5 rfl 0 rfl rfl ?_
    obtain ⟨g2, E⟩ := gd_of E
    refine Rn.getR (pc' := 9) fl_X10_42_9 g2 rfl dX10_needDebt_6 rfl ?_
    obtain ⟨g3, E⟩ := gd_of E
    refine Rn.getI (pc' := 12) fl_X10_311_3 g3 rfl dX10_needDebt_9 rfl ?_
    refine Rn.icmp_lt (pc' := 15) (tgt := 26) dX10_needDebt_12 (by decide) rfl (fun c4 => ?_) (fun c4 => ?_)
    · replace E := (if_of E).1 c4
      cases E
      exact Rn.vret rfl dX10_needDebt_26
    · replace E := (if_of E).2 c4
      refine Rn.sub [] rfl ?_
      exact f_Water_needDebt_b15_ok hst hd   E
def f_Water_needDebt (h : Hp) (x0 : Nat) (x1 : Int32) : Option ((Unit ⊕ Nat) × Hp) := f_Water_needDebt_b0  h x0 x1
theorem f_Water_needDebt_ok {l : Launch} {X : Nat × (Nat → Int32)} (hst : l.stackTraces = false) {h : Hp} {x0 : Nat} {x1 : Int32} {r : (Unit ⊕ Nat) × Hp} (E : f_Water_needDebt h x0 x1 = some r) : MC l X yX10_needDebt mX10_needDebt 0 [.ref x0, .int x1] h (xV r) r.2 :=
  MC.body (by decide +kernel) rfl (by decide) hst (Nat.le_of_ble_eq_true rfl) (f_Water_needDebt_b0_ok hst (Nat.le_refl _) E)
abbrev mX3_settled : MI := (RX3, cX3_settled, 7, (some Jvm.ClassFile.FieldType.int), [], false)
theorem ws_X3_settled : ∀ w ∈ wsM yX3_settled mX3_settled, w ∈ gw := List.forall_mem_cons.mpr ⟨gw_at 1390 (by decide +kernel) (by decide +kernel), fun _ h => h⟩
theorem fl_X3_103_1 : FL RX3 103 1 2 := ⟨_, rfl, by decide, "VintageWater$Debt", gw_at 350 (by decide +kernel) (by decide +kernel), Or.inl rfl⟩
theorem fl_X3_100_1 : FL RX3 100 1 1 := ⟨_, rfl, by decide, "VintageWater$Debt", gw_at 348 (by decide +kernel) (by decide +kernel), Or.inl rfl⟩
def f_Land_settled_b103  (k69 : Hp → Nat → Nat → Int32 → Int32 → Int32 → Option (Int32 × Hp)) (h : Hp) (x0 : Nat) (x1 : Nat) (x2 : Int32) (x3 : Int32) (x4 : Int32) (s0 : Int32) : Option (Int32 × Hp) :=
if hS h x1 = 2 then (
if hS h x0 = 4 then (
if hS h (hR h x0 3) = 23 then (
if ib x2 (hL h (hR h x0 3)) = true then (
if hS h (hR h (hR h x0 3) (ix x2)) = 1 then (
bI (f_Cistern_free h (hR h (hR h x0 3) (ix x2))) fun v6 h7 =>
bI (f_Math_min h7 s0 v6) fun v9 h10 =>
bI (f_Math_min h10 (hI h x1 2) v9) fun v12 h13 =>
if hS h13 x0 = 4 then (
if hS h13 (hR h13 x0 3) = 23 then (
if ib x4 (hL h13 (hR h13 x0 3)) = true then (
if hS h13 x1 = 2 then (
if hS h13 (hR h13 (hR h13 x0 3) (ix x4)) = 1 then (
bV (f_Cistern_take h13 (hR h13 (hR h13 x0 3) (ix x4)) (hI h13 x1 1) v12) fun h21 =>
if hS h21 x0 = 4 then (
if hS h21 (hR h21 x0 3) = 23 then (
if ib x2 (hL h21 (hR h21 x0 3)) = true then (
if hS h21 x1 = 2 then (
if hS h21 (hR h21 (hR h21 x0 3) (ix x2)) = 1 then (
bV (f_Cistern_put h21 (hR h21 (hR h21 x0 3) (ix x2)) (hI h21 x1 1) v12) fun h29 =>
if hS h29 x1 = 2 then (
wr (sI h29 x1 2 ((hI h29 x1 2) - v12)) fun h32 =>
k69 h32 x0 x1 x2 x3 (x4 + (1 : Int32))
) else none) else none) else none) else none) else none) else none) else none) else none) else none) else none) else none) else none) else none) else none) else none) else none
set_option maxRecDepth 20000 in
set_option maxHeartbeats 4000000 in
theorem f_Land_settled_b103_ok {l : Launch} {X : Nat × (Nat → Int32)} (hst : l.stackTraces = false) {d : Nat} (hd : 2 ≤ d)   {k69 : Hp → Nat → Nat → Int32 → Int32 → Int32 → Option (Int32 × Hp)} (hk69 : ∀ (h : Hp) (x0 : Nat) (x1 : Nat) (x2 : Int32) (x3 : Int32) (x4 : Int32)  (r : Int32 × Hp), k69 h x0 x1 x2 x3 x4 = some r → Rn l X mX3_settled d 69 [(0, .ref x0), (1, .ref x1), (2, .int x2), (3, .int x3), (4, .int x4)] [] h (eI r) r.2) {h : Hp} {x0 : Nat} {x1 : Nat} {x2 : Int32} {x3 : Int32} {x4 : Int32} {s0 : Int32} {r : Int32 × Hp} (E : f_Land_settled_b103  k69 h x0 x1 x2 x3 x4 s0 = some r) : Rn l X mX3_settled d 103 [(0, .ref x0), (1, .ref x1), (2, .int x2), (3, .int x3), (4, .int x4)] [.int s0] h (eI r) r.2 := by
  unfold f_Land_settled_b103 at E
  refine Rn.istore (pc' := 105) (L' := [(5, .int s0), (0, .ref x0), (1, .ref x1), (2, .int x2), (3, .int x3), (4, .int x4)]) dX3_settled_103 (by decide) rfl rfl ?_
  refine Rn.aload_n (pc' := 106) dX3_settled_105 rfl 2 rfl rfl ?_
  obtain ⟨g1, E⟩ := gd_of E
  refine Rn.getI (pc' := 109) fl_X3_103_1 g1 rfl dX3_settled_106 rfl ?_
  refine Rn.iload (pc' := 111) dX3_settled_109 0 rfl rfl ?_
  refine Rn.aload_n (pc' := 112) dX3_settled_111 rfl 1 rfl rfl ?_
  obtain ⟨g2, E⟩ := gd_of E
  refine Rn.getR (pc' := 115) fl_X3_11_3 g2 rfl dX3_settled_112 rfl ?_
  refine Rn.iload_n (pc' := 116) dX3_settled_115 rfl 3 rfl rfl ?_
  obtain ⟨g3, E⟩ := gd_of E
  obtain ⟨g4, E⟩ := gd_of E
  refine Rn.aald (pc' := 117) g3 (by decide) (by decide) g4 dX3_settled_116 rfl ?_
  obtain ⟨g5, E⟩ := gd_of E
  obtain ⟨v6, h7, e8, E⟩ := bI_of E
  refine Rn.callV1 (pc' := 120) (As := []) (rest := [.int s0, .int (hI h x1 2)]) (f_Cistern_free_ok hst e8) (Nat.le_trans (by decide) hd) rfl kb_X3_110 ki_X0_free rfl g5 rfl rfl (Nat.le_of_ble_eq_true rfl) dX3_settled_117 rfl rfl ?_
  obtain ⟨v9, h10, e11, E⟩ := bI_of E
  refine Rn.callS1 (pc' := 123) (As := [.int s0, .int v6]) (rest := [.int (hI h x1 2)]) (f_Math_min_ok hst e11) (Nat.le_trans (by decide) hd) rfl kb_X3_114 ks_J9_min_7cf53 rfl rfl (Nat.le_of_ble_eq_true rfl) dX3_settled_120 rfl rfl ?_
  obtain ⟨v12, h13, e14, E⟩ := bI_of E
  refine Rn.callS1 (pc' := 126) (As := [.int (hI h x1 2), .int v9]) (rest := []) (f_Math_min_ok hst e14) (Nat.le_trans (by decide) hd) rfl kb_X3_114 ks_J9_min_7cf53 rfl rfl (Nat.le_of_ble_eq_true rfl) dX3_settled_123 rfl rfl ?_
  refine Rn.istore (pc' := 128) (L' := [(6, .int v12), (5, .int s0), (0, .ref x0), (1, .ref x1), (2, .int x2), (3, .int x3), (4, .int x4)]) dX3_settled_126 (by decide) rfl rfl ?_
  refine Rn.aload_n (pc' := 129) dX3_settled_128 rfl 2 rfl rfl ?_
  obtain ⟨g15, E⟩ := gd_of E
  refine Rn.getR (pc' := 132) fl_X3_11_3 g15 rfl dX3_settled_129 rfl ?_
  refine Rn.iload (pc' := 134) dX3_settled_132 6 rfl rfl ?_
  obtain ⟨g16, E⟩ := gd_of E
  obtain ⟨g17, E⟩ := gd_of E
  refine Rn.aald (pc' := 135) g16 (by decide) (by decide) g17 dX3_settled_134 rfl ?_
  refine Rn.aload_n (pc' := 136) dX3_settled_135 rfl 3 rfl rfl ?_
  obtain ⟨g18, E⟩ := gd_of E
  refine Rn.getI (pc' := 139) fl_X3_100_1 g18 rfl dX3_settled_136 rfl ?_
  refine Rn.iload (pc' := 141) dX3_settled_139 0 rfl rfl ?_
  obtain ⟨g19, E⟩ := gd_of E
  obtain ⟨h21, e22, E⟩ := bV_of E
  refine Rn.callV1 (pc' := 144) (As := [.int (hI h13 x1 1), .int v12]) (rest := []) (f_Cistern_take_ok hst e22) (Nat.le_trans (by decide) hd) rfl kb_X3_193 ki_X0_take rfl g19 rfl rfl (Nat.le_of_ble_eq_true rfl) dX3_settled_141 rfl rfl ?_
  refine Rn.aload_n (pc' := 145) dX3_settled_144 rfl 2 rfl rfl ?_
  obtain ⟨g23, E⟩ := gd_of E
  refine Rn.getR (pc' := 148) fl_X3_11_3 g23 rfl dX3_settled_145 rfl ?_
  refine Rn.iload_n (pc' := 149) dX3_settled_148 rfl 4 rfl rfl ?_
  obtain ⟨g24, E⟩ := gd_of E
  obtain ⟨g25, E⟩ := gd_of E
  refine Rn.aald (pc' := 150) g24 (by decide) (by decide) g25 dX3_settled_149 rfl ?_
  refine Rn.aload_n (pc' := 151) dX3_settled_150 rfl 3 rfl rfl ?_
  obtain ⟨g26, E⟩ := gd_of E
  refine Rn.getI (pc' := 154) fl_X3_100_1 g26 rfl dX3_settled_151 rfl ?_
  refine Rn.iload (pc' := 156) dX3_settled_154 0 rfl rfl ?_
  obtain ⟨g27, E⟩ := gd_of E
  obtain ⟨h29, e30, E⟩ := bV_of E
  refine Rn.callV1 (pc' := 159) (As := [.int (hI h21 x1 1), .int v12]) (rest := []) (f_Cistern_put_ok hst e30) (Nat.le_trans (by decide) hd) rfl kb_X3_120 ki_X0_put rfl g27 rfl rfl (Nat.le_of_ble_eq_true rfl) dX3_settled_156 rfl rfl ?_
  refine Rn.aload_n (pc' := 160) dX3_settled_159 rfl 3 rfl rfl ?_
  refine Rn.dup (pc' := 161) (hc := rfl) dX3_settled_160 rfl ?_
  obtain ⟨g31, E⟩ := gd_of E
  refine Rn.getI (pc' := 164) fl_X3_103_1 g31 rfl dX3_settled_161 rfl ?_
  refine Rn.iload (pc' := 166) dX3_settled_164 0 rfl rfl ?_
  refine Rn.isub (pc' := 167) dX3_settled_166 rfl ?_
  refine Rn.putI (pc' := 170) fl_X3_103_1 (fun q hq => by cases hq; decide) g31 rfl rfl rfl dX3_settled_167 rfl ?_
  replace E := wr_of E
  generalize eh33 : sI h29 x1 2 ((hI h29 x1 2) - v12) = h32 at E ⊢
  refine Rn.iinc (pc' := 173) (v := (x4 + (1 : Int32))) (L' := [(4, .int (x4 + (1 : Int32))), (6, .int v12), (5, .int s0), (0, .ref x0), (1, .ref x1), (2, .int x2), (3, .int x3)]) dX3_settled_170 6 rfl rfl (by decide) rfl rfl ?_
  refine Rn.goto (pc' := 69) dX3_settled_173 (by decide) ?_
  refine Rn.sub [3, 4, 5, 6, 0] rfl ?_
  exact hk69 _ _ _ _ _ _ _ E
def f_Land_settled_b69  (k69 : Hp → Nat → Nat → Int32 → Int32 → Int32 → Option (Int32 × Hp)) (h : Hp) (x0 : Nat) (x1 : Nat) (x2 : Int32) (x3 : Int32) (x4 : Int32)  : Option (Int32 × Hp) :=
if hS h x0 = 4 then (
if (hI h x0 0) ≤ x4 then (
if hS h x1 = 2 then (
some ((x3 - (hI h x1 2)), h)
) else none
) else (
if x4 = x2 then (
f_Land_settled_b103  k69 h x0 x1 x2 x3 x4 (0 : Int32)

) else (
if hS h (hR h x0 3) = 23 then (
if ib x4 (hL h (hR h x0 3)) = true then (
if hS h (hR h (hR h x0 3) (ix x4)) = 1 then (
if hS h x1 = 2 then (
if hS h (hR h (hR h (hR h x0 3) (ix x4)) 6) = 20 then (
if ib (hI h x1 1) (hL h (hR h (hR h (hR h x0 3) (ix x4)) 6)) = true then (
f_Land_settled_b103  k69 h x0 x1 x2 x3 x4 (hI h (hR h (hR h (hR h x0 3) (ix x4)) 6) (ix (hI h x1 1)))
) else none) else none) else none) else none) else none) else none
)

)
) else none
set_option maxRecDepth 20000 in
set_option maxHeartbeats 4000000 in
theorem f_Land_settled_b69_ok {l : Launch} {X : Nat × (Nat → Int32)} (hst : l.stackTraces = false) {d : Nat} (hd : 2 ≤ d)   {k69 : Hp → Nat → Nat → Int32 → Int32 → Int32 → Option (Int32 × Hp)} (hk69 : ∀ (h : Hp) (x0 : Nat) (x1 : Nat) (x2 : Int32) (x3 : Int32) (x4 : Int32)  (r : Int32 × Hp), k69 h x0 x1 x2 x3 x4 = some r → Rn l X mX3_settled d 69 [(0, .ref x0), (1, .ref x1), (2, .int x2), (3, .int x3), (4, .int x4)] [] h (eI r) r.2) {h : Hp} {x0 : Nat} {x1 : Nat} {x2 : Int32} {x3 : Int32} {x4 : Int32}  {r : Int32 × Hp} (E : f_Land_settled_b69  k69 h x0 x1 x2 x3 x4 = some r) : Rn l X mX3_settled d 69 [(0, .ref x0), (1, .ref x1), (2, .int x2), (3, .int x3), (4, .int x4)] [] h (eI r) r.2 := by
  unfold f_Land_settled_b69 at E
  refine Rn.iload (pc' := 71) dX3_settled_69 4 rfl rfl ?_
  refine Rn.aload_n (pc' := 72) dX3_settled_71 rfl 0 rfl rfl ?_
  obtain ⟨g1, E⟩ := gd_of E
  refine Rn.getI (pc' := 75) fl_X3_43_3 g1 rfl dX3_settled_72 rfl ?_
  refine Rn.icmp_ge (pc' := 78) (tgt := 176) dX3_settled_75 (by decide) rfl (fun c2 => ?_) (fun c2 => ?_)
  · replace E := (if_of E).1 c2
    refine Rn.iload_n (pc' := 177) dX3_settled_176 rfl 3 rfl rfl ?_
    refine Rn.aload_n (pc' := 178) dX3_settled_177 rfl 1 rfl rfl ?_
    obtain ⟨g3, E⟩ := gd_of E
    refine Rn.getI (pc' := 181) fl_X3_103_1 g3 rfl dX3_settled_178 rfl ?_
    refine Rn.isub (pc' := 182) dX3_settled_181 rfl ?_
    cases E
    exact Rn.zret rfl rfl dX3_settled_182
  · replace E := (if_of E).2 c2
    refine Rn.iload (pc' := 80) dX3_settled_78 4 rfl rfl ?_
    refine Rn.iload_n (pc' := 81) dX3_settled_80 rfl 2 rfl rfl ?_
    refine Rn.icmp_ne (pc' := 84) (tgt := 88) dX3_settled_81 (by decide) rfl (fun c4 => ?_) (fun c4 => ?_)
    · replace E := (if_of E).2 c4
      refine Rn.aload_n (pc' := 89) dX3_settled_88 rfl 0 rfl rfl ?_
      refine Rn.getR (pc' := 92) fl_X3_11_3 g1 rfl dX3_settled_89 rfl ?_
      refine Rn.iload (pc' := 94) dX3_settled_92 4 rfl rfl ?_
      obtain ⟨g5, E⟩ := gd_of E
      obtain ⟨g6, E⟩ := gd_of E
      refine Rn.aald (pc' := 95) g5 (by decide) (by decide) g6 dX3_settled_94 rfl ?_
      obtain ⟨g7, E⟩ := gd_of E
      refine Rn.getR (pc' := 98) fl_X3_190_0 g7 rfl dX3_settled_95 rfl ?_
      refine Rn.aload_n (pc' := 99) dX3_settled_98 rfl 1 rfl rfl ?_
      obtain ⟨g8, E⟩ := gd_of E
      refine Rn.getI (pc' := 102) fl_X3_100_1 g8 rfl dX3_settled_99 rfl ?_
      obtain ⟨g9, E⟩ := gd_of E
      obtain ⟨g10, E⟩ := gd_of E
      refine Rn.iald (pc' := 103) g9 g10 dX3_settled_102 rfl ?_
      exact f_Land_settled_b103_ok hst hd  hk69 E
    · replace E := (if_of E).1 c4
      refine Rn.iconst (pc' := 85) (v := (0 : Int32)) (hv := by decide) dX3_settled_84 rfl ?_
      refine Rn.goto (pc' := 103) dX3_settled_85 (by decide) ?_
      exact f_Land_settled_b103_ok hst hd  hk69 E
def f_Land_settled_L69   (n : Nat) : Hp → Nat → Nat → Int32 → Int32 → Int32 → Option (Int32 × Hp) := Nat.rec (motive := fun _ => Hp → Nat → Nat → Int32 → Int32 → Int32 → Option (Int32 × Hp)) (fun _ _ _ _ _ _ => none) (fun _ rec => f_Land_settled_b69   rec) n
theorem f_Land_settled_L69_ok {l : Launch} {X : Nat × (Nat → Int32)} (hst : l.stackTraces = false) {d : Nat} (hd : 2 ≤ d)     : ∀ (n : Nat) (h : Hp) (x0 : Nat) (x1 : Nat) (x2 : Int32) (x3 : Int32) (x4 : Int32)  (r : Int32 × Hp), f_Land_settled_L69   n h x0 x1 x2 x3 x4 = some r → Rn l X mX3_settled d 69 [(0, .ref x0), (1, .ref x1), (2, .int x2), (3, .int x3), (4, .int x4)] [] h (eI r) r.2 := by
  intro n
  induction n with
  | zero => intro h x0 x1 x2 x3 x4 r E; cases E
  | succ n ih => intro h x0 x1 x2 x3 x4 r E; exact f_Land_settled_b69_ok hst hd   ih E
theorem fl_X3_97_1 : FL RX3 97 1 0 := ⟨_, rfl, by decide, "VintageWater$Debt", gw_at 346 (by decide +kernel) (by decide +kernel), Or.inl rfl⟩
def f_Land_settled_b0   (h : Hp) (x0 : Nat) (x1 : Nat)  : Option (Int32 × Hp) :=
if hS h x1 = 2 then (
if hS h x0 = 4 then (
bI (f_Land_hasHouse h x0 (hI h x1 0)) fun v3 h4 =>
if v3 = 0 then (
some ((0 : Int32), h4)

) else (
if hS h4 x0 = 4 then (
if hS h4 x1 = 2 then (
if hS h4 (hR h4 x0 4) = 24 then (
if ib (hI h4 x1 0) (hL h4 (hR h4 x0 4)) = true then (
if hS h4 (hR h4 (hR h4 x0 4) (ix (hI h4 x1 0))) = 3 then (
bI (f_Land_hasCistern h4 x0 (hI h4 (hR h4 (hR h4 x0 4) (ix (hI h4 x1 0))) 1)) fun v12 h13 =>
if v12 = 0 then (
some ((0 : Int32), h13)

) else (
if hS h13 x1 = 2 then (
if (hI h13 x1 1) < 0 then (
some ((0 : Int32), h13)

) else (
if (hI h13 x1 1) < (30 : Int32) then (
if hS h13 x0 = 4 then (
if hS h13 (hR h13 x0 4) = 24 then (
if ib (hI h13 x1 0) (hL h13 (hR h13 x0 4)) = true then (
if hS h13 (hR h13 (hR h13 x0 4) (ix (hI h13 x1 0))) = 3 then (
f_Land_settled_L69   FU h13 x0 x1 (hI h13 (hR h13 (hR h13 x0 4) (ix (hI h13 x1 0))) 1) (hI h13 x1 2) (0 : Int32)
) else none) else none) else none) else none
) else (
some ((0 : Int32), h13)

)

)
) else none
)
) else none) else none) else none) else none) else none
)
) else none) else none
set_option maxRecDepth 20000 in
set_option maxHeartbeats 4000000 in
theorem f_Land_settled_b0_ok {l : Launch} {X : Nat × (Nat → Int32)} (hst : l.stackTraces = false) {d : Nat} (hd : 2 ≤ d)     {h : Hp} {x0 : Nat} {x1 : Nat}  {r : Int32 × Hp} (E : f_Land_settled_b0   h x0 x1 = some r) : Rn l X mX3_settled d 0 [(0, .ref x0), (1, .ref x1)] [] h (eI r) r.2 := by
  unfold f_Land_settled_b0 at E
  refine Rn.aload_n (pc' := 1) dX3_settled_0 rfl 0 rfl rfl ?_
  refine Rn.aload_n (pc' := 2) dX3_settled_1 rfl 1 rfl rfl ?_
  obtain ⟨g1, E⟩ := gd_of E
  refine Rn.getI (pc' := 5) fl_X3_97_1 g1 rfl dX3_settled_2 rfl ?_
  obtain ⟨g2, E⟩ := gd_of E
  obtain ⟨v3, h4, e5, E⟩ := bI_of E
  refine Rn.callV1 (pc' := 8) (As := [.int (hI h x1 0)]) (rest := []) (f_Land_hasHouse_ok hst e5) (Nat.le_trans (by decide) hd) rfl kb_X3_167 ki_X3_hasHouse rfl g2 rfl rfl (Nat.le_of_ble_eq_true rfl) dX3_settled_5 rfl rfl ?_
  refine Rn.if_eq (pc' := 11) (tgt := 46) dX3_settled_8 (by decide) rfl (fun c6 => ?_) (fun c6 => ?_)
  · replace E := (if_of E).1 c6
    refine Rn.iconst (pc' := 47) (v := (0 : Int32)) (hv := by decide) dX3_settled_46 rfl ?_
    cases E
    exact Rn.zret rfl rfl dX3_settled_47
  · replace E := (if_of E).2 c6
    refine Rn.aload_n (pc' := 12) dX3_settled_11 rfl 0 rfl rfl ?_
    refine Rn.aload_n (pc' := 13) dX3_settled_12 rfl 0 rfl rfl ?_
    obtain ⟨g7, E⟩ := gd_of E
    refine Rn.getR (pc' := 16) fl_X3_19_3 g7 rfl dX3_settled_13 rfl ?_
    refine Rn.aload_n (pc' := 17) dX3_settled_16 rfl 1 rfl rfl ?_
    obtain ⟨g8, E⟩ := gd_of E
    refine Rn.getI (pc' := 20) fl_X3_97_1 g8 rfl dX3_settled_17 rfl ?_
    obtain ⟨g9, E⟩ := gd_of E
    obtain ⟨g10, E⟩ := gd_of E
    refine Rn.aald (pc' := 21) g9 (by decide) (by decide) g10 dX3_settled_20 rfl ?_
    obtain ⟨g11, E⟩ := gd_of E
    refine Rn.getI (pc' := 24) fl_X3_173_2 g11 rfl dX3_settled_21 rfl ?_
    obtain ⟨v12, h13, e14, E⟩ := bI_of E
    refine Rn.callV1 (pc' := 27) (As := [.int (hI h4 (hR h4 (hR h4 x0 4) (ix (hI h4 x1 0))) 1)]) (rest := []) (f_Land_hasCistern_ok hst e14) (Nat.le_trans (by decide) hd) rfl kb_X3_106 ki_X3_hasCistern rfl g7 rfl rfl (Nat.le_of_ble_eq_true rfl) dX3_settled_24 rfl rfl ?_
    refine Rn.if_eq (pc' := 30) (tgt := 46) dX3_settled_27 (by decide) rfl (fun c15 => ?_) (fun c15 => ?_)
    · replace E := (if_of E).1 c15
      refine Rn.iconst (pc' := 47) (v := (0 : Int32)) (hv := by decide) dX3_settled_46 rfl ?_
      cases E
      exact Rn.zret rfl rfl dX3_settled_47
    · replace E := (if_of E).2 c15
      refine Rn.aload_n (pc' := 31) dX3_settled_30 rfl 1 rfl rfl ?_
      obtain ⟨g16, E⟩ := gd_of E
      refine Rn.getI (pc' := 34) fl_X3_100_1 g16 rfl dX3_settled_31 rfl ?_
      refine Rn.if_lt (pc' := 37) (tgt := 46) dX3_settled_34 (by decide) rfl (fun c17 => ?_) (fun c17 => ?_)
      · replace E := (if_of E).1 c17
        refine Rn.iconst (pc' := 47) (v := (0 : Int32)) (hv := by decide) dX3_settled_46 rfl ?_
        cases E
        exact Rn.zret rfl rfl dX3_settled_47
      · replace E := (if_of E).2 c17
        refine Rn.aload_n (pc' := 38) dX3_settled_37 rfl 1 rfl rfl ?_
        refine Rn.getI (pc' := 41) fl_X3_100_1 g16 rfl dX3_settled_38 rfl ?_
        refine Rn.bipush (pc' := 43) (v := (30 : Int32)) (hv := by decide) dX3_settled_41 rfl ?_
        refine Rn.icmp_lt (pc' := 46) (tgt := 48) dX3_settled_43 (by decide) rfl (fun c18 => ?_) (fun c18 => ?_)
        · replace E := (if_of E).1 c18
          refine Rn.aload_n (pc' := 49) dX3_settled_48 rfl 0 rfl rfl ?_
          obtain ⟨g19, E⟩ := gd_of E
          refine Rn.getR (pc' := 52) fl_X3_19_3 g19 rfl dX3_settled_49 rfl ?_
          refine Rn.aload_n (pc' := 53) dX3_settled_52 rfl 1 rfl rfl ?_
          refine Rn.getI (pc' := 56) fl_X3_97_1 g16 rfl dX3_settled_53 rfl ?_
          obtain ⟨g20, E⟩ := gd_of E
          obtain ⟨g21, E⟩ := gd_of E
          refine Rn.aald (pc' := 57) g20 (by decide) (by decide) g21 dX3_settled_56 rfl ?_
          obtain ⟨g22, E⟩ := gd_of E
          refine Rn.getI (pc' := 60) fl_X3_173_2 g22 rfl dX3_settled_57 rfl ?_
          refine Rn.istore_n (pc' := 61) (L' := [(2, .int (hI h13 (hR h13 (hR h13 x0 4) (ix (hI h13 x1 0))) 1)), (0, .ref x0), (1, .ref x1)]) dX3_settled_60 rfl (by decide) rfl rfl ?_
          refine Rn.aload_n (pc' := 62) dX3_settled_61 rfl 2 rfl rfl ?_
          refine Rn.getI (pc' := 65) fl_X3_103_1 g16 rfl dX3_settled_62 rfl ?_
          refine Rn.istore_n (pc' := 66) (L' := [(3, .int (hI h13 x1 2)), (2, .int (hI h13 (hR h13 (hR h13 x0 4) (ix (hI h13 x1 0))) 1)), (0, .ref x0), (1, .ref x1)]) dX3_settled_65 rfl (by decide) rfl rfl ?_
          refine Rn.iconst (pc' := 67) (v := (0 : Int32)) (hv := by decide) dX3_settled_66 rfl ?_
          refine Rn.istore (pc' := 69) (L' := [(4, .int (0 : Int32)), (3, .int (hI h13 x1 2)), (2, .int (hI h13 (hR h13 (hR h13 x0 4) (ix (hI h13 x1 0))) 1)), (0, .ref x0), (1, .ref x1)]) dX3_settled_67 (by decide) rfl rfl ?_
          refine Rn.sub [3, 4, 2, 1, 0] rfl ?_
          exact f_Land_settled_L69_ok hst hd   FU _ _ _ _ _ _ _ E
        · replace E := (if_of E).2 c18
          refine Rn.iconst (pc' := 47) (v := (0 : Int32)) (hv := by decide) dX3_settled_46 rfl ?_
          cases E
          exact Rn.zret rfl rfl dX3_settled_47
def f_Land_settled (h : Hp) (x0 : Nat) (x1 : Nat) : Option (Int32 × Hp) := f_Land_settled_b0  h x0 x1
theorem f_Land_settled_ok {l : Launch} {X : Nat × (Nat → Int32)} (hst : l.stackTraces = false) {h : Hp} {x0 : Nat} {x1 : Nat} {r : Int32 × Hp} (E : f_Land_settled h x0 x1 = some r) : MC l X yX3_settled mX3_settled 2 [.ref x0, .ref x1] h (eI r) r.2 :=
  MC.body (by decide +kernel) rfl (by decide) hst (Nat.le_of_ble_eq_true rfl) (f_Land_settled_b0_ok hst (Nat.le_refl _) E)
abbrev mX10_settle : MI := (RX10, cX10_settle, 2, (some Jvm.ClassFile.FieldType.int), [], false)
theorem ws_X10_settle : ∀ w ∈ wsM yX10_settle mX10_settle, w ∈ gw := List.forall_mem_cons.mpr ⟨gw_at 1386 (by decide +kernel) (by decide +kernel), fun _ h => h⟩
theorem kb_X10_320 : KB RX10 320 yX10_needDebt mX10_needDebt 1 := ⟨gw_at 1375 (by decide +kernel) (by decide +kernel), gw_at 107 (by decide +kernel) (by decide +kernel), trivial, ws_X10_needDebt, by decide +kernel, by decide +kernel, by decide +kernel, by decide⟩
theorem ki_X10_needDebt : Cond.instanceMethod yX10_needDebt ∈ gw ∧ Cond.selects yX10_needDebt.cls yX10_needDebt yX10_needDebt ∈ gw := ⟨gw_at 1377 (by decide +kernel) (by decide +kernel), gw_at 39 (by decide +kernel) (by decide +kernel)⟩
theorem fl_X10_323_3 : FL RX10 323 3 5 := ⟨_, rfl, by decide, "VintageWater$Land", gw_at 370 (by decide +kernel) (by decide +kernel), Or.inl rfl⟩
theorem kb_X10_332 : KB RX10 332 yX3_settled mX3_settled 1 := ⟨gw_at 1387 (by decide +kernel) (by decide +kernel), gw_at 113 (by decide +kernel) (by decide +kernel), trivial, ws_X3_settled, by decide +kernel, by decide +kernel, by decide +kernel, by decide⟩
theorem ki_X3_settled : Cond.instanceMethod yX3_settled ∈ gw ∧ Cond.selects yX3_settled.cls yX3_settled yX3_settled ∈ gw := ⟨gw_at 1388 (by decide +kernel) (by decide +kernel), gw_at 1389 (by decide +kernel) (by decide +kernel)⟩
def f_Water_settle_b0   (h : Hp) (x0 : Nat) (x1 : Int32)  : Option ((Int32 ⊕ Nat) × Hp) :=
if hS h x0 = 10 then (
bX (f_Water_needDebt h x0 x1) fun _ h3 =>
if hS h3 x0 = 10 then (
if hS h3 (hR h3 x0 4) = 4 then (
if hS h3 (hR h3 (hR h3 x0 4) 5) = 25 then (
if ib x1 (hL h3 (hR h3 (hR h3 x0 4) 5)) = true then (
bI (f_Land_settled h3 (hR h3 x0 4) (hR h3 (hR h3 (hR h3 x0 4) 5) (ix x1))) fun v9 h10 =>
some (.inl v9, h10)
) else none) else none) else none) else none) else none
set_option maxRecDepth 20000 in
set_option maxHeartbeats 4000000 in
theorem f_Water_settle_b0_ok {l : Launch} {X : Nat × (Nat → Int32)} (hst : l.stackTraces = false) {d : Nat} (hd : 3 ≤ d)     {h : Hp} {x0 : Nat} {x1 : Int32}  {r : (Int32 ⊕ Nat) × Hp} (E : f_Water_settle_b0   h x0 x1 = some r) : Rn l X mX10_settle d 0 [(0, .ref x0), (1, .int x1)] [] h (xI r) r.2 := by
  unfold f_Water_settle_b0 at E
  refine Rn.aload_n (pc' := 1) dX10_settle_0 rfl 0 rfl rfl ?_
  refine Rn.iload_n (pc' := 2) dX10_settle_1 rfl 1 rfl rfl ?_
  obtain ⟨g1, E⟩ := gd_of E
  rcases bX_of E with ⟨u_, h3, e4, E⟩ | ⟨x_, h3, e4, rfl⟩
  rotate_left
  · exact Rn.callVX (As := [.int x1]) (rest := []) (f_Water_needDebt_ok hst e4) (Nat.le_trans (by decide) hd) rfl kb_X10_320 ki_X10_needDebt rfl g1 rfl rfl (Nat.le_of_ble_eq_true rfl) dX10_settle_2 (RnX.out (by decide))
  refine Rn.callV1 (pc' := 5) (As := [.int x1]) (rest := []) (f_Water_needDebt_ok hst e4) (Nat.le_trans (by decide) hd) rfl kb_X10_320 ki_X10_needDebt rfl g1 rfl rfl (Nat.le_of_ble_eq_true rfl) dX10_settle_2 rfl rfl ?_
  refine Rn.aload_n (pc' := 6) dX10_settle_5 rfl 0 rfl rfl ?_
  obtain ⟨g5, E⟩ := gd_of E
  refine Rn.getR (pc' := 9) fl_X10_42_9 g5 rfl dX10_settle_6 rfl ?_
  refine Rn.aload_n (pc' := 10) dX10_settle_9 rfl 0 rfl rfl ?_
  refine Rn.getR (pc' := 13) fl_X10_42_9 g5 rfl dX10_settle_10 rfl ?_
  obtain ⟨g6, E⟩ := gd_of E
  refine Rn.getR (pc' := 16) fl_X10_323_3 g6 rfl dX10_settle_13 rfl ?_
  refine Rn.iload_n (pc' := 17) dX10_settle_16 rfl 1 rfl rfl ?_
  obtain ⟨g7, E⟩ := gd_of E
  obtain ⟨g8, E⟩ := gd_of E
  refine Rn.aald (pc' := 18) g7 (by decide) (by decide) g8 dX10_settle_17 rfl ?_
  obtain ⟨v9, h10, e11, E⟩ := bI_of E
  refine Rn.callV1 (pc' := 21) (As := [.ref (hR h3 (hR h3 (hR h3 x0 4) 5) (ix x1))]) (rest := []) (f_Land_settled_ok hst e11) (Nat.le_trans (by decide) hd) rfl kb_X10_332 ki_X3_settled rfl g6 rfl rfl (Nat.le_of_ble_eq_true rfl) dX10_settle_18 rfl rfl ?_
  cases E
  exact Rn.zret rfl rfl dX10_settle_21
def f_Water_settle (h : Hp) (x0 : Nat) (x1 : Int32) : Option ((Int32 ⊕ Nat) × Hp) := f_Water_settle_b0  h x0 x1
theorem f_Water_settle_ok {l : Launch} {X : Nat × (Nat → Int32)} (hst : l.stackTraces = false) {h : Hp} {x0 : Nat} {x1 : Int32} {r : (Int32 ⊕ Nat) × Hp} (E : f_Water_settle h x0 x1 = some r) : MC l X yX10_settle mX10_settle 3 [.ref x0, .int x1] h (xI r) r.2 :=
  MC.body (by decide +kernel) rfl (by decide) hst (Nat.le_of_ble_eq_true rfl) (f_Water_settle_b0_ok hst (Nat.le_refl _) E)
abbrev mL_settle : MI := (RL, cL_settle, 4, (some Jvm.ClassFile.FieldType.int), [(0, 9, 12, 24)], false)
theorem ws_L_settle : ∀ w ∈ wsM yL_settle mL_settle, w ∈ gw := List.forall_mem_cons.mpr ⟨gw_at 1382 (by decide +kernel) (by decide +kernel), fun _ h => h⟩
theorem kb_L_86 : KB RL 86 yX10_settle mX10_settle 1 := ⟨gw_at 1383 (by decide +kernel) (by decide +kernel), gw_at 107 (by decide +kernel) (by decide +kernel), trivial, ws_X10_settle, by decide +kernel, by decide +kernel, by decide +kernel, by decide⟩
theorem ki_X10_settle : Cond.instanceMethod yX10_settle ∈ gw ∧ Cond.selects yX10_settle.cls yX10_settle yX10_settle ∈ gw := ⟨gw_at 1384 (by decide +kernel) (by decide +kernel), gw_at 1385 (by decide +kernel) (by decide +kernel)⟩
def f_Lw_settle_b0   (h : Hp) (x0 : Nat) (x1 : Int32) (x2 : Nat)  : Option (Int32 × Hp) :=
if hS h x0 = 10 then (
bC (f_Water_settle h x0 x1) (fun v2 h3 =>
if hS h3 x2 = 22 then (
if ib (0 : Int32) (hL h3 x2) = true then (
wr (sJ h3 x2 (ix (0 : Int32)) (Int32.toInt64 v2)) fun h7 =>
some ((0 : Int32), h7)
) else none) else none
) (fun x_ h3 =>
if x_ = 1 then (
some ((1 : Int32), h3)

) else (
none))
) else none
set_option maxRecDepth 20000 in
set_option maxHeartbeats 4000000 in
theorem f_Lw_settle_b0_ok {l : Launch} {X : Nat × (Nat → Int32)} (hst : l.stackTraces = false) {d : Nat} (hd : 4 ≤ d)     {h : Hp} {x0 : Nat} {x1 : Int32} {x2 : Nat}  {r : Int32 × Hp} (E : f_Lw_settle_b0   h x0 x1 x2 = some r) : Rn l X mL_settle d 0 [(0, .ref x0), (1, .int x1), (2, .ref x2)] [] h (eI r) r.2 := by
  unfold f_Lw_settle_b0 at E
  refine Rn.aload_n (pc' := 1) dL_settle_0 rfl 2 rfl rfl ?_
  refine Rn.iconst (pc' := 2) (v := (0 : Int32)) (hv := by decide) dL_settle_1 rfl ?_
  refine Rn.aload_n (pc' := 3) dL_settle_2 rfl 0 rfl rfl ?_
  refine Rn.iload_n (pc' := 4) dL_settle_3 rfl 1 rfl rfl ?_
  obtain ⟨g1, E⟩ := gd_of E
  rcases bC_of E with ⟨v2, h3, e4, E⟩ | ⟨x_, h3, e4, E⟩
  · refine Rn.callV1 (pc' := 7) (As := [.int x1]) (rest := [.int (0 : Int32), .ref x2]) (f_Water_settle_ok hst e4) (Nat.le_trans (by decide) hd) rfl kb_L_86 ki_X10_settle rfl g1 rfl rfl (Nat.le_of_ble_eq_true rfl) dL_settle_4 rfl rfl ?_
    refine Rn.i2l (pc' := 8) dL_settle_7 rfl ?_
    obtain ⟨g5, E⟩ := gd_of E
    obtain ⟨g6, E⟩ := gd_of E
    refine Rn.last (pc' := 9) g5 g6 dL_settle_8 rfl ?_
    replace E := wr_of E
    generalize eh8 : sJ h3 x2 (ix (0 : Int32)) (Int32.toInt64 v2) = h7 at E ⊢
    refine Rn.goto (pc' := 15) dL_settle_9 (by decide) ?_
    refine Rn.iconst (pc' := 16) (v := (0 : Int32)) (hv := by decide) dL_settle_15 rfl ?_
    cases E
    exact Rn.zret rfl rfl dL_settle_16
  · refine Rn.callVX (As := [.int x1]) (rest := [.int (0 : Int32), .ref x2]) (f_Water_settle_ok hst e4) (Nat.le_trans (by decide) hd) rfl kb_L_86 ki_X10_settle rfl g1 rfl rfl (Nat.le_of_ble_eq_true rfl) dL_settle_4 ?_
    by_cases c9 : x_ = 1
    · replace E := (if_of E).1 c9
      subst c9
      refine RnX.catch (x := 1) (i := 3) (pch := 13) 0 rfl (pre0) (by decide) (by decide) kk_L_24 (by decide) (Or.inl ⟨3, rfl, dL_settle_12, rfl⟩) (by decide) ?_
      change Rn _ _ _ _ _ [(0, .ref x0), (1, .int x1), (2, .ref x2)] _ _ _ _
      refine Rn.iconst (pc' := 14) (v := (1 : Int32)) (hv := by decide) dL_settle_13 rfl ?_
      cases E
      exact Rn.zret rfl rfl dL_settle_14
    replace E := (if_of E).2 c9
    cases E
def f_Lw_settle (h : Hp) (x0 : Nat) (x1 : Int32) (x2 : Nat) : Option (Int32 × Hp) := f_Lw_settle_b0  h x0 x1 x2
theorem f_Lw_settle_ok {l : Launch} {X : Nat × (Nat → Int32)} (hst : l.stackTraces = false) {h : Hp} {x0 : Nat} {x1 : Int32} {x2 : Nat} {r : Int32 × Hp} (E : f_Lw_settle h x0 x1 x2 = some r) : MC l X yL_settle mL_settle 4 [.ref x0, .int x1, .ref x2] h (eI r) r.2 :=
  MC.body (by decide +kernel) rfl (by decide) hst (Nat.le_of_ble_eq_true rfl) (f_Lw_settle_b0_ok hst (Nat.le_refl _) E)
abbrev mX11_noDebt : MI := (RX11, cX11_noDebt, 2, (some Jvm.ClassFile.FieldType.boolean), [], false)
theorem ws_X11_noDebt : ∀ w ∈ wsM yX11_noDebt mX11_noDebt, w ∈ gw := List.forall_mem_cons.mpr ⟨gw_at 1909 (by decide +kernel) (by decide +kernel), fun _ h => h⟩
def f_Model_noDebt_b0   (h : Hp) (x0 : Nat) (x1 : Int32)  : Option (Int32 × Hp) :=
if hS h x0 = 11 then (
if hS h (hR h x0 1) = 20 then (
if ib (10 : Int32) (hL h (hR h x0 1)) = true then (
bI (f_Model_in h x1 (0 : Int32) ((hI h (hR h x0 1) (ix (10 : Int32))) - (1 : Int32))) fun v4 h5 =>
if v4 = 0 then (
some ((1 : Int32), h5)

) else (
some ((0 : Int32), h5)

)
) else none) else none) else none
set_option maxRecDepth 20000 in
set_option maxHeartbeats 4000000 in
theorem f_Model_noDebt_b0_ok {l : Launch} {X : Nat × (Nat → Int32)} (hst : l.stackTraces = false) {d : Nat} (hd : 1 ≤ d)     {h : Hp} {x0 : Nat} {x1 : Int32}  {r : Int32 × Hp} (E : f_Model_noDebt_b0   h x0 x1 = some r) : Rn l X mX11_noDebt d 0 [(0, .ref x0), (1, .int x1)] [] h (eI r) r.2 := by
  unfold f_Model_noDebt_b0 at E
  refine Rn.iload_n (pc' := 1) dX11_noDebt_0 rfl 1 rfl rfl ?_
  refine Rn.iconst (pc' := 2) (v := (0 : Int32)) (hv := by decide) dX11_noDebt_1 rfl ?_
  refine Rn.aload_n (pc' := 3) dX11_noDebt_2 rfl 0 rfl rfl ?_
  obtain ⟨g1, E⟩ := gd_of E
  refine Rn.getR (pc' := 6) fl_X11_13_10 g1 rfl dX11_noDebt_3 rfl ?_
  refine Rn.bipush (pc' := 8) (v := (10 : Int32)) (hv := by decide) dX11_noDebt_6 rfl ?_
  obtain ⟨g2, E⟩ := gd_of E
  obtain ⟨g3, E⟩ := gd_of E
  refine Rn.iald (pc' := 9) g2 g3 dX11_noDebt_8 rfl ?_
  refine Rn.iconst (pc' := 10) (v := (1 : Int32)) (hv := by decide) dX11_noDebt_9 rfl ?_
  refine Rn.isub (pc' := 11) dX11_noDebt_10 rfl ?_
  obtain ⟨v4, h5, e6, E⟩ := bI_of E
  refine Rn.callS1 (pc' := 14) (As := [.int x1, .int (0 : Int32), .int ((hI h (hR h x0 1) (ix (10 : Int32))) - (1 : Int32))]) (rest := []) (f_Model_in_ok hst e6) (Nat.le_trans (by decide) hd) rfl kb_X11_56 ks_X11_in rfl rfl (Nat.le_of_ble_eq_true rfl) dX11_noDebt_11 rfl rfl ?_
  refine Rn.if_ne (pc' := 17) (tgt := 21) dX11_noDebt_14 (by decide) rfl (fun c7 => ?_) (fun c7 => ?_)
  · replace E := (if_of E).2 c7
    refine Rn.iconst (pc' := 22) (v := (0 : Int32)) (hv := by decide) dX11_noDebt_21 rfl ?_
    cases E
    exact Rn.zret rfl rfl dX11_noDebt_22
  · replace E := (if_of E).1 c7
    refine Rn.iconst (pc' := 18) (v := (1 : Int32)) (hv := by decide) dX11_noDebt_17 rfl ?_
    refine Rn.goto (pc' := 22) dX11_noDebt_18 (by decide) ?_
    cases E
    exact Rn.zret rfl rfl dX11_noDebt_22
def f_Model_noDebt (h : Hp) (x0 : Nat) (x1 : Int32) : Option (Int32 × Hp) := f_Model_noDebt_b0  h x0 x1
theorem f_Model_noDebt_ok {l : Launch} {X : Nat × (Nat → Int32)} (hst : l.stackTraces = false) {h : Hp} {x0 : Nat} {x1 : Int32} {r : Int32 × Hp} (E : f_Model_noDebt h x0 x1 = some r) : MC l X yX11_noDebt mX11_noDebt 1 [.ref x0, .int x1] h (eI r) r.2 :=
  MC.body (by decide +kernel) rfl (by decide) hst (Nat.le_of_ble_eq_true rfl) (f_Model_noDebt_b0_ok hst (Nat.le_refl _) E)
abbrev mX11_ofDebt : MI := (RX11, cX11_ofDebt, 3, (some Jvm.ClassFile.FieldType.int), [], false)
theorem ws_X11_ofDebt : ∀ w ∈ wsM yX11_ofDebt mX11_ofDebt, w ∈ gw := List.forall_mem_cons.mpr ⟨gw_at 1913 (by decide +kernel) (by decide +kernel), fun _ h => h⟩
def f_Model_ofDebt_b0   (h : Hp) (x0 : Nat) (x1 : Int32) (x2 : Int32)  : Option (Int32 × Hp) :=
if hS h x0 = 11 then (
if hS h (hR h x0 1) = 20 then (
if ib (((11 : Int32) + ((3 : Int32) * x1)) + x2) (hL h (hR h x0 1)) = true then (
some ((hI h (hR h x0 1) (ix (((11 : Int32) + ((3 : Int32) * x1)) + x2))), h)
) else none) else none) else none
set_option maxRecDepth 20000 in
set_option maxHeartbeats 4000000 in
theorem f_Model_ofDebt_b0_ok {l : Launch} {X : Nat × (Nat → Int32)} (hst : l.stackTraces = false) {d : Nat} (hd : 0 ≤ d)     {h : Hp} {x0 : Nat} {x1 : Int32} {x2 : Int32}  {r : Int32 × Hp} (E : f_Model_ofDebt_b0   h x0 x1 x2 = some r) : Rn l X mX11_ofDebt d 0 [(0, .ref x0), (1, .int x1), (2, .int x2)] [] h (eI r) r.2 := by
  unfold f_Model_ofDebt_b0 at E
  refine Rn.aload_n (pc' := 1) dX11_ofDebt_0 rfl 0 rfl rfl ?_
  obtain ⟨g1, E⟩ := gd_of E
  refine Rn.getR (pc' := 4) fl_X11_13_10 g1 rfl dX11_ofDebt_1 rfl ?_
  refine Rn.bipush (pc' := 6) (v := (11 : Int32)) (hv := by decide) dX11_ofDebt_4 rfl ?_
  refine Rn.iconst (pc' := 7) (v := (3 : Int32)) (hv := by decide) dX11_ofDebt_6 rfl ?_
  refine Rn.iload_n (pc' := 8) dX11_ofDebt_7 rfl 1 rfl rfl ?_
  refine Rn.imul (pc' := 9) dX11_ofDebt_8 rfl ?_
  refine Rn.iadd (pc' := 10) dX11_ofDebt_9 rfl ?_
  refine Rn.iload_n (pc' := 11) dX11_ofDebt_10 rfl 2 rfl rfl ?_
  refine Rn.iadd (pc' := 12) dX11_ofDebt_11 rfl ?_
  obtain ⟨g2, E⟩ := gd_of E
  obtain ⟨g3, E⟩ := gd_of E
  refine Rn.iald (pc' := 13) g2 g3 dX11_ofDebt_12 rfl ?_
  cases E
  exact Rn.zret rfl rfl dX11_ofDebt_13
def f_Model_ofDebt (h : Hp) (x0 : Nat) (x1 : Int32) (x2 : Int32) : Option (Int32 × Hp) := f_Model_ofDebt_b0  h x0 x1 x2
theorem f_Model_ofDebt_ok {l : Launch} {X : Nat × (Nat → Int32)} (hst : l.stackTraces = false) {h : Hp} {x0 : Nat} {x1 : Int32} {x2 : Int32} {r : Int32 × Hp} (E : f_Model_ofDebt h x0 x1 x2 = some r) : MC l X yX11_ofDebt mX11_ofDebt 0 [.ref x0, .int x1, .int x2] h (eI r) r.2 :=
  MC.body (by decide +kernel) rfl (by decide) hst (Nat.le_of_ble_eq_true rfl) (f_Model_ofDebt_b0_ok hst (Nat.le_refl _) E)
abbrev mX11_settle : MI := (RX11, cX11_settle, 7, (some Jvm.ClassFile.FieldType.int), [], false)
theorem ws_X11_settle : ∀ w ∈ wsM yX11_settle mX11_settle, w ∈ gw := List.forall_mem_cons.mpr ⟨gw_at 1917 (by decide +kernel) (by decide +kernel), fun _ h => h⟩
def f_Model_settle_b124  (k45 : Hp → Nat → Int32 → Int32 → Int32 → Int32 → Int32 → Option (Int32 × Hp)) (h : Hp) (x0 : Nat) (x1 : Int32) (x2 : Int32) (x3 : Int32) (x4 : Int32) (x5 : Int32)  : Option (Int32 × Hp) :=
k45 h x0 x1 x2 x3 x4 (x5 + (1 : Int32))

set_option maxRecDepth 20000 in
set_option maxHeartbeats 4000000 in
theorem f_Model_settle_b124_ok {l : Launch} {X : Nat × (Nat → Int32)} (hst : l.stackTraces = false) {d : Nat} (hd : 3 ≤ d)   {k45 : Hp → Nat → Int32 → Int32 → Int32 → Int32 → Int32 → Option (Int32 × Hp)} (hk45 : ∀ (h : Hp) (x0 : Nat) (x1 : Int32) (x2 : Int32) (x3 : Int32) (x4 : Int32) (x5 : Int32)  (r : Int32 × Hp), k45 h x0 x1 x2 x3 x4 x5 = some r → Rn l X mX11_settle d 45 [(0, .ref x0), (1, .int x1), (2, .int x2), (3, .int x3), (4, .int x4), (5, .int x5)] [] h (eI r) r.2) {h : Hp} {x0 : Nat} {x1 : Int32} {x2 : Int32} {x3 : Int32} {x4 : Int32} {x5 : Int32}  {r : Int32 × Hp} (E : f_Model_settle_b124  k45 h x0 x1 x2 x3 x4 x5 = some r) : Rn l X mX11_settle d 124 [(0, .ref x0), (1, .int x1), (2, .int x2), (3, .int x3), (4, .int x4), (5, .int x5)] [] h (eI r) r.2 := by
  unfold f_Model_settle_b124 at E
  refine Rn.iinc (pc' := 127) (v := (x5 + (1 : Int32))) (L' := [(5, .int (x5 + (1 : Int32))), (0, .ref x0), (1, .int x1), (2, .int x2), (3, .int x3), (4, .int x4)]) dX11_settle_124 5 rfl rfl (by decide) rfl rfl ?_
  refine Rn.goto (pc' := 45) dX11_settle_127 (by decide) ?_
  refine Rn.sub [1, 2, 3, 4, 5, 0] rfl ?_
  exact hk45 _ _ _ _ _ _ _ _ E
theorem kb_X11_359 : KB RX11 359 yX11_ofDebt mX11_ofDebt 2 := ⟨gw_at 1910 (by decide +kernel) (by decide +kernel), gw_at 117 (by decide +kernel) (by decide +kernel), trivial, ws_X11_ofDebt, by decide +kernel, by decide +kernel, by decide +kernel, by decide⟩
theorem ki_X11_ofDebt : Cond.instanceMethod yX11_ofDebt ∈ gw ∧ Cond.selects yX11_ofDebt.cls yX11_ofDebt yX11_ofDebt ∈ gw := ⟨gw_at 1912 (by decide +kernel) (by decide +kernel), gw_at 104 (by decide +kernel) (by decide +kernel)⟩
def f_Model_settle_b45  (k45 : Hp → Nat → Int32 → Int32 → Int32 → Int32 → Int32 → Option (Int32 × Hp)) (h : Hp) (x0 : Nat) (x1 : Int32) (x2 : Int32) (x3 : Int32) (x4 : Int32) (x5 : Int32)  : Option (Int32 × Hp) :=
if hS h x0 = 11 then (
bI (f_Model_cisterns h x0) fun v2 h3 =>
if v2 ≤ x5 then (
if hS h3 x0 = 11 then (
if hS h3 (hR h3 x0 1) = 20 then (
if ib (((11 : Int32) + ((3 : Int32) * x1)) + (2 : Int32)) (hL h3 (hR h3 x0 1)) = true then (
if ib (((11 : Int32) + ((3 : Int32) * x1)) + (2 : Int32)) (hL h3 (hR h3 x0 1)) = true then (
wr (sI h3 (hR h3 x0 1) (ix (((11 : Int32) + ((3 : Int32) * x1)) + (2 : Int32))) ((hI h3 (hR h3 x0 1) (ix (((11 : Int32) + ((3 : Int32) * x1)) + (2 : Int32)))) - x4)) fun h10 =>
some (x4, h10)
) else none) else none) else none) else none
) else (
if x5 = x2 then (
f_Model_settle_b124  k45 h3 x0 x1 x2 x3 x4 x5

) else (
if hS h3 x0 = 11 then (
bI (f_Model_layerOf h3 x0 x5 x3) fun v14 h15 =>
if hS h15 x0 = 11 then (
bI (f_Model_ofDebt h15 x0 x1 (2 : Int32)) fun v18 h19 =>
bI (f_Math_min h19 v14 (v18 - x4)) fun v21 h22 =>
if hS h22 x0 = 11 then (
bI (f_Model_ofCistern h22 x0 x2 (0 : Int32)) fun v25 h26 =>
if hS h26 x0 = 11 then (
bI (f_Model_measures h26 x0 x2) fun v29 h30 =>
bI (f_Math_min h30 v21 (v25 - v29)) fun v32 h33 =>
if hS h33 x0 = 11 then (
bV (f_Model_adds h33 x0 x5 x3 (-v32)) fun h37 =>
if hS h37 x0 = 11 then (
bV (f_Model_adds h37 x0 x2 x3 v32) fun h41 =>
f_Model_settle_b124  k45 h41 x0 x1 x2 x3 (x4 + v32) x5
) else none) else none) else none) else none) else none) else none
)

)
) else none
set_option maxRecDepth 20000 in
set_option maxHeartbeats 4000000 in
theorem f_Model_settle_b45_ok {l : Launch} {X : Nat × (Nat → Int32)} (hst : l.stackTraces = false) {d : Nat} (hd : 3 ≤ d)   {k45 : Hp → Nat → Int32 → Int32 → Int32 → Int32 → Int32 → Option (Int32 × Hp)} (hk45 : ∀ (h : Hp) (x0 : Nat) (x1 : Int32) (x2 : Int32) (x3 : Int32) (x4 : Int32) (x5 : Int32)  (r : Int32 × Hp), k45 h x0 x1 x2 x3 x4 x5 = some r → Rn l X mX11_settle d 45 [(0, .ref x0), (1, .int x1), (2, .int x2), (3, .int x3), (4, .int x4), (5, .int x5)] [] h (eI r) r.2) {h : Hp} {x0 : Nat} {x1 : Int32} {x2 : Int32} {x3 : Int32} {x4 : Int32} {x5 : Int32}  {r : Int32 × Hp} (E : f_Model_settle_b45  k45 h x0 x1 x2 x3 x4 x5 = some r) : Rn l X mX11_settle d 45 [(0, .ref x0), (1, .int x1), (2, .int x2), (3, .int x3), (4, .int x4), (5, .int x5)] [] h (eI r) r.2 := by
  unfold f_Model_settle_b45 at E
  refine Rn.iload (pc' := 47) dX11_settle_45 5 rfl rfl ?_
  refine Rn.aload_n (pc' := 48) dX11_settle_47 rfl 0 rfl rfl ?_
  obtain ⟨g1, E⟩ := gd_of E
  obtain ⟨v2, h3, e4, E⟩ := bI_of E
  refine Rn.callV1 (pc' := 51) (As := []) (rest := [.int x5]) (f_Model_cisterns_ok hst e4) (Nat.le_trans (by decide) hd) rfl kb_X11_52 ki_X11_cisterns rfl g1 rfl rfl (Nat.le_of_ble_eq_true rfl) dX11_settle_48 rfl rfl ?_
  refine Rn.icmp_ge (pc' := 54) (tgt := 130) dX11_settle_51 (by decide) rfl (fun c5 => ?_) (fun c5 => ?_)
  · replace E := (if_of E).1 c5
    refine Rn.aload_n (pc' := 131) dX11_settle_130 rfl 0 rfl rfl ?_
    obtain ⟨g6, E⟩ := gd_of E
    refine Rn.getR (pc' := 134) fl_X11_13_10 g6 rfl dX11_settle_131 rfl ?_
    refine Rn.bipush (pc' := 136) (v := (11 : Int32)) (hv := by decide) dX11_settle_134 rfl ?_
    refine Rn.iconst (pc' := 137) (v := (3 : Int32)) (hv := by decide) dX11_settle_136 rfl ?_
    refine Rn.iload_n (pc' := 138) dX11_settle_137 rfl 1 rfl rfl ?_
    refine Rn.imul (pc' := 139) dX11_settle_138 rfl ?_
    refine Rn.iadd (pc' := 140) dX11_settle_139 rfl ?_
    refine Rn.iconst (pc' := 141) (v := (2 : Int32)) (hv := by decide) dX11_settle_140 rfl ?_
    refine Rn.iadd (pc' := 142) dX11_settle_141 rfl ?_
    refine Rn.dup2 (pc' := 143) (hc := rfl) (hd := rfl) dX11_settle_142 rfl ?_
    obtain ⟨g7, E⟩ := gd_of E
    obtain ⟨g8, E⟩ := gd_of E
    refine Rn.iald (pc' := 144) g7 g8 dX11_settle_143 rfl ?_
    refine Rn.iload (pc' := 146) dX11_settle_144 4 rfl rfl ?_
    refine Rn.isub (pc' := 147) dX11_settle_146 rfl ?_
    obtain ⟨g9, E⟩ := gd_of E
    refine Rn.iast (pc' := 148) g7 g9 dX11_settle_147 rfl ?_
    replace E := wr_of E
    generalize eh11 : sI h3 (hR h3 x0 1) (ix (((11 : Int32) + ((3 : Int32) * x1)) + (2 : Int32))) ((hI h3 (hR h3 x0 1) (ix (((11 : Int32) + ((3 : Int32) * x1)) + (2 : Int32)))) - x4) = h10 at E ⊢
    refine Rn.iload (pc' := 150) dX11_settle_148 4 rfl rfl ?_
    cases E
    exact Rn.zret rfl rfl dX11_settle_150
  · replace E := (if_of E).2 c5
    refine Rn.iload (pc' := 56) dX11_settle_54 5 rfl rfl ?_
    refine Rn.iload_n (pc' := 57) dX11_settle_56 rfl 2 rfl rfl ?_
    refine Rn.icmp_ne (pc' := 60) (tgt := 63) dX11_settle_57 (by decide) rfl (fun c12 => ?_) (fun c12 => ?_)
    · replace E := (if_of E).2 c12
      refine Rn.aload_n (pc' := 64) dX11_settle_63 rfl 0 rfl rfl ?_
      refine Rn.iload (pc' := 66) dX11_settle_64 5 rfl rfl ?_
      refine Rn.iload_n (pc' := 67) dX11_settle_66 rfl 3 rfl rfl ?_
      obtain ⟨g13, E⟩ := gd_of E
      obtain ⟨v14, h15, e16, E⟩ := bI_of E
      refine Rn.callV1 (pc' := 70) (As := [.int x5, .int x3]) (rest := []) (f_Model_layerOf_ok hst e16) (Nat.le_trans (by decide) hd) rfl kb_X11_72 ki_X11_layerOf rfl g13 rfl rfl (Nat.le_of_ble_eq_true rfl) dX11_settle_67 rfl rfl ?_
      refine Rn.aload_n (pc' := 71) dX11_settle_70 rfl 0 rfl rfl ?_
      refine Rn.iload_n (pc' := 72) dX11_settle_71 rfl 1 rfl rfl ?_
      refine Rn.iconst (pc' := 73) (v := (2 : Int32)) (hv := by decide) dX11_settle_72 rfl ?_
      obtain ⟨g17, E⟩ := gd_of E
      obtain ⟨v18, h19, e20, E⟩ := bI_of E
      refine Rn.callV1 (pc' := 76) (As := [.int x1, .int (2 : Int32)]) (rest := [.int v14]) (f_Model_ofDebt_ok hst e20) (Nat.le_trans (by decide) hd) rfl kb_X11_359 ki_X11_ofDebt rfl g17 rfl rfl (Nat.le_of_ble_eq_true rfl) dX11_settle_73 rfl rfl ?_
      refine Rn.iload (pc' := 78) dX11_settle_76 4 rfl rfl ?_
      refine Rn.isub (pc' := 79) dX11_settle_78 rfl ?_
      obtain ⟨v21, h22, e23, E⟩ := bI_of E
      refine Rn.callS1 (pc' := 82) (As := [.int v14, .int (v18 - x4)]) (rest := []) (f_Math_min_ok hst e23) (Nat.le_trans (by decide) hd) rfl kb_X11_63 ks_J9_min_7cf53 rfl rfl (Nat.le_of_ble_eq_true rfl) dX11_settle_79 rfl rfl ?_
      refine Rn.aload_n (pc' := 83) dX11_settle_82 rfl 0 rfl rfl ?_
      refine Rn.iload_n (pc' := 84) dX11_settle_83 rfl 2 rfl rfl ?_
      refine Rn.iconst (pc' := 85) (v := (0 : Int32)) (hv := by decide) dX11_settle_84 rfl ?_
      obtain ⟨g24, E⟩ := gd_of E
      obtain ⟨v25, h26, e27, E⟩ := bI_of E
      refine Rn.callV1 (pc' := 88) (As := [.int x2, .int (0 : Int32)]) (rest := [.int v21]) (f_Model_ofCistern_ok hst e27) (Nat.le_trans (by decide) hd) rfl kb_X11_69 ki_X11_ofCistern rfl g24 rfl rfl (Nat.le_of_ble_eq_true rfl) dX11_settle_85 rfl rfl ?_
      refine Rn.aload_n (pc' := 89) dX11_settle_88 rfl 0 rfl rfl ?_
      refine Rn.iload_n (pc' := 90) dX11_settle_89 rfl 2 rfl rfl ?_
      obtain ⟨g28, E⟩ := gd_of E
      obtain ⟨v29, h30, e31, E⟩ := bI_of E
      refine Rn.callV1 (pc' := 93) (As := [.int x2]) (rest := [.int v25, .int v21]) (f_Model_measures_ok hst e31) (Nat.le_trans (by decide) hd) rfl kb_X11_75 ki_X11_measures rfl g28 rfl rfl (Nat.le_of_ble_eq_true rfl) dX11_settle_90 rfl rfl ?_
      refine Rn.isub (pc' := 94) dX11_settle_93 rfl ?_
      obtain ⟨v32, h33, e34, E⟩ := bI_of E
      refine Rn.callS1 (pc' := 97) (As := [.int v21, .int (v25 - v29)]) (rest := []) (f_Math_min_ok hst e34) (Nat.le_trans (by decide) hd) rfl kb_X11_63 ks_J9_min_7cf53 rfl rfl (Nat.le_of_ble_eq_true rfl) dX11_settle_94 rfl rfl ?_
      refine Rn.istore (pc' := 99) (L' := [(6, .int v32), (0, .ref x0), (1, .int x1), (2, .int x2), (3, .int x3), (4, .int x4), (5, .int x5)]) dX11_settle_97 (by decide) rfl rfl ?_
      refine Rn.aload_n (pc' := 100) dX11_settle_99 rfl 1 rfl rfl ?_
      refine Rn.iload (pc' := 102) dX11_settle_100 6 rfl rfl ?_
      refine Rn.iload_n (pc' := 103) dX11_settle_102 rfl 4 rfl rfl ?_
      refine Rn.iload (pc' := 105) dX11_settle_103 0 rfl rfl ?_
      refine Rn.ineg (pc' := 106) dX11_settle_105 rfl ?_
      obtain ⟨g35, E⟩ := gd_of E
      obtain ⟨h37, e38, E⟩ := bV_of E
      refine Rn.callV1 (pc' := 109) (As := [.int x5, .int x3, .int (-v32)]) (rest := []) (f_Model_adds_ok hst e38) (Nat.le_trans (by decide) hd) rfl kb_X11_82 ki_X11_adds rfl g35 rfl rfl (Nat.le_of_ble_eq_true rfl) dX11_settle_106 rfl rfl ?_
      refine Rn.aload_n (pc' := 110) dX11_settle_109 rfl 1 rfl rfl ?_
      refine Rn.iload_n (pc' := 111) dX11_settle_110 rfl 3 rfl rfl ?_
      refine Rn.iload_n (pc' := 112) dX11_settle_111 rfl 4 rfl rfl ?_
      refine Rn.iload (pc' := 114) dX11_settle_112 0 rfl rfl ?_
      obtain ⟨g39, E⟩ := gd_of E
      obtain ⟨h41, e42, E⟩ := bV_of E
      refine Rn.callV1 (pc' := 117) (As := [.int x2, .int x3, .int v32]) (rest := []) (f_Model_adds_ok hst e42) (Nat.le_trans (by decide) hd) rfl kb_X11_82 ki_X11_adds rfl g39 rfl rfl (Nat.le_of_ble_eq_true rfl) dX11_settle_114 rfl rfl ?_
      refine Rn.iload (pc' := 119) dX11_settle_117 5 rfl rfl ?_
      refine Rn.iload (pc' := 121) dX11_settle_119 0 rfl rfl ?_
      refine Rn.iadd (pc' := 122) dX11_settle_121 rfl ?_
      refine Rn.istore (pc' := 124) (L' := [(4, .int (x4 + v32)), (6, .int v32), (0, .ref x0), (1, .int x1), (2, .int x2), (3, .int x3), (5, .int x5)]) dX11_settle_122 (by decide) rfl rfl ?_
      refine Rn.sub [2, 3, 4, 5, 0, 6] rfl ?_
      exact f_Model_settle_b124_ok hst hd  hk45 E
    · replace E := (if_of E).1 c12
      refine Rn.goto (pc' := 124) dX11_settle_60 (by decide) ?_
      exact f_Model_settle_b124_ok hst hd  hk45 E
def f_Model_settle_L45   (n : Nat) : Hp → Nat → Int32 → Int32 → Int32 → Int32 → Int32 → Option (Int32 × Hp) := Nat.rec (motive := fun _ => Hp → Nat → Int32 → Int32 → Int32 → Int32 → Int32 → Option (Int32 × Hp)) (fun _ _ _ _ _ _ _ => none) (fun _ rec => f_Model_settle_b45   rec) n
theorem f_Model_settle_L45_ok {l : Launch} {X : Nat × (Nat → Int32)} (hst : l.stackTraces = false) {d : Nat} (hd : 3 ≤ d)     : ∀ (n : Nat) (h : Hp) (x0 : Nat) (x1 : Int32) (x2 : Int32) (x3 : Int32) (x4 : Int32) (x5 : Int32)  (r : Int32 × Hp), f_Model_settle_L45   n h x0 x1 x2 x3 x4 x5 = some r → Rn l X mX11_settle d 45 [(0, .ref x0), (1, .int x1), (2, .int x2), (3, .int x3), (4, .int x4), (5, .int x5)] [] h (eI r) r.2 := by
  intro n
  induction n with
  | zero => intro h x0 x1 x2 x3 x4 x5 r E; cases E
  | succ n ih => intro h x0 x1 x2 x3 x4 x5 r E; exact f_Model_settle_b45_ok hst hd   ih E
theorem kb_X11_356 : KB RX11 356 yX11_noDebt mX11_noDebt 1 := ⟨gw_at 1906 (by decide +kernel) (by decide +kernel), gw_at 117 (by decide +kernel) (by decide +kernel), trivial, ws_X11_noDebt, by decide +kernel, by decide +kernel, by decide +kernel, by decide⟩
theorem ki_X11_noDebt : Cond.instanceMethod yX11_noDebt ∈ gw ∧ Cond.selects yX11_noDebt.cls yX11_noDebt yX11_noDebt ∈ gw := ⟨gw_at 1908 (by decide +kernel) (by decide +kernel), gw_at 103 (by decide +kernel) (by decide +kernel)⟩
def f_Model_settle_b0   (h : Hp) (x0 : Nat) (x1 : Int32)  : Option (Int32 × Hp) :=
if hS h x0 = 11 then (
wr (sI h x0 0 (0 : Int32)) fun h2 =>
bI (f_Model_noDebt h2 x0 x1) fun v4 h5 =>
if hS h5 x0 = 11 then (
bI (f_Model_throwsIf h5 x0 v4 (1 : Int32)) fun v8 h9 =>
if v8 = 0 then (
if hS h9 x0 = 11 then (
bI (f_Model_ofDebt h9 x0 x1 (0 : Int32)) fun v13 h14 =>
if hS h14 x0 = 11 then (
bI (f_Model_ofHouse h14 x0 v13 (1 : Int32)) fun v17 h18 =>
if hS h18 x0 = 11 then (
bI (f_Model_ofDebt h18 x0 x1 (1 : Int32)) fun v21 h22 =>
f_Model_settle_L45   FU h22 x0 x1 v17 v21 (0 : Int32) (0 : Int32)
) else none) else none) else none
) else (
some ((0 : Int32), h9)

)
) else none) else none
set_option maxRecDepth 20000 in
set_option maxHeartbeats 4000000 in
theorem f_Model_settle_b0_ok {l : Launch} {X : Nat × (Nat → Int32)} (hst : l.stackTraces = false) {d : Nat} (hd : 3 ≤ d)     {h : Hp} {x0 : Nat} {x1 : Int32}  {r : Int32 × Hp} (E : f_Model_settle_b0   h x0 x1 = some r) : Rn l X mX11_settle d 0 [(0, .ref x0), (1, .int x1)] [] h (eI r) r.2 := by
  unfold f_Model_settle_b0 at E
  refine Rn.aload_n (pc' := 1) dX11_settle_0 rfl 0 rfl rfl ?_
  refine Rn.iconst (pc' := 2) (v := (0 : Int32)) (hv := by decide) dX11_settle_1 rfl ?_
  obtain ⟨g1, E⟩ := gd_of E
  refine Rn.putI (pc' := 5) fl_X11_3_10 (fun q hq => by cases hq; decide) g1 rfl rfl rfl dX11_settle_2 rfl ?_
  replace E := wr_of E
  generalize eh3 : sI h x0 0 (0 : Int32) = h2 at E ⊢
  refine Rn.aload_n (pc' := 6) dX11_settle_5 rfl 0 rfl rfl ?_
  refine Rn.aload_n (pc' := 7) dX11_settle_6 rfl 0 rfl rfl ?_
  refine Rn.iload_n (pc' := 8) dX11_settle_7 rfl 1 rfl rfl ?_
  obtain ⟨v4, h5, e6, E⟩ := bI_of E
  refine Rn.callV1 (pc' := 11) (As := [.int x1]) (rest := [.ref x0]) (f_Model_noDebt_ok hst e6) (Nat.le_trans (by decide) hd) rfl kb_X11_356 ki_X11_noDebt rfl (kp_sI eh3 g1) rfl rfl (Nat.le_of_ble_eq_true rfl) dX11_settle_8 rfl rfl ?_
  refine Rn.iconst (pc' := 12) (v := (1 : Int32)) (hv := by decide) dX11_settle_11 rfl ?_
  obtain ⟨g7, E⟩ := gd_of E
  obtain ⟨v8, h9, e10, E⟩ := bI_of E
  refine Rn.callV1 (pc' := 15) (As := [.int v4, .int (1 : Int32)]) (rest := []) (f_Model_throwsIf_ok hst e10) (Nat.le_trans (by decide) hd) rfl kb_X11_265 ki_X11_throwsIf rfl g7 rfl rfl (Nat.le_of_ble_eq_true rfl) dX11_settle_12 rfl rfl ?_
  refine Rn.if_eq (pc' := 18) (tgt := 20) dX11_settle_15 (by decide) rfl (fun c11 => ?_) (fun c11 => ?_)
  · replace E := (if_of E).1 c11
    refine Rn.aload_n (pc' := 21) dX11_settle_20 rfl 0 rfl rfl ?_
    refine Rn.aload_n (pc' := 22) dX11_settle_21 rfl 0 rfl rfl ?_
    refine Rn.iload_n (pc' := 23) dX11_settle_22 rfl 1 rfl rfl ?_
    refine Rn.iconst (pc' := 24) (v := (0 : Int32)) (hv := by decide) dX11_settle_23 rfl ?_
    obtain ⟨g12, E⟩ := gd_of E
    obtain ⟨v13, h14, e15, E⟩ := bI_of E
    refine Rn.callV1 (pc' := 27) (As := [.int x1, .int (0 : Int32)]) (rest := [.ref x0]) (f_Model_ofDebt_ok hst e15) (Nat.le_trans (by decide) hd) rfl kb_X11_359 ki_X11_ofDebt rfl g12 rfl rfl (Nat.le_of_ble_eq_true rfl) dX11_settle_24 rfl rfl ?_
    refine Rn.iconst (pc' := 28) (v := (1 : Int32)) (hv := by decide) dX11_settle_27 rfl ?_
    obtain ⟨g16, E⟩ := gd_of E
    obtain ⟨v17, h18, e19, E⟩ := bI_of E
    refine Rn.callV1 (pc' := 31) (As := [.int v13, .int (1 : Int32)]) (rest := []) (f_Model_ofHouse_ok hst e19) (Nat.le_trans (by decide) hd) rfl kb_X11_151 ki_X11_ofHouse rfl g16 rfl rfl (Nat.le_of_ble_eq_true rfl) dX11_settle_28 rfl rfl ?_
    refine Rn.istore_n (pc' := 32) (L' := [(2, .int v17), (0, .ref x0), (1, .int x1)]) dX11_settle_31 rfl (by decide) rfl rfl ?_
    refine Rn.aload_n (pc' := 33) dX11_settle_32 rfl 1 rfl rfl ?_
    refine Rn.iload_n (pc' := 34) dX11_settle_33 rfl 2 rfl rfl ?_
    refine Rn.iconst (pc' := 35) (v := (1 : Int32)) (hv := by decide) dX11_settle_34 rfl ?_
    obtain ⟨g20, E⟩ := gd_of E
    obtain ⟨v21, h22, e23, E⟩ := bI_of E
    refine Rn.callV1 (pc' := 38) (As := [.int x1, .int (1 : Int32)]) (rest := []) (f_Model_ofDebt_ok hst e23) (Nat.le_trans (by decide) hd) rfl kb_X11_359 ki_X11_ofDebt rfl g20 rfl rfl (Nat.le_of_ble_eq_true rfl) dX11_settle_35 rfl rfl ?_
    refine Rn.istore_n (pc' := 39) (L' := [(3, .int v21), (2, .int v17), (0, .ref x0), (1, .int x1)]) dX11_settle_38 rfl (by decide) rfl rfl ?_
    refine Rn.iconst (pc' := 40) (v := (0 : Int32)) (hv := by decide) dX11_settle_39 rfl ?_
    refine Rn.istore (pc' := 42) (L' := [(4, .int (0 : Int32)), (3, .int v21), (2, .int v17), (0, .ref x0), (1, .int x1)]) dX11_settle_40 (by decide) rfl rfl ?_
    refine Rn.iconst (pc' := 43) (v := (0 : Int32)) (hv := by decide) dX11_settle_42 rfl ?_
    refine Rn.istore (pc' := 45) (L' := [(5, .int (0 : Int32)), (4, .int (0 : Int32)), (3, .int v21), (2, .int v17), (0, .ref x0), (1, .int x1)]) dX11_settle_43 (by decide) rfl rfl ?_
    refine Rn.sub [4, 5, 3, 2, 1, 0] rfl ?_
    exact f_Model_settle_L45_ok hst hd   FU _ _ _ _ _ _ _ _ E
  · replace E := (if_of E).2 c11
    refine Rn.iconst (pc' := 19) (v := (0 : Int32)) (hv := by decide) dX11_settle_18 rfl ?_
    cases E
    exact Rn.zret rfl rfl dX11_settle_19
def f_Model_settle (h : Hp) (x0 : Nat) (x1 : Int32) : Option (Int32 × Hp) := f_Model_settle_b0  h x0 x1
theorem f_Model_settle_ok {l : Launch} {X : Nat × (Nat → Int32)} (hst : l.stackTraces = false) {h : Hp} {x0 : Nat} {x1 : Int32} {r : Int32 × Hp} (E : f_Model_settle h x0 x1 = some r) : MC l X yX11_settle mX11_settle 3 [.ref x0, .int x1] h (eI r) r.2 :=
  MC.body (by decide +kernel) rfl (by decide) hst (Nat.le_of_ble_eq_true rfl) (f_Model_settle_b0_ok hst (Nat.le_refl _) E)
