/-! ===== length() and charAt(k) of String constants (wip/whole/gen/strm.py) ===== -/
abbrev mJ0_coder_7d493 : MI := (RJ0, cJ0_coder_7d493, 1, (some Jvm.ClassFile.FieldType.byte), [], false)
theorem ws_J0_coder_7d493 : ∀ w ∈ wsM yJ0_coder_7d493 mJ0_coder_7d493, w ∈ gw := List.forall_mem_cons.mpr ⟨gw_at 769 (by decide +kernel) (by decide +kernel), fun _ h => h⟩
abbrev mJ0_isLatin1_aae02 : MI := (RJ0, cJ0_isLatin1_aae02, 1, (some Jvm.ClassFile.FieldType.boolean), [], false)
theorem ws_J0_isLatin1_aae02 : ∀ w ∈ wsM yJ0_isLatin1_aae02 mJ0_isLatin1_aae02, w ∈ gw := List.forall_mem_cons.mpr ⟨gw_at 779 (by decide +kernel) (by decide +kernel), fun _ h => h⟩
abbrev mJ0_length_8abf5 : MI := (RJ0, cJ0_length_8abf5, 1, (some Jvm.ClassFile.FieldType.int), [], false)
theorem ws_J0_length_8abf5 : ∀ w ∈ wsM yJ0_length_8abf5 mJ0_length_8abf5, w ∈ gw := List.forall_mem_cons.mpr ⟨gw_at 765 (by decide +kernel) (by decide +kernel), fun _ h => h⟩
abbrev mJ3_checkIndex_8e157 : MI := (RJ3, cJ3_checkIndex_8e157, 3, (some Jvm.ClassFile.FieldType.int), [], false)
theorem ws_J3_checkIndex_8e157 : ∀ w ∈ wsM yJ3_checkIndex_8e157 mJ3_checkIndex_8e157, w ∈ gw := List.forall_mem_cons.mpr ⟨gw_at 790 (by decide +kernel) (by decide +kernel), fun _ h => h⟩
abbrev mJ0_checkIndex_df160 : MI := (RJ0, cJ0_checkIndex_df160, 2, none, [], false)
theorem ws_J0_checkIndex_df160 : ∀ w ∈ wsM yJ0_checkIndex_df160 mJ0_checkIndex_df160, w ∈ gw := List.forall_mem_cons.mpr ⟨gw_at 785 (by decide +kernel) (by decide +kernel), fun _ h => h⟩
abbrev mJ1_charAt_3b067 : MI := (RJ1, cJ1_charAt_3b067, 2, (some Jvm.ClassFile.FieldType.char), [], false)
theorem ws_J1_charAt_3b067 : ∀ w ∈ wsM yJ1_charAt_3b067 mJ1_charAt_3b067, w ∈ gw := List.forall_mem_cons.mpr ⟨gw_at 782 (by decide +kernel) (by decide +kernel), fun _ h => h⟩
abbrev mJ0_charAt_5068e : MI := (RJ0, cJ0_charAt_5068e, 2, (some Jvm.ClassFile.FieldType.char), [], false)
theorem ws_J0_charAt_5068e : ∀ w ∈ wsM yJ0_charAt_5068e mJ0_charAt_5068e, w ∈ gw := List.forall_mem_cons.mpr ⟨gw_at 775 (by decide +kernel) (by decide +kernel), fun _ h => h⟩
theorem kb_J0_335 : KB RJ0 335 yJ0_coder_7d493 mJ0_coder_7d493 0 := ⟨gw_at 766 (by decide +kernel) (by decide +kernel), gw_at 118 (by decide +kernel) (by decide +kernel), trivial, ws_J0_coder_7d493, by decide +kernel, by decide +kernel, by decide +kernel, by decide⟩
theorem ki_J0_coder_7d493 : Cond.instanceMethod yJ0_coder_7d493 ∈ gw ∧ Cond.selects yJ0_coder_7d493.cls yJ0_coder_7d493 yJ0_coder_7d493 ∈ gw := ⟨gw_at 767 (by decide +kernel) (by decide +kernel), gw_at 768 (by decide +kernel) (by decide +kernel)⟩
theorem kb_J0_492 : KB RJ0 492 yJ0_isLatin1_aae02 mJ0_isLatin1_aae02 0 := ⟨gw_at 776 (by decide +kernel) (by decide +kernel), gw_at 118 (by decide +kernel) (by decide +kernel), trivial, ws_J0_isLatin1_aae02, by decide +kernel, by decide +kernel, by decide +kernel, by decide⟩
theorem ki_J0_isLatin1_aae02 : Cond.instanceMethod yJ0_isLatin1_aae02 ∈ gw ∧ Cond.selects yJ0_isLatin1_aae02.cls yJ0_isLatin1_aae02 yJ0_isLatin1_aae02 ∈ gw := ⟨gw_at 777 (by decide +kernel) (by decide +kernel), gw_at 778 (by decide +kernel) (by decide +kernel)⟩
theorem kb_J0_495 : KB RJ0 495 yJ1_charAt_3b067 mJ1_charAt_3b067 2 := ⟨gw_at 780 (by decide +kernel) (by decide +kernel), gw_at 119 (by decide +kernel) (by decide +kernel), trivial, ws_J1_charAt_3b067, by decide +kernel, by decide +kernel, by decide +kernel, by decide⟩
theorem ks_J1_charAt_3b067 : Cond.static yJ1_charAt_3b067 ∈ gw := gw_at 781 (by decide +kernel) (by decide +kernel)
theorem kb_J1_9 : KB RJ1 9 yJ0_checkIndex_df160 mJ0_checkIndex_df160 2 := ⟨gw_at 783 (by decide +kernel) (by decide +kernel), gw_at 118 (by decide +kernel) (by decide +kernel), trivial, ws_J0_checkIndex_df160, by decide +kernel, by decide +kernel, by decide +kernel, by decide⟩
theorem ks_J0_checkIndex_df160 : Cond.static yJ0_checkIndex_df160 ∈ gw := gw_at 784 (by decide +kernel) (by decide +kernel)
theorem kb_J0_1059 : KB RJ0 1059 yJ3_checkIndex_8e157 mJ3_checkIndex_8e157 3 := ⟨gw_at 788 (by decide +kernel) (by decide +kernel), gw_at 120 (by decide +kernel) (by decide +kernel), trivial, ws_J3_checkIndex_8e157, by decide +kernel, by decide +kernel, by decide +kernel, by decide⟩
theorem ks_J3_checkIndex_8e157 : Cond.static yJ3_checkIndex_8e157 ∈ gw := gw_at 789 (by decide +kernel) (by decide +kernel)
theorem ki_J0_length_8abf5 : Cond.instanceMethod yJ0_length_8abf5 ∈ gw ∧ Cond.selects yJ0_length_8abf5.cls yJ0_length_8abf5 yJ0_length_8abf5 ∈ gw := ⟨gw_at 763 (by decide +kernel) (by decide +kernel), gw_at 764 (by decide +kernel) (by decide +kernel)⟩
theorem ki_J0_charAt_5068e : Cond.instanceMethod yJ0_charAt_5068e ∈ gw ∧ Cond.selects yJ0_charAt_5068e.cls yJ0_charAt_5068e yJ0_charAt_5068e ∈ gw := ⟨gw_at 773 (by decide +kernel) (by decide +kernel), gw_at 774 (by decide +kernel) (by decide +kernel)⟩
theorem kf_com : Cond.fieldLink RJ0 38 "java/lang/String" "COMPACT_STRINGS" "Z" ∈ gw := gw_at 770 (by decide +kernel) (by decide +kernel)
theorem kf_val : Cond.fieldLink RJ0 9 "java/lang/String" "value" "[B" ∈ gw := gw_at 1961 (by decide +kernel) (by decide +kernel)
theorem kf_cod : Cond.fieldLink RJ0 15 "java/lang/String" "coder" "B" ∈ gw := gw_at 1962 (by decide +kernel) (by decide +kernel)
theorem kf_sio : Cond.fieldLink RJ0 1053 "jdk/internal/util/Preconditions" "SIOOBE_FORMATTER" "Ljava/util/function/BiFunction;" ∈ gw := gw_at 786 (by decide +kernel) (by decide +kernel)
theorem ki_str : Cond.initialized RJ0 ∈ gw := gw_at 118 (by decide +kernel) (by decide +kernel)
theorem jshr_0 (x : Int32) : jshr x 0 = x := sb_shr0 x
theorem sch_ok : ∀ n, n < 128 → (((nI n) &&& 255).toUInt32 % 65536).toInt32 = nI n := by decide +kernel
theorem sch_of {x : Int32} (h0 : 0 ≤ x) (h1 : x ≤ 127) : ((x &&& 255).toUInt32 % 65536).toInt32 = x := by
  obtain ⟨n, hn, rfl⟩ := nI_of2 (x := x) (M := 127) (n := 127) rfl (Int32.not_lt.mpr h0) h1
  exact sch_ok n (by omega)
theorem sbs_at {i j : Nat} (hi : i < 49) (hj : j < (sbs i).length) : 0 ≤ (sbs i).getD j 0 ∧ (sbs i).getD j 0 ≤ 127 := by
  have h1 := List.all_eq_true.mp (sbs_ok i hi).1 _ (List.getElem_mem hj)
  simp only [Bool.and_eq_true, decide_eq_true_eq] at h1
  rw [List.getD_eq_getElem?_getD, List.getElem?_eq_getElem hj]
  exact h1
section DSM
variable {l : Launch} {X : Nat × (Nat → Int32)} {μ μ' : MI} {d d' pc pc' : Nat} {L L' : List (Nat × Value)} {S S' : List Value} {h h' h1 : Hp} {o o1 : Oc} {y : MethodName} {As : List Value}
theorem Rn.i2c {x : Int32} (dg : decode μ.2.1 pc = .ok (.i2c, 1)) (hp : pc + 1 = pc') (k : Rn l X μ d pc' L (.int (x.toUInt32 % 65536).toInt32 :: S) h o h') : Rn l X μ d pc L (.int x :: S) h o h' := by
  subst hp
  exact Rn.lift k fun C hl kk => lv_i2c C.1 C.2.1 dg rfl (kk _ hl)
theorem coder_ok (hst : l.stackTraces = false) {i : Nat} (hi : i < 49) : MC l X yJ0_coder_7d493 mJ0_coder_7d493 0 [.ref (STR + i)] h (.inl (some (.int 0))) h := by
  refine MC.body (by decide +kernel) rfl (by decide) hst (Nat.le_of_ble_eq_true rfl) ?_
  refine Rn.getsC (pc' := 3) kf_com dJ0_coder_7d493_0 rfl ?_
  refine Rn.if_eq (pc' := 6) (tgt := 13) dJ0_coder_7d493_3 (by decide) rfl (fun c => absurd c (by decide)) (fun _ => ?_)
  refine Rn.aload_n (pc' := 7) dJ0_coder_7d493_6 rfl 0 rfl rfl ?_
  refine Rn.scod (pc' := 10) hi kf_cod dJ0_coder_7d493_7 rfl ?_
  refine Rn.goto (pc' := 14) dJ0_coder_7d493_10 (by decide) ?_
  exact Rn.zret rfl rfl dJ0_coder_7d493_14
theorem latin_ok (hst : l.stackTraces = false) {i : Nat} (hi : i < 49) : MC l X yJ0_isLatin1_aae02 mJ0_isLatin1_aae02 0 [.ref (STR + i)] h (.inl (some (.int 1))) h := by
  refine MC.body (by decide +kernel) rfl (by decide) hst (Nat.le_of_ble_eq_true rfl) ?_
  refine Rn.getsC (pc' := 3) kf_com dJ0_isLatin1_aae02_0 rfl ?_
  refine Rn.if_eq (pc' := 6) (tgt := 17) dJ0_isLatin1_aae02_3 (by decide) rfl (fun c => absurd c (by decide)) (fun _ => ?_)
  refine Rn.aload_n (pc' := 7) dJ0_isLatin1_aae02_6 rfl 0 rfl rfl ?_
  refine Rn.scod (pc' := 10) hi kf_cod dJ0_isLatin1_aae02_7 rfl ?_
  refine Rn.if_ne (pc' := 13) (tgt := 17) dJ0_isLatin1_aae02_10 (by decide) rfl (fun c => absurd rfl c) (fun _ => ?_)
  refine Rn.iconst (pc' := 14) (v := 1) (hv := by decide) dJ0_isLatin1_aae02_13 rfl ?_
  refine Rn.goto (pc' := 18) dJ0_isLatin1_aae02_14 (by decide) ?_
  exact Rn.zret rfl rfl dJ0_isLatin1_aae02_18
theorem strlen_ok (hst : l.stackTraces = false) {i : Nat} (hi : i < 49) : MC l X yJ0_length_8abf5 mJ0_length_8abf5 1 [.ref (STR + i)] h (.inl (some (.int (jlen (STR + i))))) h := by
  refine MC.body (by decide +kernel) rfl (by decide) hst (Nat.le_of_ble_eq_true rfl) ?_
  refine Rn.aload_n (pc' := 1) dJ0_length_8abf5_0 rfl 0 rfl rfl ?_
  refine Rn.sfld (pc' := 4) hi kf_val dJ0_length_8abf5_1 rfl ?_
  refine Rn.salen (pc' := 5) hi dJ0_length_8abf5_4 rfl ?_
  refine Rn.aload_n (pc' := 6) dJ0_length_8abf5_5 rfl 0 rfl rfl ?_
  refine Rn.callVS (pc' := 9) (As := []) (rest := [.int (Int32.ofNat (sbs i).length)]) hi (coder_ok hst hi) (Nat.le_refl _) rfl kb_J0_335 ki_J0_coder_7d493 rfl rfl rfl (Nat.le_of_ble_eq_true rfl) dJ0_length_8abf5_6 rfl rfl ?_
  refine Rn.ishr (pc' := 10) dJ0_length_8abf5_9 rfl ?_
  rw [jshr_0]
  have e : jlen (STR + i) = Int32.ofNat (sbs i).length := by unfold jlen stx; rw [Nat.add_sub_cancel_left]
  rw [e]
  exact Rn.zret rfl rfl dJ0_length_8abf5_10
theorem pchk_ok (hst : l.stackTraces = false) {k n : Int32} {r : Nat} (h0 : 0 ≤ k) (hk : k < n) : MC l X yJ3_checkIndex_8e157 mJ3_checkIndex_8e157 0 [.int k, .int n, .ref r] h (.inl (some (.int k))) h := by
  refine MC.body (by decide +kernel) rfl (by decide) hst (Nat.le_of_ble_eq_true rfl) ?_
  refine Rn.iload_n (pc' := 1) dJ3_checkIndex_8e157_0 rfl 0 rfl rfl ?_
  refine Rn.if_lt (pc' := 4) (tgt := 9) dJ3_checkIndex_8e157_1 (by decide) rfl (fun c => absurd c (Int32.not_lt.mpr h0)) (fun _ => ?_)
  refine Rn.iload_n (pc' := 5) dJ3_checkIndex_8e157_4 rfl 0 rfl rfl ?_
  refine Rn.iload_n (pc' := 6) dJ3_checkIndex_8e157_5 rfl 1 rfl rfl ?_
  refine Rn.icmp_lt (pc' := 9) (tgt := 16) dJ3_checkIndex_8e157_6 (by decide) rfl (fun _ => ?_) (fun c => absurd hk c)
  refine Rn.iload_n (pc' := 17) dJ3_checkIndex_8e157_16 rfl 0 rfl rfl ?_
  exact Rn.zret rfl rfl dJ3_checkIndex_8e157_17
theorem chk_ok (hst : l.stackTraces = false) {k n : Int32} (h0 : 0 ≤ k) (hk : k < n) : MC l X yJ0_checkIndex_df160 mJ0_checkIndex_df160 1 [.int k, .int n] h (.inl none) h := by
  refine MC.body (by decide +kernel) rfl (by decide) hst (Nat.le_of_ble_eq_true rfl) ?_
  refine Rn.iload_n (pc' := 1) dJ0_checkIndex_df160_0 rfl 0 rfl rfl ?_
  refine Rn.iload_n (pc' := 2) dJ0_checkIndex_df160_1 rfl 1 rfl rfl ?_
  refine Rn.getsF (pc' := 5) kf_sio dJ0_checkIndex_df160_2 rfl (fun r _ => ?_)
  refine Rn.callS1 (pc' := 8) (As := [.int k, .int n, .ref r]) (rest := []) (pchk_ok hst h0 hk) (Nat.le_refl _) rfl kb_J0_1059 ks_J3_checkIndex_8e157 rfl rfl (Nat.le_of_ble_eq_true rfl) dJ0_checkIndex_df160_5 rfl rfl ?_
  refine Rn.pop (pc' := 9) (hc := rfl) dJ0_checkIndex_df160_8 rfl ?_
  exact Rn.vret rfl dJ0_checkIndex_df160_9
theorem ib_lt {j : Int32} {n : Nat} (hn : n < 1000) (hj : ib j n = true) : 0 ≤ j ∧ j < Int32.ofNat n := by
  obtain ⟨k, hk, rfl⟩ := vp_in_of (ib_in hj) (by omega)
  exact ⟨nI_pos' (by omega), nI_lt hk (by omega)⟩
theorem lat_ok (hst : l.stackTraces = false) {i : Nat} {k : Int32} (hi : i < 49) (hk : ib k (sbs i).length = true) : MC l X yJ1_charAt_3b067 mJ1_charAt_3b067 2 [.ref (VAL + i), .int k] h (.inl (some (.int ((sbs i).getD (ix k) 0)))) h := by
  obtain ⟨g0, g1⟩ := ib_lt (sbs_ok i hi).2 hk
  have hin := ib_in hk
  have hlt : ix k < (sbs i).length := Nat.not_le.mp fun q => hin (Or.inr q)
  obtain ⟨s0, s1⟩ := sbs_at hi hlt
  refine MC.body (by decide +kernel) rfl (by decide) hst (Nat.le_of_ble_eq_true rfl) ?_
  refine Rn.iload_n (pc' := 1) dJ1_charAt_3b067_0 rfl 1 rfl rfl ?_
  refine Rn.aload_n (pc' := 2) dJ1_charAt_3b067_1 rfl 0 rfl rfl ?_
  refine Rn.salen (pc' := 3) hi dJ1_charAt_3b067_2 rfl ?_
  refine Rn.callS1 (pc' := 6) (As := [.int k, .int (Int32.ofNat (sbs i).length)]) (rest := []) (chk_ok hst g0 g1) (Nat.le_refl _) rfl kb_J1_9 ks_J0_checkIndex_df160 rfl rfl (Nat.le_of_ble_eq_true rfl) dJ1_charAt_3b067_3 rfl rfl ?_
  refine Rn.aload_n (pc' := 7) dJ1_charAt_3b067_6 rfl 0 rfl rfl ?_
  refine Rn.iload_n (pc' := 8) dJ1_charAt_3b067_7 rfl 1 rfl rfl ?_
  refine Rn.sbal (pc' := 9) hi hk dJ1_charAt_3b067_8 rfl ?_
  refine Rn.sipush (pc' := 12) (v := 255) (hv := by decide) dJ1_charAt_3b067_9 rfl ?_
  refine Rn.iand (pc' := 13) dJ1_charAt_3b067_12 rfl ?_
  refine Rn.i2c (pc' := 14) dJ1_charAt_3b067_13 rfl ?_
  rw [sch_of s0 s1]
  refine Rn.zret rfl ?_ dJ1_charAt_3b067_14
  rw [← sch_of s0 s1]
  exact pk_nc _
theorem strch_ok (hst : l.stackTraces = false) {i : Nat} {k : Int32} (hi : i < 49) (hk : ib k (sbs i).length = true) : MC l X yJ0_charAt_5068e mJ0_charAt_5068e 3 [.ref (STR + i), .int k] h (.inl (some (.int (jch (STR + i) k)))) h := by
  have hin := ib_in hk
  have hlt : ix k < (sbs i).length := Nat.not_le.mp fun q => hin (Or.inr q)
  obtain ⟨s0, s1⟩ := sbs_at hi hlt
  refine MC.body (by decide +kernel) rfl (by decide) hst (Nat.le_of_ble_eq_true rfl) ?_
  refine Rn.aload_n (pc' := 1) dJ0_charAt_5068e_0 rfl 0 rfl rfl ?_
  refine Rn.callVS (pc' := 4) (As := []) (rest := []) hi (latin_ok hst hi) (by omega) rfl kb_J0_492 ki_J0_isLatin1_aae02 rfl rfl rfl (Nat.le_of_ble_eq_true rfl) dJ0_charAt_5068e_1 rfl rfl ?_
  refine Rn.if_eq (pc' := 7) (tgt := 16) dJ0_charAt_5068e_4 (by decide) rfl (fun c => absurd c (by decide)) (fun _ => ?_)
  refine Rn.aload_n (pc' := 8) dJ0_charAt_5068e_7 rfl 0 rfl rfl ?_
  refine Rn.sfld (pc' := 11) hi kf_val dJ0_charAt_5068e_8 rfl ?_
  refine Rn.iload_n (pc' := 12) dJ0_charAt_5068e_11 rfl 1 rfl rfl ?_
  refine Rn.callS1 (pc' := 15) (As := [.ref (VAL + i), .int k]) (rest := []) (lat_ok hst hi hk) (Nat.le_refl _) rfl kb_J0_495 ks_J1_charAt_3b067 rfl rfl (Nat.le_of_ble_eq_true rfl) dJ0_charAt_5068e_12 rfl rfl ?_
  have e : jch (STR + i) k = (sbs i).getD (ix k) 0 := by unfold jch stx; rw [Nat.add_sub_cancel_left]
  rw [e]
  refine Rn.zret rfl ?_ dJ0_charAt_5068e_15
  rw [← sch_of s0 s1]
  exact pk_nc _
theorem Rn.strlen {idx e : Nat} (he : jst e) (hst : l.stackTraces = false) (hd : 2 ≤ d) (hlk : Cond.methodLink μ.1 idx yJ0_length_8abf5 ∈ gw) (dg : decode μ.2.1 pc = .ok (.invokevirtual idx, 3)) (hw : (S.map fun v => v.category).sum ≤ 8) (hp : pc + 3 = pc') (kk : Rn l X μ d pc' L (.int (jlen e) :: S) h o h') : Rn l X μ d pc L (.ref e :: S) h o h' := by
  obtain ⟨h0, h9⟩ := he
  obtain ⟨i, rfl⟩ : ∃ i, e = STR + i := ⟨e - STR, by omega⟩
  have hi : i < 49 := by omega
  exact Rn.callVS (As := []) (rest := S) (n := 0) hi (strlen_ok hst hi) hd rfl ⟨hlk, ki_str, trivial, ws_J0_length_8abf5, by decide +kernel, by decide +kernel, by decide +kernel, by decide⟩ ki_J0_length_8abf5 rfl rfl rfl hw dg hp rfl kk
theorem Rn.strch {idx e : Nat} {k : Int32} (he : jst e) (hk : ib k (stx e).length = true) (hst : l.stackTraces = false) (hd : 4 ≤ d) (hlk : Cond.methodLink μ.1 idx yJ0_charAt_5068e ∈ gw) (dg : decode μ.2.1 pc = .ok (.invokevirtual idx, 3)) (hw : (S.map fun v => v.category).sum ≤ 8) (hp : pc + 3 = pc') (kk : Rn l X μ d pc' L (.int (jch e k) :: S) h o h') : Rn l X μ d pc L (.int k :: .ref e :: S) h o h' := by
  obtain ⟨h0, h9⟩ := he
  obtain ⟨i, rfl⟩ : ∃ i, e = STR + i := ⟨e - STR, by omega⟩
  have hi : i < 49 := by omega
  have hk2 : ib k (sbs i).length = true := by unfold stx at hk; rwa [Nat.add_sub_cancel_left] at hk
  exact Rn.callVS (As := [.int k]) (rest := S) (n := 1) hi (strch_ok hst hi hk2) hd rfl ⟨hlk, ki_str, trivial, ws_J0_charAt_5068e, by decide +kernel, by decide +kernel, by decide +kernel, by decide⟩ ki_J0_charAt_5068e rfl rfl rfl hw dg hp rfl kk
theorem Rn.sldE {a : Nat} {i : Int32} (ha : a = SCR) (hi : ib i X.1 = true) (dg : decode μ.2.1 pc = .ok (.iaload, 1)) (hp : pc + 1 = pc') (kk : Rn l X μ d pc' L (.int (X.2 (ix i)) :: S) h o h') : Rn l X μ d pc L (.int i :: .ref a :: S) h o h' := by
  subst ha
  exact Rn.sld hi dg hp kk
theorem Rn.slenE {a : Nat} (ha : a = SCR) (dg : decode μ.2.1 pc = .ok (.arraylength, 1)) (hp : pc + 1 = pc') (kk : Rn l X μ d pc' L (.int (Int32.ofNat X.1) :: S) h o h') : Rn l X μ d pc L (.ref a :: S) h o h' := by
  subst ha
  exact Rn.slen dg hp kk
end DSM
