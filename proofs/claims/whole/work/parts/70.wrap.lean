/-! ===== what wraps the calls (wip/whole/gen/gwrap.py) ===== -/
section WRP
variable {H H1 : Hp} {v : Int32}
theorem lw_latest {p1 p2 : Int32} (t : TS H) (t1 : TS H1) (e : f_Water_latest H 1 p1 p2 = some (.inl v, H1)) : f_Lw_latest H 1 p1 p2 765 = some (0, sJ H1 765 0 (Int32.toInt64 v)) := by
  have w1 := t.td.2.1.1
  obtain ⟨j1, j2⟩ := t1.j22
  unfold f_Lw_latest f_Lw_latest_b0
  rw [if_pos w1, e]
  show (if hS H1 765 = 22 then (if ib (0 : Int32) (hL H1 765) = true then wr (sJ H1 765 (ix (0 : Int32)) (Int32.toInt64 v)) fun h7 => some ((0 : Int32), h7) else none) else none) = _
  rw [if_pos j1, j2, if_pos (ib_z (by decide)), ix_0]
  rfl
theorem lw_latest_1 {p1 p2 : Int32} (t : TS H) (e : f_Water_latest H 1 p1 p2 = some (.inr 1, H1)) : f_Lw_latest H 1 p1 p2 765 = some (1, H1) := by
  have w1 := t.td.2.1.1
  unfold f_Lw_latest f_Lw_latest_b0
  rw [if_pos w1, e]
  rfl
theorem lw_enough {p1 p2 : Int32} (t : TS H) (t1 : TS H1) (e : f_Water_enough H 1 p1 p2 = some (.inl v, H1)) : f_Lw_enough H 1 p1 p2 765 = some (0, sJ H1 765 0 (Int32.toInt64 v)) := by
  have w1 := t.td.2.1.1
  obtain ⟨j1, j2⟩ := t1.j22
  unfold f_Lw_enough f_Lw_enough_b0
  rw [if_pos w1, e]
  show (if hS H1 765 = 22 then (if ib (0 : Int32) (hL H1 765) = true then wr (sJ H1 765 (ix (0 : Int32)) (Int32.toInt64 v)) fun h7 => some ((0 : Int32), h7) else none) else none) = _
  rw [if_pos j1, j2, if_pos (ib_z (by decide)), ix_0]
  rfl
theorem lw_enough_2 {p1 p2 : Int32} (t : TS H) (e : f_Water_enough H 1 p1 p2 = some (.inr 2, H1)) : f_Lw_enough H 1 p1 p2 765 = some (1, H1) := by
  have w1 := t.td.2.1.1
  unfold f_Lw_enough f_Lw_enough_b0
  rw [if_pos w1, e]
  rfl
theorem lw_mix {p1 p2 p3 : Int32} (t : TS H) (t1 : TS H1) (e : f_Water_mix H 1 p1 p2 p3 = some (.inl v, H1)) : f_Lw_mix H 1 p1 p2 p3 765 = some (0, sJ H1 765 0 (Int32.toInt64 v)) := by
  have w1 := t.td.2.1.1
  obtain ⟨j1, j2⟩ := t1.j22
  unfold f_Lw_mix f_Lw_mix_b0
  rw [if_pos w1, e]
  show (if hS H1 765 = 22 then (if ib (0 : Int32) (hL H1 765) = true then wr (sJ H1 765 (ix (0 : Int32)) (Int32.toInt64 v)) fun h7 => some ((0 : Int32), h7) else none) else none) = _
  rw [if_pos j1, j2, if_pos (ib_z (by decide)), ix_0]
  rfl
theorem lw_mix_1 {p1 p2 p3 : Int32} (t : TS H) (e : f_Water_mix H 1 p1 p2 p3 = some (.inr 1, H1)) : f_Lw_mix H 1 p1 p2 p3 765 = some (1, H1) := by
  have w1 := t.td.2.1.1
  unfold f_Lw_mix f_Lw_mix_b0
  rw [if_pos w1, e]
  rfl
theorem lw_mix_2 {p1 p2 p3 : Int32} (t : TS H) (e : f_Water_mix H 1 p1 p2 p3 = some (.inr 2, H1)) : f_Lw_mix H 1 p1 p2 p3 765 = some (2, H1) := by
  have w1 := t.td.2.1.1
  unfold f_Lw_mix f_Lw_mix_b0
  rw [if_pos w1, e]
  rfl
theorem lw_settle {p1 : Int32} (t : TS H) (t1 : TS H1) (e : f_Water_settle H 1 p1 = some (.inl v, H1)) : f_Lw_settle H 1 p1 765 = some (0, sJ H1 765 0 (Int32.toInt64 v)) := by
  have w1 := t.td.2.1.1
  obtain ⟨j1, j2⟩ := t1.j22
  unfold f_Lw_settle f_Lw_settle_b0
  rw [if_pos w1, e]
  show (if hS H1 765 = 22 then (if ib (0 : Int32) (hL H1 765) = true then wr (sJ H1 765 (ix (0 : Int32)) (Int32.toInt64 v)) fun h7 => some ((0 : Int32), h7) else none) else none) = _
  rw [if_pos j1, j2, if_pos (ib_z (by decide)), ix_0]
  rfl
theorem lw_settle_1 {p1 : Int32} (t : TS H) (e : f_Water_settle H 1 p1 = some (.inr 1, H1)) : f_Lw_settle H 1 p1 765 = some (1, H1) := by
  have w1 := t.td.2.1.1
  unfold f_Lw_settle f_Lw_settle_b0
  rw [if_pos w1, e]
  rfl
theorem lw_debt {p1 : Int32} (t : TS H) (t1 : TS H1) (e : f_Water_debt H 1 p1 = some (.inl v, H1)) : f_Lw_debt H 1 p1 765 = some (0, sJ H1 765 0 (Int32.toInt64 v)) := by
  have w1 := t.td.2.1.1
  obtain ⟨j1, j2⟩ := t1.j22
  unfold f_Lw_debt f_Lw_debt_b0
  rw [if_pos w1, e]
  show (if hS H1 765 = 22 then (if ib (0 : Int32) (hL H1 765) = true then wr (sJ H1 765 (ix (0 : Int32)) (Int32.toInt64 v)) fun h7 => some ((0 : Int32), h7) else none) else none) = _
  rw [if_pos j1, j2, if_pos (ib_z (by decide)), ix_0]
  rfl
theorem lw_debt_1 {p1 : Int32} (t : TS H) (e : f_Water_debt H 1 p1 = some (.inr 1, H1)) : f_Lw_debt H 1 p1 765 = some (1, H1) := by
  have w1 := t.td.2.1.1
  unfold f_Lw_debt f_Lw_debt_b0
  rw [if_pos w1, e]
  rfl
theorem lw_owe {p1 p2 p3 : Int32} (t : TS H) (t1 : TS H1) (e : f_Water_owe H 1 p1 p2 p3 = some (.inl v, H1)) : f_Lw_owe H 1 p1 p2 p3 765 = some (0, sJ H1 765 0 (Int32.toInt64 v)) := by
  have w1 := t.td.2.1.1
  obtain ⟨j1, j2⟩ := t1.j22
  unfold f_Lw_owe f_Lw_owe_b0
  rw [if_pos w1, e]
  show (if hS H1 765 = 22 then (if ib (0 : Int32) (hL H1 765) = true then wr (sJ H1 765 (ix (0 : Int32)) (Int32.toInt64 v)) fun h7 => some ((0 : Int32), h7) else none) else none) = _
  rw [if_pos j1, j2, if_pos (ib_z (by decide)), ix_0]
  rfl
theorem lw_owe_1 {p1 p2 p3 : Int32} (t : TS H) (e : f_Water_owe H 1 p1 p2 p3 = some (.inr 1, H1)) : f_Lw_owe H 1 p1 p2 p3 765 = some (1, H1) := by
  have w1 := t.td.2.1.1
  unfold f_Lw_owe f_Lw_owe_b0
  rw [if_pos w1, e]
  rfl
theorem lw_owe_2 {p1 p2 p3 : Int32} (t : TS H) (e : f_Water_owe H 1 p1 p2 p3 = some (.inr 2, H1)) : f_Lw_owe H 1 p1 p2 p3 765 = some (2, H1) := by
  have w1 := t.td.2.1.1
  unfold f_Lw_owe f_Lw_owe_b0
  rw [if_pos w1, e]
  rfl
theorem lw_owe_3 {p1 p2 p3 : Int32} (t : TS H) (e : f_Water_owe H 1 p1 p2 p3 = some (.inr 3, H1)) : f_Lw_owe H 1 p1 p2 p3 765 = some (3, H1) := by
  have w1 := t.td.2.1.1
  unfold f_Lw_owe f_Lw_owe_b0
  rw [if_pos w1, e]
  rfl
theorem lw_owed {p1 p2 : Int32} (t : TS H) (t1 : TS H1) (e : f_Water_owed H 1 p1 p2 = some (.inl v, H1)) : f_Lw_owed H 1 p1 p2 765 = some (0, sJ H1 765 0 (Int32.toInt64 v)) := by
  have w1 := t.td.2.1.1
  obtain ⟨j1, j2⟩ := t1.j22
  unfold f_Lw_owed f_Lw_owed_b0
  rw [if_pos w1, e]
  show (if hS H1 765 = 22 then (if ib (0 : Int32) (hL H1 765) = true then wr (sJ H1 765 (ix (0 : Int32)) (Int32.toInt64 v)) fun h7 => some ((0 : Int32), h7) else none) else none) = _
  rw [if_pos j1, j2, if_pos (ib_z (by decide)), ix_0]
  rfl
theorem lw_owed_1 {p1 p2 : Int32} (t : TS H) (e : f_Water_owed H 1 p1 p2 = some (.inr 1, H1)) : f_Lw_owed H 1 p1 p2 765 = some (1, H1) := by
  have w1 := t.td.2.1.1
  unfold f_Lw_owed f_Lw_owed_b0
  rw [if_pos w1, e]
  rfl
theorem lw_owed_2 {p1 p2 : Int32} (t : TS H) (e : f_Water_owed H 1 p1 p2 = some (.inr 2, H1)) : f_Lw_owed H 1 p1 p2 765 = some (2, H1) := by
  have w1 := t.td.2.1.1
  unfold f_Lw_owed f_Lw_owed_b0
  rw [if_pos w1, e]
  rfl
theorem lw_site {p1 : Int32} (t : TS H) (t1 : TS H1) (e : f_Water_site H 1 p1 = some (.inl v, H1)) : f_Lw_site H 1 p1 765 = some (0, sJ H1 765 0 (Int32.toInt64 v)) := by
  have w1 := t.td.2.1.1
  obtain ⟨j1, j2⟩ := t1.j22
  unfold f_Lw_site f_Lw_site_b0
  rw [if_pos w1, e]
  show (if hS H1 765 = 22 then (if ib (0 : Int32) (hL H1 765) = true then wr (sJ H1 765 (ix (0 : Int32)) (Int32.toInt64 v)) fun h7 => some ((0 : Int32), h7) else none) else none) = _
  rw [if_pos j1, j2, if_pos (ib_z (by decide)), ix_0]
  rfl
theorem lw_site_2 {p1 : Int32} (t : TS H) (e : f_Water_site H 1 p1 = some (.inr 2, H1)) : f_Lw_site H 1 p1 765 = some (1, H1) := by
  have w1 := t.td.2.1.1
  unfold f_Lw_site f_Lw_site_b0
  rw [if_pos w1, e]
  rfl
theorem lw_look (t : TS H) (t1 : TS H1) (e : f_Water_look H 1 = some (.inl v, H1)) : f_Lw_look H 1 765 = some (0, sJ H1 765 0 (Int32.toInt64 v)) := by
  have w1 := t.td.2.1.1
  obtain ⟨j1, j2⟩ := t1.j22
  unfold f_Lw_look f_Lw_look_b0
  rw [if_pos w1, e]
  show (if hS H1 765 = 22 then (if ib (0 : Int32) (hL H1 765) = true then wr (sJ H1 765 (ix (0 : Int32)) (Int32.toInt64 v)) fun h7 => some ((0 : Int32), h7) else none) else none) = _
  rw [if_pos j1, j2, if_pos (ib_z (by decide)), ix_0]
  rfl
theorem lw_look_2 (t : TS H) (e : f_Water_look H 1 = some (.inr 2, H1)) : f_Lw_look H 1 765 = some (1, H1) := by
  have w1 := t.td.2.1.1
  unfold f_Lw_look f_Lw_look_b0
  rw [if_pos w1, e]
  rfl
theorem lw_swap {p1 p2 p3 p4 p5 : Int32} (t : TS H) (t1 : TS H1) (e : f_Water_swap H 1 p1 p2 p3 p4 p5 = some (.inl v, H1)) : f_Lw_swap H 1 p1 p2 p3 p4 p5 765 = some (0, sJ H1 765 0 (Int32.toInt64 v)) := by
  have w1 := t.td.2.1.1
  obtain ⟨j1, j2⟩ := t1.j22
  unfold f_Lw_swap f_Lw_swap_b0
  rw [if_pos w1, e]
  show (if hS H1 765 = 22 then (if ib (0 : Int32) (hL H1 765) = true then wr (sJ H1 765 (ix (0 : Int32)) (Int32.toInt64 v)) fun h7 => some ((0 : Int32), h7) else none) else none) = _
  rw [if_pos j1, j2, if_pos (ib_z (by decide)), ix_0]
  rfl
theorem lw_swap_1 {p1 p2 p3 p4 p5 : Int32} (t : TS H) (e : f_Water_swap H 1 p1 p2 p3 p4 p5 = some (.inr 1, H1)) : f_Lw_swap H 1 p1 p2 p3 p4 p5 765 = some (1, H1) := by
  have w1 := t.td.2.1.1
  unfold f_Lw_swap f_Lw_swap_b0
  rw [if_pos w1, e]
  rfl
theorem lw_swap_2 {p1 p2 p3 p4 p5 : Int32} (t : TS H) (e : f_Water_swap H 1 p1 p2 p3 p4 p5 = some (.inr 2, H1)) : f_Lw_swap H 1 p1 p2 p3 p4 p5 765 = some (2, H1) := by
  have w1 := t.td.2.1.1
  unfold f_Lw_swap f_Lw_swap_b0
  rw [if_pos w1, e]
  rfl
theorem lw_judge (t : TS H) (t1 : TS H1) (e : f_Water_judge H 1 = some (.inl v, H1)) : f_Lw_judge H 1 765 = some (0, sJ H1 765 0 (Int32.toInt64 v)) := by
  have w1 := t.td.2.1.1
  obtain ⟨j1, j2⟩ := t1.j22
  unfold f_Lw_judge f_Lw_judge_b0
  rw [if_pos w1, e]
  show (if hS H1 765 = 22 then (if ib (0 : Int32) (hL H1 765) = true then wr (sJ H1 765 (ix (0 : Int32)) (Int32.toInt64 v)) fun h7 => some ((0 : Int32), h7) else none) else none) = _
  rw [if_pos j1, j2, if_pos (ib_z (by decide)), ix_0]
  rfl
theorem lw_judge_2 (t : TS H) (e : f_Water_judge H 1 = some (.inr 2, H1)) : f_Lw_judge H 1 765 = some (1, H1) := by
  have w1 := t.td.2.1.1
  unfold f_Lw_judge f_Lw_judge_b0
  rw [if_pos w1, e]
  rfl
theorem lw_blend {p1 p2 p3 : Int32} (t : TS H) (t1 : TS H1) (e : f_Water_blend H 1 p1 p2 p3 = some (.inl v, H1)) : f_Lw_blend H 1 p1 p2 p3 765 = some (0, sJ H1 765 0 (Int32.toInt64 v)) := by
  have w1 := t.td.2.1.1
  obtain ⟨j1, j2⟩ := t1.j22
  unfold f_Lw_blend f_Lw_blend_b0
  rw [if_pos w1, e]
  show (if hS H1 765 = 22 then (if ib (0 : Int32) (hL H1 765) = true then wr (sJ H1 765 (ix (0 : Int32)) (Int32.toInt64 v)) fun h7 => some ((0 : Int32), h7) else none) else none) = _
  rw [if_pos j1, j2, if_pos (ib_z (by decide)), ix_0]
  rfl
theorem lw_blend_1 {p1 p2 p3 : Int32} (t : TS H) (e : f_Water_blend H 1 p1 p2 p3 = some (.inr 1, H1)) : f_Lw_blend H 1 p1 p2 p3 765 = some (1, H1) := by
  have w1 := t.td.2.1.1
  unfold f_Lw_blend f_Lw_blend_b0
  rw [if_pos w1, e]
  rfl
theorem lw_blend_2 {p1 p2 p3 : Int32} (t : TS H) (e : f_Water_blend H 1 p1 p2 p3 = some (.inr 2, H1)) : f_Lw_blend H 1 p1 p2 p3 765 = some (2, H1) := by
  have w1 := t.td.2.1.1
  unfold f_Lw_blend f_Lw_blend_b0
  rw [if_pos w1, e]
  rfl
theorem lw_winter {p1 : Int32} (t : TS H) (t1 : TS H1) (e : f_Water_winter H 1 p1 = some (.inl v, H1)) : f_Lw_winter H 1 p1 765 = some (0, sJ H1 765 0 (Int32.toInt64 v)) := by
  have w1 := t.td.2.1.1
  obtain ⟨j1, j2⟩ := t1.j22
  unfold f_Lw_winter f_Lw_winter_b0
  rw [if_pos w1, e]
  show (if hS H1 765 = 22 then (if ib (0 : Int32) (hL H1 765) = true then wr (sJ H1 765 (ix (0 : Int32)) (Int32.toInt64 v)) fun h7 => some ((0 : Int32), h7) else none) else none) = _
  rw [if_pos j1, j2, if_pos (ib_z (by decide)), ix_0]
  rfl
theorem lw_winter_2 {p1 : Int32} (t : TS H) (e : f_Water_winter H 1 p1 = some (.inr 2, H1)) : f_Lw_winter H 1 p1 765 = some (1, H1) := by
  have w1 := t.td.2.1.1
  unfold f_Lw_winter f_Lw_winter_b0
  rw [if_pos w1, e]
  rfl
theorem lw_oath {p1 p2 : Int32} (t : TS H) (t1 : TS H1) (e : f_Water_oath H 1 p1 p2 = some (.inl v, H1)) : f_Lw_oath H 1 p1 p2 765 = some (0, sJ H1 765 0 (Int32.toInt64 v)) := by
  have w1 := t.td.2.1.1
  obtain ⟨j1, j2⟩ := t1.j22
  unfold f_Lw_oath f_Lw_oath_b0
  rw [if_pos w1, e]
  show (if hS H1 765 = 22 then (if ib (0 : Int32) (hL H1 765) = true then wr (sJ H1 765 (ix (0 : Int32)) (Int32.toInt64 v)) fun h7 => some ((0 : Int32), h7) else none) else none) = _
  rw [if_pos j1, j2, if_pos (ib_z (by decide)), ix_0]
  rfl
theorem lw_oath_1 {p1 p2 : Int32} (t : TS H) (e : f_Water_oath H 1 p1 p2 = some (.inr 1, H1)) : f_Lw_oath H 1 p1 p2 765 = some (1, H1) := by
  have w1 := t.td.2.1.1
  unfold f_Lw_oath f_Lw_oath_b0
  rw [if_pos w1, e]
  rfl
theorem lw_oath_2 {p1 p2 : Int32} (t : TS H) (e : f_Water_oath H 1 p1 p2 = some (.inr 2, H1)) : f_Lw_oath H 1 p1 p2 765 = some (2, H1) := by
  have w1 := t.td.2.1.1
  unfold f_Lw_oath f_Lw_oath_b0
  rw [if_pos w1, e]
  rfl
theorem lw_months {p1 : Int32} (t : TS H) (t1 : TS H1) (e : f_Water_months H 1 p1 = some (.inl v, H1)) : f_Lw_months H 1 p1 765 = some (0, sJ H1 765 0 (Int32.toInt64 v)) := by
  have w1 := t.td.2.1.1
  obtain ⟨j1, j2⟩ := t1.j22
  unfold f_Lw_months f_Lw_months_b0
  rw [if_pos w1, e]
  show (if hS H1 765 = 22 then (if ib (0 : Int32) (hL H1 765) = true then wr (sJ H1 765 (ix (0 : Int32)) (Int32.toInt64 v)) fun h7 => some ((0 : Int32), h7) else none) else none) = _
  rw [if_pos j1, j2, if_pos (ib_z (by decide)), ix_0]
  rfl
theorem lw_months_2 {p1 : Int32} (t : TS H) (e : f_Water_months H 1 p1 = some (.inr 2, H1)) : f_Lw_months H 1 p1 765 = some (1, H1) := by
  have w1 := t.td.2.1.1
  unfold f_Lw_months f_Lw_months_b0
  rw [if_pos w1, e]
  rfl
theorem lw_next {p1 : Int32} (t : TS H) (t1 : TS H1) (e : f_Water_next H 1 p1 = some (.inl v, H1)) : f_Lw_next H 1 p1 765 = some (0, sJ H1 765 0 (Int32.toInt64 v)) := by
  have w1 := t.td.2.1.1
  obtain ⟨j1, j2⟩ := t1.j22
  unfold f_Lw_next f_Lw_next_b0
  rw [if_pos w1, e]
  show (if hS H1 765 = 22 then (if ib (0 : Int32) (hL H1 765) = true then wr (sJ H1 765 (ix (0 : Int32)) (Int32.toInt64 v)) fun h7 => some ((0 : Int32), h7) else none) else none) = _
  rw [if_pos j1, j2, if_pos (ib_z (by decide)), ix_0]
  rfl
theorem lw_next_1 {p1 : Int32} (t : TS H) (e : f_Water_next H 1 p1 = some (.inr 1, H1)) : f_Lw_next H 1 p1 765 = some (1, H1) := by
  have w1 := t.td.2.1.1
  unfold f_Lw_next f_Lw_next_b0
  rw [if_pos w1, e]
  rfl
theorem lw_place {p1 p2 : Int32} (t : TS H) (t1 : TS H1) (e : f_Water_place H 1 p1 p2 = some (.inl v, H1)) : f_Lw_place H 1 p1 p2 765 = some (0, sJ H1 765 0 (Int32.toInt64 v)) := by
  have w1 := t.td.2.1.1
  obtain ⟨j1, j2⟩ := t1.j22
  unfold f_Lw_place f_Lw_place_b0
  rw [if_pos w1, e]
  show (if hS H1 765 = 22 then (if ib (0 : Int32) (hL H1 765) = true then wr (sJ H1 765 (ix (0 : Int32)) (Int32.toInt64 v)) fun h7 => some ((0 : Int32), h7) else none) else none) = _
  rw [if_pos j1, j2, if_pos (ib_z (by decide)), ix_0]
  rfl
theorem lw_place_1 {p1 p2 : Int32} (t : TS H) (e : f_Water_place H 1 p1 p2 = some (.inr 1, H1)) : f_Lw_place H 1 p1 p2 765 = some (1, H1) := by
  have w1 := t.td.2.1.1
  unfold f_Lw_place f_Lw_place_b0
  rw [if_pos w1, e]
  rfl
theorem lw_drank {p1 p2 : Int32} (t : TS H) (t1 : TS H1) (e : f_Water_drank H 1 p1 p2 = some (.inl v, H1)) : f_Lw_drank H 1 p1 p2 765 = some (0, sJ H1 765 0 (Int32.toInt64 v)) := by
  have w1 := t.td.2.1.1
  obtain ⟨j1, j2⟩ := t1.j22
  unfold f_Lw_drank f_Lw_drank_b0
  rw [if_pos w1, e]
  show (if hS H1 765 = 22 then (if ib (0 : Int32) (hL H1 765) = true then wr (sJ H1 765 (ix (0 : Int32)) (Int32.toInt64 v)) fun h7 => some ((0 : Int32), h7) else none) else none) = _
  rw [if_pos j1, j2, if_pos (ib_z (by decide)), ix_0]
  rfl
theorem lw_drank_1 {p1 p2 : Int32} (t : TS H) (e : f_Water_drank H 1 p1 p2 = some (.inr 1, H1)) : f_Lw_drank H 1 p1 p2 765 = some (1, H1) := by
  have w1 := t.td.2.1.1
  unfold f_Lw_drank f_Lw_drank_b0
  rw [if_pos w1, e]
  rfl
theorem lw_house {p1 p2 : Int32} (t : TS H) (t1 : TS H1) (e : f_Water_house H 1 p1 p2 = some (.inl v, H1)) : f_Lw_house H 1 p1 p2 765 = some (0, sJ H1 765 0 (Int32.toInt64 v)) := by
  have w1 := t.td.2.1.1
  obtain ⟨j1, j2⟩ := t1.j22
  unfold f_Lw_house f_Lw_house_b0
  rw [if_pos w1, e]
  show (if hS H1 765 = 22 then (if ib (0 : Int32) (hL H1 765) = true then wr (sJ H1 765 (ix (0 : Int32)) (Int32.toInt64 v)) fun h7 => some ((0 : Int32), h7) else none) else none) = _
  rw [if_pos j1, j2, if_pos (ib_z (by decide)), ix_0]
  rfl
theorem lw_house_1 {p1 p2 : Int32} (t : TS H) (e : f_Water_house H 1 p1 p2 = some (.inr 1, H1)) : f_Lw_house H 1 p1 p2 765 = some (1, H1) := by
  have w1 := t.td.2.1.1
  unfold f_Lw_house f_Lw_house_b0
  rw [if_pos w1, e]
  rfl
theorem lw_house_4 {p1 p2 : Int32} (t : TS H) (e : f_Water_house H 1 p1 p2 = some (.inr 4, H1)) : f_Lw_house H 1 p1 p2 765 = some (2, H1) := by
  have w1 := t.td.2.1.1
  unfold f_Lw_house f_Lw_house_b0
  rw [if_pos w1, e]
  rfl
theorem lw_salt {p1 : Int32} (t : TS H) (t1 : TS H1) (e : f_Water_salt H 1 p1 = some (.inl v, H1)) : f_Lw_salt H 1 p1 765 = some (0, sJ H1 765 0 (Int32.toInt64 v)) := by
  have w1 := t.td.2.1.1
  obtain ⟨j1, j2⟩ := t1.j22
  unfold f_Lw_salt f_Lw_salt_b0
  rw [if_pos w1, e]
  show (if hS H1 765 = 22 then (if ib (0 : Int32) (hL H1 765) = true then wr (sJ H1 765 (ix (0 : Int32)) (Int32.toInt64 v)) fun h7 => some ((0 : Int32), h7) else none) else none) = _
  rw [if_pos j1, j2, if_pos (ib_z (by decide)), ix_0]
  rfl
theorem lw_salt_1 {p1 : Int32} (t : TS H) (e : f_Water_salt H 1 p1 = some (.inr 1, H1)) : f_Lw_salt H 1 p1 765 = some (1, H1) := by
  have w1 := t.td.2.1.1
  unfold f_Lw_salt f_Lw_salt_b0
  rw [if_pos w1, e]
  rfl
theorem lw_layer {p1 p2 : Int32} (t : TS H) (t1 : TS H1) (e : f_Water_layer H 1 p1 p2 = some (.inl v, H1)) : f_Lw_layer H 1 p1 p2 765 = some (0, sJ H1 765 0 (Int32.toInt64 v)) := by
  have w1 := t.td.2.1.1
  obtain ⟨j1, j2⟩ := t1.j22
  unfold f_Lw_layer f_Lw_layer_b0
  rw [if_pos w1, e]
  show (if hS H1 765 = 22 then (if ib (0 : Int32) (hL H1 765) = true then wr (sJ H1 765 (ix (0 : Int32)) (Int32.toInt64 v)) fun h7 => some ((0 : Int32), h7) else none) else none) = _
  rw [if_pos j1, j2, if_pos (ib_z (by decide)), ix_0]
  rfl
theorem lw_layer_1 {p1 p2 : Int32} (t : TS H) (e : f_Water_layer H 1 p1 p2 = some (.inr 1, H1)) : f_Lw_layer H 1 p1 p2 765 = some (1, H1) := by
  have w1 := t.td.2.1.1
  unfold f_Lw_layer f_Lw_layer_b0
  rw [if_pos w1, e]
  rfl
theorem lw_cistern {p1 p2 : Int32} (t : TS H) (t1 : TS H1) (e : f_Water_cistern H 1 p1 p2 = some (.inl v, H1)) : f_Lw_cistern H 1 p1 p2 765 = some (0, sJ H1 765 0 (Int32.toInt64 v)) := by
  have w1 := t.td.2.1.1
  obtain ⟨j1, j2⟩ := t1.j22
  unfold f_Lw_cistern f_Lw_cistern_b0
  rw [if_pos w1, e]
  show (if hS H1 765 = 22 then (if ib (0 : Int32) (hL H1 765) = true then wr (sJ H1 765 (ix (0 : Int32)) (Int32.toInt64 v)) fun h7 => some ((0 : Int32), h7) else none) else none) = _
  rw [if_pos j1, j2, if_pos (ib_z (by decide)), ix_0]
  rfl
theorem lw_cistern_1 {p1 p2 : Int32} (t : TS H) (e : f_Water_cistern H 1 p1 p2 = some (.inr 1, H1)) : f_Lw_cistern H 1 p1 p2 765 = some (1, H1) := by
  have w1 := t.td.2.1.1
  unfold f_Lw_cistern f_Lw_cistern_b0
  rw [if_pos w1, e]
  rfl
theorem lw_cistern_4 {p1 p2 : Int32} (t : TS H) (e : f_Water_cistern H 1 p1 p2 = some (.inr 4, H1)) : f_Lw_cistern H 1 p1 p2 765 = some (2, H1) := by
  have w1 := t.td.2.1.1
  unfold f_Lw_cistern f_Lw_cistern_b0
  rw [if_pos w1, e]
  rfl
theorem lw_law (t : TS H) (t1 : TS H1) (e : f_Water_law H 1 = some (.inl v, H1)) : f_Lw_law H 1 765 = some (0, sJ H1 765 0 (Int32.toInt64 v)) := by
  have w1 := t.td.2.1.1
  obtain ⟨j1, j2⟩ := t1.j22
  unfold f_Lw_law f_Lw_law_b0
  rw [if_pos w1, e]
  show (if hS H1 765 = 22 then (if ib (0 : Int32) (hL H1 765) = true then wr (sJ H1 765 (ix (0 : Int32)) (Int32.toInt64 v)) fun h7 => some ((0 : Int32), h7) else none) else none) = _
  rw [if_pos j1, j2, if_pos (ib_z (by decide)), ix_0]
  rfl
theorem lw_law_2 (t : TS H) (e : f_Water_law H 1 = some (.inr 2, H1)) : f_Lw_law H 1 765 = some (1, H1) := by
  have w1 := t.td.2.1.1
  unfold f_Lw_law f_Lw_law_b0
  rw [if_pos w1, e]
  rfl
theorem lw_land (t : TS H) (t1 : TS H1) (e : f_Water_land H 1 = some (.inl v, H1)) : f_Lw_land H 1 765 = some (0, sJ H1 765 0 (Int32.toInt64 v)) := by
  have w1 := t.td.2.1.1
  obtain ⟨j1, j2⟩ := t1.j22
  unfold f_Lw_land f_Lw_land_b0
  rw [if_pos w1, e]
  show (if hS H1 765 = 22 then (if ib (0 : Int32) (hL H1 765) = true then wr (sJ H1 765 (ix (0 : Int32)) (Int32.toInt64 v)) fun h7 => some ((0 : Int32), h7) else none) else none) = _
  rw [if_pos j1, j2, if_pos (ib_z (by decide)), ix_0]
  rfl
theorem lw_land_2 (t : TS H) (e : f_Water_land H 1 = some (.inr 2, H1)) : f_Lw_land H 1 765 = some (1, H1) := by
  have w1 := t.td.2.1.1
  unfold f_Lw_land f_Lw_land_b0
  rw [if_pos w1, e]
  rfl
theorem lw_land_3 (t : TS H) (e : f_Water_land H 1 = some (.inr 3, H1)) : f_Lw_land H 1 765 = some (2, H1) := by
  have w1 := t.td.2.1.1
  unfold f_Lw_land f_Lw_land_b0
  rw [if_pos w1, e]
  rfl
end WRP
