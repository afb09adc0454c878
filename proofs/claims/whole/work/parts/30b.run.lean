section START2
theorem SCR_ne : SCR ≠ 0 := by unfold SCR BIG; omega
theorem big_ok : 601024 < BIG := by unfold BIG; omega
/-- the law's function, block 0 -/
theorem main_b0 {X : Nat × (Nat → Int32)} {h : Hp} {x0 : Nat} : f_Lw_main X h x0 = f_Lw_main_b0 X h x0 := rfl
set_option maxHeartbeats 4000000 in
/-- the law comes to its end with true, where its function says 1 within the room -/
theorem start_run {p : Program} {e : Env} {s : State} {m : MethodId} {below : List Frame} {meth : Method} {c : Code} (l : Launch) (hst : l.stackTraces = false) {b0 L : Nat} {xs : Nat → Int32} (C0 : lw_At p s m meth c b0 L xs)
    {h' : Hp} (E : f_Lw_main (L, xs) hp0 SCR = some (1, h')) (hn : hN h' ≤ 601024) (hz : hZ h' ≤ 7293034) : W p l e room_1 s m #[Value.ref b0] below meth c s.heap [] 0 0 (lw_Z below #[Value.ref b0] s) (entryFrame m ([Value.ref b0] : List Value).toArray 7) := by
  obtain ⟨hx, hb, hr, hml, hown, hts, hX, hbl, hlocks, hgv, hex⟩ := id C0
  obtain ⟨D, ar, ea, b, hK, hOT, hOH, hEA, hsz, hsc⟩ := start_world hts hgv hX hbl
  rw [main_b0] at E
  have hR : Rn l (L, xs) mL_law_ 52 0 [(0, .ref SCR)] [] hp0 (eI (1, h')) h' := f_Lw_main_b0_ok (l := l) (X := (L, xs)) hst (d := 52) (Nat.le_refl _) (h := hp0) (x0 := SCR) (r := (1, h')) E
  clear E
  have C : Cx l (L, xs) mL_law_ D ar ea (fun _ => 0) b p s m #[Value.ref b0] meth c :=
    ⟨hx, hb, hr, hml, hown, fun w hw => hts w (List.mem_filter.mp hw).1, hlocks, hst, hex, (fun h => (nomatch h)), hK, hOT, hOH, hEA, by omega⟩
  have hl := lv_entry ([.ref b0]) (n := 7) (Nat.le_of_ble_eq_true rfl)
  rw [lg_entry_eq]
  generalize (lg_sl ([.ref b0]) ++ List.replicate (7 - (lg_sl ([.ref b0])).length) Slot.unset).toArray = ls at hl ⊢
  have hl : lv_has ls 7 ([((0 : Nat), Value.ref SCR)].map (tq ea)) := by
    have e1 : [((0 : Nat), Value.ref SCR)].map (tq ea) = [(0, .ref b0)] := by
      show [((0 : Nat), tv ea (.ref SCR))] = _
      rw [tv_rf SCR_ne, hsc]
    rw [e1]; exact hl
  have hHW : HW D ar ea b hp0 s.heap := ⟨hsz, fun r h => absurd rfl h⟩
  have K := hR.2.2 D ar ea (fun _ => 0) b p e room_1 s m #[Value.ref b0] below meth c s.heap [] ls 0 0 C (Nat.zero_le _) (Nat.zero_le _)
    (by show hN h' ≤ 0 + 601024; omega) (by show hZ h' ≤ 0 + 7293034; omega) (Nat.le_of_ble_eq_true rfl) (Nat.le_of_ble_eq_true rfl) (Nat.lt_of_le_of_lt hn big_ok) va_S.rf hHW hl
  intro T hT X0
  obtain ⟨t, a1, o, b1, b2, b3⟩ := K T hT X0
  refine ⟨t, a1, o, b1, b2, ?_⟩
  rcases b3 with ⟨⟨⟨v, ho, hoc, -⟩, -⟩, Ls, hF, hLs⟩ | ⟨q, -, E', ce, L', ⟨⟨e', he, -⟩, -⟩, -⟩
  · have hv : some (Value.int 1) = v := Sum.inl.inj ho
    subst hv
    exact ⟨hoc, ⟨_, hoc⟩, hF.2.1, (same_forget hsz hF.2.2 hLs).mono (by show hN h' - 0 ≤ _; omega) (by show hZ h' - 0 ≤ _; omega)⟩
  · exact nomatch he
end START2
