section P1O
variable {h h' h2 : Hp} {a b c k j m r s l z t x1 : Nat}
theorem hzI {v : Int32} : hZ (sI h a k v) = hZ h := rfl
theorem hzR {v : Nat} : hZ (sR h a k v) = hZ h := rfl
theorem hzA : hZ (hA h s l z) = hZ h + z := rfl
theorem ix_400 : ix (400 : Int32) = 400 := by decide +kernel
theorem ix_401 : ix (401 : Int32) = 401 := by decide +kernel
def tp0 (h : Hp) (t : Nat) : Hp := (sR (hA (sR (hA (sR (hA h 21 400 400) t 0 (t + 1)) 20 401 401) t 2 (t + 2)) 20 401 401) t 3 (t + 3))
theorem tp_b (ha : hN h = t) (h1 : hS h t = 9) : f_Tape_init h t = some (tp0 h t) := by
  unfold f_Tape_init f_Tape_init_b0
  simp [wr, bV, HPs, rs1, rs2, up2, h1, ha, ix_400, ix_401, tp0, Nat.add_assoc]
theorem tp_sm (ha : hN h = t) (hr : r < t) : SM h (tp0 h t) r := by
  subst ha
  unfold tp0
  have n0 : r ≠ hN h := by omega
  refine (SM.hA ?_).tr ((SM.sR n0).tr ((SM.hA ?_).tr ((SM.sR n0).tr ((SM.hA ?_).tr (SM.sR n0)))))
  · show r ≠ hN h + 1; omega
  · show r ≠ hN h + 1 + 1; omega
  · show r ≠ hN h + 1 + 1 + 1; omega
def TP (h : Hp) (t : Nat) : Prop := hS h t = 9 ∧ (∀ k, hI h t k = 0) ∧ hR h t 0 = t + 1 ∧ hR h t 2 = t + 2 ∧ hR h t 3 = t + 3 ∧ BL h (t + 1) 21 400 ∧ BL h (t + 2) 20 401 ∧ BL h (t + 3) 20 401
theorem tp_x (ha : hN h = t) (B : BL h t 9 0) : TP (tp0 h t) t := by
  obtain ⟨b1, b2, b3, b4, b5⟩ := B
  refine ⟨?_, ?_, ?_, ?_, ?_, ?_, ?_, ?_⟩
  · simp [tp0, HPs, rs1, ha, b1, Nat.add_assoc]
  · intro k; simp [tp0, HPs, up2, rs2, ha, b3, Nat.add_assoc]
  · simp [tp0, HPs, up2, rs2, ha, Nat.add_assoc]
  · simp [tp0, HPs, up2, rs2, ha, Nat.add_assoc]
  · simp [tp0, HPs, up2, rs2, ha, Nat.add_assoc]
  · exact ⟨by simp [tp0, HPs, up2, rs1, rs2, ha, Nat.add_assoc], by simp [tp0, HPs, up2, rs1, rs2, ha, Nat.add_assoc], fun k => by simp [tp0, HPs, up2, rs1, rs2, ha, Nat.add_assoc], fun k => by simp [tp0, HPs, up2, rs1, rs2, ha, Nat.add_assoc], fun k => by simp [tp0, HPs, up2, rs1, rs2, ha, Nat.add_assoc]⟩
  · exact ⟨by simp [tp0, HPs, up2, rs1, rs2, ha, Nat.add_assoc], by simp [tp0, HPs, up2, rs1, rs2, ha, Nat.add_assoc], fun k => by simp [tp0, HPs, up2, rs1, rs2, ha, Nat.add_assoc], fun k => by simp [tp0, HPs, up2, rs1, rs2, ha, Nat.add_assoc], fun k => by simp [tp0, HPs, up2, rs1, rs2, ha, Nat.add_assoc]⟩
  · exact ⟨by simp [tp0, HPs, up2, rs1, rs2, ha, Nat.add_assoc], by simp [tp0, HPs, up2, rs1, rs2, ha, Nat.add_assoc], fun k => by simp [tp0, HPs, up2, rs1, rs2, ha, Nat.add_assoc], fun k => by simp [tp0, HPs, up2, rs1, rs2, ha, Nat.add_assoc], fun k => by simp [tp0, HPs, up2, rs1, rs2, ha, Nat.add_assoc]⟩
theorem tp_sm2 (x : TP h t) (y : ∀ r, t ≤ r → r ≤ t + 3 → SM h h' r) : TP h' t := by
  obtain ⟨x0_, x1_, x2_, x3_, x4_, x5_, x6_, x7_⟩ := x
  have y0 := y t (by omega) (by omega)
  exact ⟨y0.1.trans x0_, fun k => (congrFun y0.2.2.1 k).trans (x1_ k), (congrFun y0.2.2.2.1 0).trans x2_, (congrFun y0.2.2.2.1 2).trans x3_, (congrFun y0.2.2.2.1 3).trans x4_, x5_.sm (y (t + 1) (by omega) (by omega)), x6_.sm (y (t + 2) (by omega) (by omega)), x7_.sm (y (t + 3) (by omega) (by omega))⟩
theorem tp_z : hZ (tp0 h t) = hZ h + 400 + 401 + 401 := by
  unfold tp0
  repeat first | rw [hzI] | rw [hzR] | rw [hzA]
theorem tp_n (ha : hN h = t) : hN (tp0 h t) = t + 3 := by
  subst ha
  rfl
theorem tp_new (ha : hN h = t) (B : BL h t 9 0) : ∃ h', f_Tape_init h t = some h' ∧ hN h' = t + 3 ∧ hZ h' = hZ h + 400 + 401 + 401 ∧ (∀ r, r < t → SM h h' r) ∧ TP h' t :=
  ⟨tp0 h t, tp_b ha B.1, tp_n ha, tp_z, fun r hr => tp_sm ha hr, tp_x ha B⟩
theorem ix_14 : ix (14 : Int32) = 14 := by decide +kernel
def lt0 (h : Hp) (t : Nat) (x1 : Nat) : Hp := (sR (hA (sR (hA (sR (hA (sR (hA (sI (sR h t 0 x1) t 1 (14)) 20 14 14) t 3 (t + 1)) 20 14 14) t 4 (t + 2)) 20 14 14) t 5 (t + 3)) 20 14 14) t 6 (t + 4))
theorem lt_b (ha : hN h = t) (h1 : hS h t = 5) : f_LandText_init h t x1 = some (lt0 h t x1) := by
  unfold f_LandText_init f_LandText_init_b0
  simp [wr, bV, HPs, rs1, rs2, up2, h1, ha, ix_14, f_Lines_init_4, f_Lines_init_4_b0, lt0, Nat.add_assoc]
theorem lt_sm (ha : hN h = t) (hr : r < t) : SM h (lt0 h t x1) r := by
  subst ha
  unfold lt0
  have n0 : r ≠ hN h := by omega
  refine (SM.sR n0).tr ((SM.sI n0).tr ((SM.hA ?_).tr ((SM.sR n0).tr ((SM.hA ?_).tr ((SM.sR n0).tr ((SM.hA ?_).tr ((SM.sR n0).tr ((SM.hA ?_).tr (SM.sR n0)))))))))
  · show r ≠ hN h + 1; omega
  · show r ≠ hN h + 1 + 1; omega
  · show r ≠ hN h + 1 + 1 + 1; omega
  · show r ≠ hN h + 1 + 1 + 1 + 1; omega
def LT (h : Hp) (t : Nat) (x1 : Nat) : Prop := hS h t = 5 ∧ (∀ k, hI h t k = if k = 1 then 14 else 0) ∧ hR h t 0 = x1 ∧ hR h t 3 = t + 1 ∧ hR h t 4 = t + 2 ∧ hR h t 5 = t + 3 ∧ hR h t 6 = t + 4 ∧ BL h (t + 1) 20 14 ∧ BL h (t + 2) 20 14 ∧ BL h (t + 3) 20 14 ∧ BL h (t + 4) 20 14
theorem lt_x (ha : hN h = t) (B : BL h t 5 0) : LT (lt0 h t x1) t x1 := by
  obtain ⟨b1, b2, b3, b4, b5⟩ := B
  refine ⟨?_, ?_, ?_, ?_, ?_, ?_, ?_, ?_, ?_, ?_, ?_⟩
  · simp [lt0, HPs, rs1, ha, b1, Nat.add_assoc]
  · intro k; simp [lt0, HPs, up2, rs2, ha, b3, Nat.add_assoc]
  · simp [lt0, HPs, up2, rs2, ha, Nat.add_assoc]
  · simp [lt0, HPs, up2, rs2, ha, Nat.add_assoc]
  · simp [lt0, HPs, up2, rs2, ha, Nat.add_assoc]
  · simp [lt0, HPs, up2, rs2, ha, Nat.add_assoc]
  · simp [lt0, HPs, up2, rs2, ha, Nat.add_assoc]
  · exact ⟨by simp [lt0, HPs, up2, rs1, rs2, ha, Nat.add_assoc], by simp [lt0, HPs, up2, rs1, rs2, ha, Nat.add_assoc], fun k => by simp [lt0, HPs, up2, rs1, rs2, ha, Nat.add_assoc], fun k => by simp [lt0, HPs, up2, rs1, rs2, ha, Nat.add_assoc], fun k => by simp [lt0, HPs, up2, rs1, rs2, ha, Nat.add_assoc]⟩
  · exact ⟨by simp [lt0, HPs, up2, rs1, rs2, ha, Nat.add_assoc], by simp [lt0, HPs, up2, rs1, rs2, ha, Nat.add_assoc], fun k => by simp [lt0, HPs, up2, rs1, rs2, ha, Nat.add_assoc], fun k => by simp [lt0, HPs, up2, rs1, rs2, ha, Nat.add_assoc], fun k => by simp [lt0, HPs, up2, rs1, rs2, ha, Nat.add_assoc]⟩
  · exact ⟨by simp [lt0, HPs, up2, rs1, rs2, ha, Nat.add_assoc], by simp [lt0, HPs, up2, rs1, rs2, ha, Nat.add_assoc], fun k => by simp [lt0, HPs, up2, rs1, rs2, ha, Nat.add_assoc], fun k => by simp [lt0, HPs, up2, rs1, rs2, ha, Nat.add_assoc], fun k => by simp [lt0, HPs, up2, rs1, rs2, ha, Nat.add_assoc]⟩
  · exact ⟨by simp [lt0, HPs, up2, rs1, rs2, ha, Nat.add_assoc], by simp [lt0, HPs, up2, rs1, rs2, ha, Nat.add_assoc], fun k => by simp [lt0, HPs, up2, rs1, rs2, ha, Nat.add_assoc], fun k => by simp [lt0, HPs, up2, rs1, rs2, ha, Nat.add_assoc], fun k => by simp [lt0, HPs, up2, rs1, rs2, ha, Nat.add_assoc]⟩
theorem lt_sm2 (x : LT h t x1) (y : ∀ r, t ≤ r → r ≤ t + 4 → SM h h' r) : LT h' t x1 := by
  obtain ⟨x0_, x1_, x2_, x3_, x4_, x5_, x6_, x7_, x8_, x9_, x10_⟩ := x
  have y0 := y t (by omega) (by omega)
  exact ⟨y0.1.trans x0_, fun k => (congrFun y0.2.2.1 k).trans (x1_ k), (congrFun y0.2.2.2.1 0).trans x2_, (congrFun y0.2.2.2.1 3).trans x3_, (congrFun y0.2.2.2.1 4).trans x4_, (congrFun y0.2.2.2.1 5).trans x5_, (congrFun y0.2.2.2.1 6).trans x6_, x7_.sm (y (t + 1) (by omega) (by omega)), x8_.sm (y (t + 2) (by omega) (by omega)), x9_.sm (y (t + 3) (by omega) (by omega)), x10_.sm (y (t + 4) (by omega) (by omega))⟩
theorem lt_z : hZ (lt0 h t x1) = hZ h + 14 + 14 + 14 + 14 := by
  unfold lt0
  repeat first | rw [hzI] | rw [hzR] | rw [hzA]
theorem lt_n (ha : hN h = t) : hN (lt0 h t x1) = t + 4 := by
  subst ha
  rfl
theorem lt_new (ha : hN h = t) (B : BL h t 5 0) : ∃ h', f_LandText_init h t x1 = some h' ∧ hN h' = t + 4 ∧ hZ h' = hZ h + 14 + 14 + 14 + 14 ∧ (∀ r, r < t → SM h h' r) ∧ LT h' t x1 :=
  ⟨lt0 h t x1, lt_b ha B.1, lt_n ha, lt_z, fun r hr => lt_sm ha hr, lt_x ha B⟩
def wt0 (h : Hp) (t : Nat) (x1 : Nat) : Hp := (sR (hA (sR (hA (sR (hA (sI (sR h t 0 x1) t 1 (12)) 20 12 12) t 3 (t + 1)) 20 12 12) t 4 (t + 2)) 20 400 400) t 5 (t + 3))
theorem wt_b (ha : hN h = t) (h1 : hS h t = 7) : f_LawText_init h t x1 = some (wt0 h t x1) := by
  unfold f_LawText_init f_LawText_init_b0
  simp [wr, bV, HPs, rs1, rs2, up2, h1, ha, ix_12, ix_400, f_Lines_init_6, f_Lines_init_6_b0, wt0, Nat.add_assoc]
theorem wt_sm (ha : hN h = t) (hr : r < t) : SM h (wt0 h t x1) r := by
  subst ha
  unfold wt0
  have n0 : r ≠ hN h := by omega
  refine (SM.sR n0).tr ((SM.sI n0).tr ((SM.hA ?_).tr ((SM.sR n0).tr ((SM.hA ?_).tr ((SM.sR n0).tr ((SM.hA ?_).tr (SM.sR n0)))))))
  · show r ≠ hN h + 1; omega
  · show r ≠ hN h + 1 + 1; omega
  · show r ≠ hN h + 1 + 1 + 1; omega
def WT (h : Hp) (t : Nat) (x1 : Nat) : Prop := hS h t = 7 ∧ (∀ k, hI h t k = if k = 1 then 12 else 0) ∧ hR h t 0 = x1 ∧ hR h t 3 = t + 1 ∧ hR h t 4 = t + 2 ∧ hR h t 5 = t + 3 ∧ BL h (t + 1) 20 12 ∧ BL h (t + 2) 20 12 ∧ BL h (t + 3) 20 400
theorem wt_x (ha : hN h = t) (B : BL h t 7 0) : WT (wt0 h t x1) t x1 := by
  obtain ⟨b1, b2, b3, b4, b5⟩ := B
  refine ⟨?_, ?_, ?_, ?_, ?_, ?_, ?_, ?_, ?_⟩
  · simp [wt0, HPs, rs1, ha, b1, Nat.add_assoc]
  · intro k; simp [wt0, HPs, up2, rs2, ha, b3, Nat.add_assoc]
  · simp [wt0, HPs, up2, rs2, ha, Nat.add_assoc]
  · simp [wt0, HPs, up2, rs2, ha, Nat.add_assoc]
  · simp [wt0, HPs, up2, rs2, ha, Nat.add_assoc]
  · simp [wt0, HPs, up2, rs2, ha, Nat.add_assoc]
  · exact ⟨by simp [wt0, HPs, up2, rs1, rs2, ha, Nat.add_assoc], by simp [wt0, HPs, up2, rs1, rs2, ha, Nat.add_assoc], fun k => by simp [wt0, HPs, up2, rs1, rs2, ha, Nat.add_assoc], fun k => by simp [wt0, HPs, up2, rs1, rs2, ha, Nat.add_assoc], fun k => by simp [wt0, HPs, up2, rs1, rs2, ha, Nat.add_assoc]⟩
  · exact ⟨by simp [wt0, HPs, up2, rs1, rs2, ha, Nat.add_assoc], by simp [wt0, HPs, up2, rs1, rs2, ha, Nat.add_assoc], fun k => by simp [wt0, HPs, up2, rs1, rs2, ha, Nat.add_assoc], fun k => by simp [wt0, HPs, up2, rs1, rs2, ha, Nat.add_assoc], fun k => by simp [wt0, HPs, up2, rs1, rs2, ha, Nat.add_assoc]⟩
  · exact ⟨by simp [wt0, HPs, up2, rs1, rs2, ha, Nat.add_assoc], by simp [wt0, HPs, up2, rs1, rs2, ha, Nat.add_assoc], fun k => by simp [wt0, HPs, up2, rs1, rs2, ha, Nat.add_assoc], fun k => by simp [wt0, HPs, up2, rs1, rs2, ha, Nat.add_assoc], fun k => by simp [wt0, HPs, up2, rs1, rs2, ha, Nat.add_assoc]⟩
theorem wt_sm2 (x : WT h t x1) (y : ∀ r, t ≤ r → r ≤ t + 3 → SM h h' r) : WT h' t x1 := by
  obtain ⟨x0_, x1_, x2_, x3_, x4_, x5_, x6_, x7_, x8_⟩ := x
  have y0 := y t (by omega) (by omega)
  exact ⟨y0.1.trans x0_, fun k => (congrFun y0.2.2.1 k).trans (x1_ k), (congrFun y0.2.2.2.1 0).trans x2_, (congrFun y0.2.2.2.1 3).trans x3_, (congrFun y0.2.2.2.1 4).trans x4_, (congrFun y0.2.2.2.1 5).trans x5_, x6_.sm (y (t + 1) (by omega) (by omega)), x7_.sm (y (t + 2) (by omega) (by omega)), x8_.sm (y (t + 3) (by omega) (by omega))⟩
theorem wt_z : hZ (wt0 h t x1) = hZ h + 12 + 12 + 400 := by
  unfold wt0
  repeat first | rw [hzI] | rw [hzR] | rw [hzA]
theorem wt_n (ha : hN h = t) : hN (wt0 h t x1) = t + 3 := by
  subst ha
  rfl
theorem wt_new (ha : hN h = t) (B : BL h t 7 0) : ∃ h', f_LawText_init h t x1 = some h' ∧ hN h' = t + 3 ∧ hZ h' = hZ h + 12 + 12 + 400 ∧ (∀ r, r < t → SM h h' r) ∧ WT h' t x1 :=
  ⟨wt0 h t x1, wt_b ha B.1, wt_n ha, wt_z, fun r hr => wt_sm ha hr, wt_x ha B⟩
theorem ix_5 : ix (5 : Int32) = 5 := by decide +kernel
theorem ib_5 : ib (5 : Int32) 2291 = true := by decide +kernel
theorem ix_2291 : ix (2291 : Int32) = 2291 := by decide +kernel
theorem ix_1454 : ix (1454 : Int32) = 1454 := by decide +kernel
theorem ix_617 : ix (617 : Int32) = 617 := by decide +kernel
theorem ix_17448 : ix (17448 : Int32) = 17448 := by decide +kernel
def mo0 (h : Hp) (t : Nat) : Hp := (sI (sR (hA (sR (hA (sR (hA (sI (sR (hA (sR (hA (sR (hA (sR (hA (sR (hA (sR (hA h 20 2291 2291) t 1 (t + 1)) 20 1454 1454) t 2 (t + 2)) 20 1454 1454) t 3 (t + 3)) 20 617 617) t 4 (t + 4)) 20 17448 17448) t 5 (t + 5)) 21 400 400) t 8 (t + 6)) t 14 (-1)) 20 5 5) t 15 (t + 7)) 20 400 400) t 17 (t + 8)) 20 8 8) t 19 (t + 9)) (t + 1) 5 (1))
theorem mo_b (ha : hN h = t) (h1 : hS h t = 11) : f_Model_init h t = some (mo0 h t) := by
  unfold f_Model_init f_Model_init_b0
  simp [wr, bV, HPs, rs1, rs2, up2, h1, ha, ix_2291, ix_1454, ix_617, ix_17448, ix_400, ix_5, ix_8, ib_5, ix_5, mo0, Nat.add_assoc]
theorem mo_sm (ha : hN h = t) (hr : r < t) : SM h (mo0 h t) r := by
  subst ha
  unfold mo0
  have n0 : r ≠ hN h := by omega
  refine (SM.hA ?_).tr ((SM.sR n0).tr ((SM.hA ?_).tr ((SM.sR n0).tr ((SM.hA ?_).tr ((SM.sR n0).tr ((SM.hA ?_).tr ((SM.sR n0).tr ((SM.hA ?_).tr ((SM.sR n0).tr ((SM.hA ?_).tr ((SM.sR n0).tr ((SM.sI n0).tr ((SM.hA ?_).tr ((SM.sR n0).tr ((SM.hA ?_).tr ((SM.sR n0).tr ((SM.hA ?_).tr ((SM.sR n0).tr (SM.sI ?_)))))))))))))))))))
  · show r ≠ hN h + 1; omega
  · show r ≠ hN h + 1 + 1; omega
  · show r ≠ hN h + 1 + 1 + 1; omega
  · show r ≠ hN h + 1 + 1 + 1 + 1; omega
  · show r ≠ hN h + 1 + 1 + 1 + 1 + 1; omega
  · show r ≠ hN h + 1 + 1 + 1 + 1 + 1 + 1; omega
  · show r ≠ hN h + 1 + 1 + 1 + 1 + 1 + 1 + 1; omega
  · show r ≠ hN h + 1 + 1 + 1 + 1 + 1 + 1 + 1 + 1; omega
  · show r ≠ hN h + 1 + 1 + 1 + 1 + 1 + 1 + 1 + 1 + 1; omega
  · show r ≠ hN h + 1; omega
def MD (h : Hp) (t : Nat) : Prop := hS h t = 11 ∧ (∀ k, hI h t k = if k = 14 then -1 else 0) ∧ hR h t 1 = t + 1 ∧ hR h t 2 = t + 2 ∧ hR h t 3 = t + 3 ∧ hR h t 4 = t + 4 ∧ hR h t 5 = t + 5 ∧ hR h t 8 = t + 6 ∧ hR h t 15 = t + 7 ∧ hR h t 17 = t + 8 ∧ hR h t 19 = t + 9 ∧ (hS h (t + 1) = 20 ∧ hL h (t + 1) = 2291 ∧ ∀ k, hI h (t + 1) k = if k = 5 then 1 else 0) ∧ BL h (t + 2) 20 1454 ∧ BL h (t + 3) 20 1454 ∧ BL h (t + 4) 20 617 ∧ BL h (t + 5) 20 17448 ∧ BL h (t + 6) 21 400 ∧ BL h (t + 7) 20 5 ∧ BL h (t + 8) 20 400 ∧ BL h (t + 9) 20 8
theorem mo_x (ha : hN h = t) (B : BL h t 11 0) : MD (mo0 h t) t := by
  obtain ⟨b1, b2, b3, b4, b5⟩ := B
  refine ⟨?_, ?_, ?_, ?_, ?_, ?_, ?_, ?_, ?_, ?_, ?_, ?_, ?_, ?_, ?_, ?_, ?_, ?_, ?_, ?_⟩
  · simp [mo0, HPs, rs1, ha, b1, Nat.add_assoc]
  · intro k; simp [mo0, HPs, up2, rs2, ha, b3, Nat.add_assoc]
  · simp [mo0, HPs, up2, rs2, ha, Nat.add_assoc]
  · simp [mo0, HPs, up2, rs2, ha, Nat.add_assoc]
  · simp [mo0, HPs, up2, rs2, ha, Nat.add_assoc]
  · simp [mo0, HPs, up2, rs2, ha, Nat.add_assoc]
  · simp [mo0, HPs, up2, rs2, ha, Nat.add_assoc]
  · simp [mo0, HPs, up2, rs2, ha, Nat.add_assoc]
  · simp [mo0, HPs, up2, rs2, ha, Nat.add_assoc]
  · simp [mo0, HPs, up2, rs2, ha, Nat.add_assoc]
  · simp [mo0, HPs, up2, rs2, ha, Nat.add_assoc]
  · exact ⟨by simp [mo0, HPs, up2, rs1, rs2, ha, Nat.add_assoc], by simp [mo0, HPs, up2, rs1, rs2, ha, Nat.add_assoc], fun k => by simp [mo0, HPs, up2, rs1, rs2, ha, Nat.add_assoc]⟩
  · exact ⟨by simp [mo0, HPs, up2, rs1, rs2, ha, Nat.add_assoc], by simp [mo0, HPs, up2, rs1, rs2, ha, Nat.add_assoc], fun k => by simp [mo0, HPs, up2, rs1, rs2, ha, Nat.add_assoc], fun k => by simp [mo0, HPs, up2, rs1, rs2, ha, Nat.add_assoc], fun k => by simp [mo0, HPs, up2, rs1, rs2, ha, Nat.add_assoc]⟩
  · exact ⟨by simp [mo0, HPs, up2, rs1, rs2, ha, Nat.add_assoc], by simp [mo0, HPs, up2, rs1, rs2, ha, Nat.add_assoc], fun k => by simp [mo0, HPs, up2, rs1, rs2, ha, Nat.add_assoc], fun k => by simp [mo0, HPs, up2, rs1, rs2, ha, Nat.add_assoc], fun k => by simp [mo0, HPs, up2, rs1, rs2, ha, Nat.add_assoc]⟩
  · exact ⟨by simp [mo0, HPs, up2, rs1, rs2, ha, Nat.add_assoc], by simp [mo0, HPs, up2, rs1, rs2, ha, Nat.add_assoc], fun k => by simp [mo0, HPs, up2, rs1, rs2, ha, Nat.add_assoc], fun k => by simp [mo0, HPs, up2, rs1, rs2, ha, Nat.add_assoc], fun k => by simp [mo0, HPs, up2, rs1, rs2, ha, Nat.add_assoc]⟩
  · exact ⟨by simp [mo0, HPs, up2, rs1, rs2, ha, Nat.add_assoc], by simp [mo0, HPs, up2, rs1, rs2, ha, Nat.add_assoc], fun k => by simp [mo0, HPs, up2, rs1, rs2, ha, Nat.add_assoc], fun k => by simp [mo0, HPs, up2, rs1, rs2, ha, Nat.add_assoc], fun k => by simp [mo0, HPs, up2, rs1, rs2, ha, Nat.add_assoc]⟩
  · exact ⟨by simp [mo0, HPs, up2, rs1, rs2, ha, Nat.add_assoc], by simp [mo0, HPs, up2, rs1, rs2, ha, Nat.add_assoc], fun k => by simp [mo0, HPs, up2, rs1, rs2, ha, Nat.add_assoc], fun k => by simp [mo0, HPs, up2, rs1, rs2, ha, Nat.add_assoc], fun k => by simp [mo0, HPs, up2, rs1, rs2, ha, Nat.add_assoc]⟩
  · exact ⟨by simp [mo0, HPs, up2, rs1, rs2, ha, Nat.add_assoc], by simp [mo0, HPs, up2, rs1, rs2, ha, Nat.add_assoc], fun k => by simp [mo0, HPs, up2, rs1, rs2, ha, Nat.add_assoc], fun k => by simp [mo0, HPs, up2, rs1, rs2, ha, Nat.add_assoc], fun k => by simp [mo0, HPs, up2, rs1, rs2, ha, Nat.add_assoc]⟩
  · exact ⟨by simp [mo0, HPs, up2, rs1, rs2, ha, Nat.add_assoc], by simp [mo0, HPs, up2, rs1, rs2, ha, Nat.add_assoc], fun k => by simp [mo0, HPs, up2, rs1, rs2, ha, Nat.add_assoc], fun k => by simp [mo0, HPs, up2, rs1, rs2, ha, Nat.add_assoc], fun k => by simp [mo0, HPs, up2, rs1, rs2, ha, Nat.add_assoc]⟩
  · exact ⟨by simp [mo0, HPs, up2, rs1, rs2, ha, Nat.add_assoc], by simp [mo0, HPs, up2, rs1, rs2, ha, Nat.add_assoc], fun k => by simp [mo0, HPs, up2, rs1, rs2, ha, Nat.add_assoc], fun k => by simp [mo0, HPs, up2, rs1, rs2, ha, Nat.add_assoc], fun k => by simp [mo0, HPs, up2, rs1, rs2, ha, Nat.add_assoc]⟩
theorem mo_sm2 (x : MD h t) (y : ∀ r, t ≤ r → r ≤ t + 9 → SM h h' r) : MD h' t := by
  obtain ⟨x0_, x1_, x2_, x3_, x4_, x5_, x6_, x7_, x8_, x9_, x10_, x11_, x12_, x13_, x14_, x15_, x16_, x17_, x18_, x19_⟩ := x
  have y0 := y t (by omega) (by omega)
  exact ⟨y0.1.trans x0_, fun k => (congrFun y0.2.2.1 k).trans (x1_ k), (congrFun y0.2.2.2.1 1).trans x2_, (congrFun y0.2.2.2.1 2).trans x3_, (congrFun y0.2.2.2.1 3).trans x4_, (congrFun y0.2.2.2.1 4).trans x5_, (congrFun y0.2.2.2.1 5).trans x6_, (congrFun y0.2.2.2.1 8).trans x7_, (congrFun y0.2.2.2.1 15).trans x8_, (congrFun y0.2.2.2.1 17).trans x9_, (congrFun y0.2.2.2.1 19).trans x10_, ⟨(y (t + 1) (by omega) (by omega)).1.trans x11_.1, (y (t + 1) (by omega) (by omega)).2.1.trans x11_.2.1, fun k => (congrFun (y (t + 1) (by omega) (by omega)).2.2.1 k).trans (x11_.2.2 k)⟩, x12_.sm (y (t + 2) (by omega) (by omega)), x13_.sm (y (t + 3) (by omega) (by omega)), x14_.sm (y (t + 4) (by omega) (by omega)), x15_.sm (y (t + 5) (by omega) (by omega)), x16_.sm (y (t + 6) (by omega) (by omega)), x17_.sm (y (t + 7) (by omega) (by omega)), x18_.sm (y (t + 8) (by omega) (by omega)), x19_.sm (y (t + 9) (by omega) (by omega))⟩
theorem mo_z : hZ (mo0 h t) = hZ h + 2291 + 1454 + 1454 + 617 + 17448 + 400 + 5 + 400 + 8 := by
  unfold mo0
  repeat first | rw [hzI] | rw [hzR] | rw [hzA]
theorem mo_n (ha : hN h = t) : hN (mo0 h t) = t + 9 := by
  subst ha
  rfl
theorem mo_new (ha : hN h = t) (B : BL h t 11 0) : ∃ h', f_Model_init h t = some h' ∧ hN h' = t + 9 ∧ hZ h' = hZ h + 2291 + 1454 + 1454 + 617 + 17448 + 400 + 5 + 400 + 8 ∧ (∀ r, r < t → SM h h' r) ∧ MD h' t :=
  ⟨mo0 h t, mo_b ha B.1, mo_n ha, mo_z, fun r hr => mo_sm ha hr, mo_x ha B⟩
end P1O
