/-! ===== new cells, returns, methods, calls ===== -/
def zv (k : Nat) : Value := if k = 0 then .int 0 else if k = 1 then .null else .long 0
theorem cv_new {ea : Nat → Nat} {h : Hp} {sh len z : Nat} : cv ea (hA h sh len z) (hN h + 1) = fun k => zv (kd sh k) := by
  funext k
  have e1 : hS (hA h sh len z) (hN h + 1) = sh := by simp [hS, hA, rs1]
  have f1 : hI (hA h sh len z) (hN h + 1) k = 0 := by simp [hI, hA, rs2]
  have f2 : hR (hA h sh len z) (hN h + 1) k = 0 := by simp [hR, hA, rs2]
  have f3 : hJ (hA h sh len z) (hN h + 1) k = 0 := by simp [hJ, hA, rs2]
  unfold cv zv
  rw [e1, f1, f2, f3]
  rfl
theorem zv_ty : ∀ ci, ci < 11 → ∀ k, k < 20 → defaultValue (tyA ci k) = zv (kd (ci + 1) k) := by decide +kernel
theorem vw_n : ∀ (ci : Nat) (q : vw_C), vwCl[ci]? = some q → q.2.2 ≤ 20 := by
  intro ci q hq
  have h := vw_lt hq
  match ci, h with
  | 0, _ => cases hq; decide
  | 1, _ => cases hq; decide
  | 2, _ => cases hq; decide
  | 3, _ => cases hq; decide
  | 4, _ => cases hq; decide
  | 5, _ => cases hq; decide
  | 6, _ => cases hq; decide
  | 7, _ => cases hq; decide
  | 8, _ => cases hq; decide
  | 9, _ => cases hq; decide
  | 10, _ => cases hq; decide
/-- how many fields a class has -/
def nF : Nat → Nat := fun c => match c with
  | 0 => 7 | 1 => 3 | 2 => 6 | 3 => 16 | 4 => 12 | 5 => 7 | 6 => 7 | 7 => 3 | 8 => 6 | 9 => 12 | _ => 20
theorem nF_ok {ci : Nat} {q : vw_C} (hq : vwCl[ci]? = some q) : q.2.2 = nF ci := by
  have h := vw_lt hq
  match ci, h with
  | 0, _ => cases hq; rfl
  | 1, _ => cases hq; rfl
  | 2, _ => cases hq; rfl
  | 3, _ => cases hq; rfl
  | 4, _ => cases hq; rfl
  | 5, _ => cases hq; rfl
  | 6, _ => cases hq; rfl
  | 7, _ => cases hq; rfl
  | 8, _ => cases hq; rfl
  | 9, _ => cases hq; rfl
  | 10, _ => cases hq; rfl
section DN
variable {l : Launch} {X : Nat × (Nat → Int32)} {μ : MI} {d pc pc' : Nat} {L L' : List (Nat × Value)} {S S' : List Value} {h h' : Hp} {o : Oc}
variable {D : va_G} {ar : Nat → ClassId} {ea av : Nat → Nat} {b : Nat} {p : Program} {e : Env} {R : Room} {s : State} {m : MethodId} {args : Array Value} {below : List Frame} {meth : Method} {c : Code} {H : Heap} {locs : List Loc} {cells slots : Nat} {Q : State → Prop} {ls : Array Slot} {st : List Value}
/-- a new array -/
theorem dm_newarr {H' : Heap} {sh N : Nat} (hW : HW D ar ea b h H) (he : EA ea b) (hB : hN h + 1 < BIG) (h20 : 20 ≤ sh) {dv : Value} (hdv : ∀ k, dv = zv (kd sh k)) (e1 : H'[H.size]? = some (arrV (ar sh) N (fun _ => dv))) (e2 : H'.size = H.size + 1) (e3 : ∀ q, q < H.size → H'[q]? = H[q]?) : HW D ar ea b (hA h sh N N) H' := by
  refine hw_new hW he hB e2 e3 fun _ => ⟨fun z => ?_, fun _ => ?_⟩
  · have e4 : hS (hA h sh N N) (hN h + 1) = sh := by simp [hS, hA, rs1]
    rw [e4] at z; omega
  · have e4 : hS (hA h sh N N) (hN h + 1) = sh := by simp [hS, hA, rs1]
    have e5 : hL (hA h sh N N) (hN h + 1) = N := by simp [hL, hA, rs1]
    rw [e4, e5, cv_new, he (hN h + 1) (by omega) hB, show b + (hN h + 1) = H.size by rw [hW.1]; omega, e1]
    congr 2
    funext k
    exact hdv k
theorem va_S.new {A : Nat → Prop} {H0 H1 : Heap} (hS : va_S A H0 H locs) (e2 : H1.size = H.size + 1) (e3 : ∀ q, q < H.size → H1[q]? = H[q]?) : va_S A H0 H1 locs :=
  ⟨Nat.le_trans hS.1 (by omega), fun x h1 h2 => (e3 x (Nat.lt_of_lt_of_le h1 hS.1)).trans (hS.2.1 x h1 h2), hS.2.2⟩
theorem Rn.newa {atype : ArrayType} {sh : Nat} {n : Int32} (hat : (atype = .int ∧ sh = 20) ∨ (atype = .byte ∧ sh = 21) ∨ (atype = .long ∧ sh = 22)) (hn0 : ¬ n < 0) (hbig : ix n ≤ 1000000) (dg : decode μ.2.1 pc = .ok (.newarray atype, 2)) (hp : pc + 2 = pc') (kk : Rn l X μ d pc' L (.ref (hN h + 1) :: S) (hA h sh (ix n) (ix n)) o h') : Rn l X μ d pc L (.int n :: S) h o h' := by
  subst hp
  have kn : hN h + 1 ≤ hN h' := kk.1
  have kz : hZ h + ix n ≤ hZ h' := kk.2.1
  refine ⟨by omega, by omega, fun D ar ea av b p e R s m args below meth c H locs ls n0 z0 C hn hz hc hs1 hf hl hB hS1 hW hLv => ?_⟩
  have harr : (Cond.arrayClass (newarray.typeOf atype)).before args s = true := by
    rcases hat with ⟨rfl, -⟩ | ⟨rfl, -⟩ | ⟨rfl, -⟩ <;> exact C.ts _ (mem_gw (by decide +kernel) (by decide +kernel))
  refine va_newaK C.1 C.2.1 harr rfl dg rfl hn0 rfl (by rcases hat with ⟨rfl, -⟩ | ⟨rfl, -⟩ | ⟨rfl, -⟩ <;> simp only [newarray.typeOf, componentBytes] <;> unfold ix at hbig <;> omega) (by omega) (by unfold ix at kz; omega) rfl fun H1 cA e1 e2 e3 hAr hNm => ?_
  have hcA : cA = ar sh := by
    rcases hat with ⟨rfl, rfl⟩ | ⟨rfl, rfl⟩ | ⟨rfl, rfl⟩
    · exact Option.some.inj (hNm.symm.trans (C.k.2 0 _ rfl).2)
    · exact Option.some.inj (hNm.symm.trans (C.k.2 1 _ rfl).2)
    · exact Option.some.inj (hNm.symm.trans (C.k.2 2 _ rfl).2)
  rw [hcA] at e1
  have hW1 : HW D ar ea b (hA h sh (ix n) (ix n)) H1 := by
    refine dm_newarr hW C.hea (by omega) (by omega) (fun k => ?_) e1 e2 e3
    rcases hat with ⟨rfl, rfl⟩ | ⟨rfl, rfl⟩ | ⟨rfl, rfl⟩
    · rw [kd_20]; rfl
    · rw [kd_21]; rfl
    · rw [kd_22]; rfl
  have K := kk.2.2 D ar ea av b p e R s m args below meth c H1 locs ls n0 z0 C (by show n0 ≤ hN h + 1; omega) (by show z0 ≤ hZ h + ix n; omega) hc hs1 hf hl hB (hS1.new e2 e3) hW1 hLv
  rw [show hN (hA h sh (ix n) (ix n)) - n0 = hN h - n0 + 1 from by show hN h + 1 - n0 = _; omega, show hZ (hA h sh (ix n) (ix n)) - z0 = hZ h - z0 + ix n from by show hZ h + ix n - z0 = _; omega] at K
  have er : tv ea (.ref (hN h + 1)) = .ref H.size := by rw [tv_rf (by omega), C.hea (hN h + 1) (by omega) (by omega), hW.1]; congr 1
  have K2 : W p l e R s m args below meth c H1 locs (hN h - n0 + 1) (hZ h - z0 + ix n) (vx_MQ below (RQ D ar ea b o h') (RX D ar ea b o h') args s (hN h' - n0) (hZ h' - z0) (AA b)) (F0 m (pc + 2) ls (tv ea (.ref (hN h + 1)) :: S.map (tv ea))) := K
  rw [er] at K2
  exact K2
theorem Rn.anew {sh ci idx : Nat} {C0 : String} {n : Int32} (hq : QP sh ci) (hC0 : ∀ r : vw_C, vwCl[ci]? = some r → r.1 = C0) (hao : C0 ∈ aoL) (hlk : Cond.classLink μ.1 idx C0 ∈ gw) (hn0 : ¬ n < 0) (hbig : ix n ≤ 1000000) (dg : decode μ.2.1 pc = .ok (.anewarray idx, 3)) (hp : pc + 3 = pc') (kk : Rn l X μ d pc' L (.ref (hN h + 1) :: S) (hA h sh (ix n) (ix n)) o h') : Rn l X μ d pc L (.int n :: S) h o h' := by
  subst hp
  have kn : hN h + 1 ≤ hN h' := kk.1
  have kz : hZ h + ix n ≤ hZ h' := kk.2.1
  refine ⟨by omega, by omega, fun D ar ea av b p e R s m args below meth c H locs ls n0 z0 C hn hz hc hs1 hf hl hB hS1 hW hLv => ?_⟩
  obtain ⟨g1, g2, r, hr, hty⟩ := hq.ty ar
  have hr0 := hC0 r hr
  subst hr0
  refine W.anew C.1 C.2.1 C.own (C.ts _ hlk) (va_AO.use (C.ot.2.2.2.2.1 _ hao)) rfl dg rfl hn0 (by unfold ix at hbig; omega) (by omega) (by unfold ix at kz; omega) fun cA kA comp f1 f2 f3 f4 => ?_
  obtain ⟨kA', comp', q1, q2, q3, q4⟩ := (C.k.2 _ _ hty).2
  have hcA : cA = ar sh := Option.some.inj (f1.symm.trans q4)
  generalize hH1 : H.push ({ cls := cA, slots := Array.replicate n.toNatClampNeg .null, vm := .none } : Cell) = H1
  have e2 : H1.size = H.size + 1 := by rw [← hH1, Array.size_push]
  have e1 : H1[H.size]? = some (arrV cA n.toNatClampNeg (fun _ => .null)) := by rw [← hH1, Array.getElem?_push_size, ← arrV_new]
  have e3 : ∀ q : Nat, q < H.size → H1[q]? = H[q]? := fun q hq => by rw [← hH1, Array.getElem?_push, if_neg (Nat.ne_of_lt hq)]
  rw [hcA] at e1
  have hW1 : HW D ar ea b (hA h sh (ix n) (ix n)) H1 := dm_newarr hW C.hea (by omega) (by omega) (fun k => by rw [kd_23 g1]; rfl) e1 e2 e3
  have K := kk.2.2 D ar ea av b p e R s m args below meth c H1 locs ls n0 z0 C (by show n0 ≤ hN h + 1; omega) (by show z0 ≤ hZ h + ix n; omega) hc hs1 hf hl hB (hS1.new e2 e3) hW1 hLv
  rw [show hN (hA h sh (ix n) (ix n)) - n0 = hN h - n0 + 1 from by show hN h + 1 - n0 = _; omega, show hZ (hA h sh (ix n) (ix n)) - z0 = hZ h - z0 + ix n from by show hZ h + ix n - z0 = _; omega] at K
  have er : tv ea (.ref (hN h + 1)) = .ref H.size := by rw [tv_rf (by omega), C.hea (hN h + 1) (by omega) (by omega), hW.1]; congr 1
  have K2 : W p l e R s m args below meth c H1 locs (hN h - n0 + 1) (hZ h - z0 + ix n) (vx_MQ below (RQ D ar ea b o h') (RX D ar ea b o h') args s (hN h' - n0) (hZ h' - z0) (AA b)) (F0 m (pc + 3) ls (tv ea (.ref (hN h + 1)) :: S.map (tv ea))) := K
  rw [er] at K2
  exact K2
theorem Rn.new {ci idx : Nat} {C0 : String} (hci : ci < 11) (hC0 : ∀ r : vw_C, vwCl[ci]? = some r → r.1 = C0) (hlk : Cond.classLink μ.1 idx C0 ∈ gw) (dg : decode μ.2.1 pc = .ok (.new idx, 3)) (hp : pc + 3 = pc') (kk : Rn l X μ d pc' L (.ref (hN h + 1) :: S) (hA h (ci + 1) 0 (nF ci)) o h') : Rn l X μ d pc L S h o h' := by
  subst hp
  have kn : hN h + 1 ≤ hN h' := kk.1
  have kz : hZ h + nF ci ≤ hZ h' := kk.2.1
  refine ⟨by omega, by omega, fun D ar ea av b p e R s m args below meth c H locs ls n0 z0 C hn hz hc hs1 hf hl hB hS1 hW hLv => ?_⟩
  obtain ⟨q, hq, hin, hty, -, hins, hinit⟩ := CF_all ci hci
  have hr0 := hC0 q hq
  subst hr0
  have hKn := C.k.1 ci _ hq
  have hNn := nF_ok hq
  rw [hNn] at hins
  refine W.newcK C.1 C.2.1 C.own (C.ts _ hlk) (C.ts _ hins) (C.ts _ hinit) rfl dg (by omega) (by omega) hKn.2.1 rfl fun H1 kC hkC e1 e2 e3 => ?_
  have hW1 : HW D ar ea b (hA h (ci + 1) 0 (nF ci)) H1 := by
    refine hw_new hW C.hea (by omega) e2 e3 fun _ => ⟨fun _ => ?_, fun z => ?_⟩
    · have e4 : hS (hA h (ci + 1) 0 (nF ci)) (hN h + 1) = ci + 1 := by simp [hS, hA, rs1]
      rw [e4, Nat.add_sub_cancel, cv_new]
      refine ⟨q, hq, ?_⟩
      rw [C.hea (hN h + 1) (by omega) (by omega), show b + (hN h + 1) = H.size by rw [hW.1]; omega]
      exact (u_born (tyA ci) C.ts hin hKn hkC e1 hty).to fun k hk => zv_ty ci hci k (Nat.lt_of_lt_of_le hk (vw_n ci q hq))
    · have e4 : hS (hA h (ci + 1) 0 (nF ci)) (hN h + 1) = ci + 1 := by simp [hS, hA, rs1]
      rw [e4] at z; omega
  have K := kk.2.2 D ar ea av b p e R s m args below meth c H1 locs ls n0 z0 C (by show n0 ≤ hN h + 1; omega) (by show z0 ≤ hZ h + nF ci; omega) hc hs1 hf hl hB (hS1.new e2 e3) hW1 hLv
  rw [show hN (hA h (ci + 1) 0 (nF ci)) - n0 = hN h - n0 + 1 from by show hN h + 1 - n0 = _; omega, show hZ (hA h (ci + 1) 0 (nF ci)) - z0 = hZ h - z0 + nF ci from by show hZ h + nF ci - z0 = _; omega] at K
  have er : tv ea (.ref (hN h + 1)) = .ref H.size := by rw [tv_rf (by omega), C.hea (hN h + 1) (by omega) (by omega), hW.1]; congr 1
  have K2 : W p l e R s m args below meth c H1 locs (hN h - n0 + 1) (hZ h - z0 + nF ci) (vx_MQ below (RQ D ar ea b o h') (RX D ar ea b o h') args s (hN h' - n0) (hZ h' - z0) (AA b)) (F0 m (pc + 3) ls (tv ea (.ref (hN h + 1)) :: S.map (tv ea))) := K
  rw [er] at K2
  exact K2
theorem Rn.zret {v : Int32} {ty : FieldType} (hr : μ.2.2.2.1 = some ty) (hnr : narrow ty (.int v) = .int v) (dg : decode μ.2.1 pc = .ok (.ireturn, 1)) : Rn l X μ d pc L [.int v] h (.inl (some (.int v))) h := by
  refine ⟨Nat.le_refl _, Nat.le_refl _, fun D ar ea av b p e R s m args below meth c H locs ls n0 z0 C hn hz hc hs1 hf hl hB hS1 hW hLv => ?_⟩
  exact vx_ret (W.zret C.1 C.2.1 (C.2.2.1.trans hr) hnr (fun t ht _ => ⟨⟨_, rfl, rfl, by rw [ht]; exact hW⟩, hS1.F ht⟩) hS1.2.2 dg C.2.2.2.2.2.2.1)
theorem Rn.lret {v : Int64} (hr : μ.2.2.2.1 = some .long) (dg : decode μ.2.1 pc = .ok (.lreturn, 1)) : Rn l X μ d pc L [.long v] h (.inl (some (.long v))) h := by
  refine ⟨Nat.le_refl _, Nat.le_refl _, fun D ar ea av b p e R s m args below meth c H locs ls n0 z0 C hn hz hc hs1 hf hl hB hS1 hW hLv => ?_⟩
  exact vx_ret (W.lret C.1 C.2.1 (C.2.2.1.trans hr) (fun t ht _ => ⟨⟨_, rfl, rfl, by rw [ht]; exact hW⟩, hS1.F ht⟩) hS1.2.2 dg C.2.2.2.2.2.2.1)
theorem Rn.vret (hr : μ.2.2.2.1 = none) (dg : decode μ.2.1 pc = .ok (.return_, 1)) : Rn l X μ d pc L [] h (.inl none) h := by
  refine ⟨Nat.le_refl _, Nat.le_refl _, fun D ar ea av b p e R s m args below meth c H locs ls n0 z0 C hn hz hc hs1 hf hl hB hS1 hW hLv => ?_⟩
  exact vx_ret (W.vret C.1 C.2.1 (C.2.2.1.trans hr) (fun t ht _ => ⟨⟨_, rfl, rfl, by rw [ht]; exact hW⟩, hS1.F ht⟩) hS1.2.2 dg C.2.2.2.2.2.2.1)
theorem Rn.aret {r : Nat} {rt : FieldType} (hr : μ.2.2.2.1 = some rt) (hrt : (∃ n, rt = .object n) ∨ ∃ t, rt = .array t) (dg : decode μ.2.1 pc = .ok (.areturn, 1)) : Rn l X μ d pc L [.ref r] h (.inl (some (.ref r))) h := by
  refine ⟨Nat.le_refl _, Nat.le_refl _, fun D ar ea av b p e R s m args below meth c H locs ls n0 z0 C hn hz hc hs1 hf hl hB hS1 hW hLv => ?_⟩
  refine vx_ret (W.aret C.1 C.2.1 (C.2.2.1.trans hr) hrt ?_ (fun t ht _ => ⟨⟨_, rfl, rfl, by rw [ht]; exact hW⟩, hS1.F ht⟩) hS1.2.2 dg C.2.2.2.2.2.2.1)
  show rv ea r = .null ∨ ∃ a, rv ea r = .ref a
  unfold rv
  by_cases e0 : r = 0
  · exact Or.inl (if_pos e0)
  · exact Or.inr ⟨_, if_neg e0⟩
end DN
