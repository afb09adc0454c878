/-! ===== order: the orders of five houses at most ===== -/
section U48
variable {h h1 h0 : Hp} {g g' g1 g2 g0 : Nat → Nat → Int32} {w w' w0 u u' : Nat → Int32} {A B L S c d k n l y j m q i x r z E N M M' o T R V : Nat} {v a b p1 p2 p3 p4 p5 : Int32} {f p : Nat → Nat}
def dgF (n code k : Nat) : Nat := (code / n ^ (n - 1 - k)) % n
def snF (n code : Nat) : Nat → Int32
  | 0 => 0
  | j + 1 => snF n code j ||| jshl (1 : Int32) (nI (dgF n code (n - 1 - j)))
def okC (n code : Nat) : Bool := decide (snF n code n = jshl (1 : Int32) (nI n) - 1)
def pmC (n code : Nat) : List Nat := (List.range n).map (dgF n code)
def pmL (n : Nat) : List (List Nat) := ((List.range' 0 (n ^ n)).filter (okC n)).map (pmC n)
def gtL (l : List Nat) (i : Nat) : Nat := l.getD i i
def rsF (p : Nat → Nat) : Nat → Nat
  | 0 => 0
  | j + 1 => if p j ≤ p (j + 1) then j + 1 else rsF p j
def abF (p : Nat → Nat) (r : Nat) : Nat → Nat
  | 0 => 0
  | x + 1 => if x + 1 ≤ r + 1 then x + 1 else if p r ≤ p (x + 1) then x + 1 else abF p r x
def exF (p : Nat → Nat) (i j : Nat) : Nat → Nat := fun k => if k = j then p i else if k = i then p j else p k
def rvF : Nat → (Nat → Nat) → Nat → Nat → Nat → Nat
  | 0, p, _, _ => p
  | f + 1, p, i, j => if j ≤ i then p else rvF f (exF p i j) (i + 1) (j - 1)
def npF (n : Nat) (p : Nat → Nat) : Option (Nat → Nat) := if rsF p (n - 1) = 0 then none else some (rvF n (exF p (rsF p (n - 1) - 1) (abF p (rsF p (n - 1) - 1) (n - 1))) (rsF p (n - 1)) (n - 1))
def npL (n : Nat) (l : List Nat) : Option (List Nat) := (npF n (gtL l)).map fun p => (List.range n).map p
def chk (n : Nat) : List (List Nat) → Bool
  | [] => false
  | l :: r => match r with
    | [] => npL n l == none
    | l' :: _ => npL n l == some l' && chk n r
def pmA (n : Nat) : Bool := chk n (pmL n) && (pmL n).head? == some (List.range n) && decide ((pmL n).length ≤ 120) && (pmL n).all fun l => l.length == n && l.all fun x => decide (x < n)
theorem pm_0 : pmA 0 = true := by decide +kernel
theorem pm_1 : pmA 1 = true := by decide +kernel
theorem pm_2 : pmA 2 = true := by decide +kernel
theorem pm_3 : pmA 3 = true := by decide +kernel
theorem pm_4 : pmA 4 = true := by decide +kernel
theorem pm_5 : pmA 5 = true := by decide +kernel
theorem pm_ok (hn : n ≤ 5) : pmA n = true := by
  have : n = 0 ∨ n = 1 ∨ n = 2 ∨ n = 3 ∨ n = 4 ∨ n = 5 := by omega
  rcases this with rfl | rfl | rfl | rfl | rfl | rfl
  · exact pm_0
  · exact pm_1
  · exact pm_2
  · exact pm_3
  · exact pm_4
  · exact pm_5
end U48
