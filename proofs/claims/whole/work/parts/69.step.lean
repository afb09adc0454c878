/-! ===== the law's loop case by case (wip/whole/gen/gstep.py) ===== -/
section ST
def mb_0 (X : Nat × (Nat → Int32)) (k23 : Hp → Nat → Nat → Nat → Nat → Int32 → Option (Int32 × Hp)) (h : Hp) (x0 x1 x2 x3 : Nat) (x4 : Int32) : Option (Int32 × Hp) :=
if x0 = SCR then (
if ib (x4 + (1 : Int32)) X.1 = true then (
if x0 = SCR then (
if ib (x4 + (2 : Int32)) X.1 = true then (
if x0 = SCR then (
if ib (x4 + (3 : Int32)) X.1 = true then (
if x0 = SCR then (
if ib (x4 + (4 : Int32)) X.1 = true then (
if x0 = SCR then (
if ib (x4 + (5 : Int32)) X.1 = true then (
if hS h x1 = 10 then (
bI (f_Water_feed h x1 (X.2 (ix (x4 + (1 : Int32)))) (X.2 (ix (x4 + (2 : Int32)))) (X.2 (ix (x4 + (3 : Int32)))) (X.2 (ix (x4 + (4 : Int32)))) (X.2 (ix (x4 + (5 : Int32))))) fun v19 h20 =>
if x0 = SCR then (
if ib (x4 + (1 : Int32)) X.1 = true then (
if x0 = SCR then (
if ib (x4 + (2 : Int32)) X.1 = true then (
if x0 = SCR then (
if ib (x4 + (3 : Int32)) X.1 = true then (
if x0 = SCR then (
if ib (x4 + (4 : Int32)) X.1 = true then (
if x0 = SCR then (
if ib (x4 + (5 : Int32)) X.1 = true then (
if hS h20 x2 = 11 then (
bI (f_Model_feed h20 x2 (X.2 (ix (x4 + (1 : Int32)))) (X.2 (ix (x4 + (2 : Int32)))) (X.2 (ix (x4 + (3 : Int32)))) (X.2 (ix (x4 + (4 : Int32)))) (X.2 (ix (x4 + (5 : Int32))))) fun v33 h34 =>
if v19 = v33 then (
f_Lw_main_b2138 X  k23 h34 x0 x1 x2 x3 x4
) else (
some ((0 : Int32), h34)
)
) else none) else none) else none) else none) else none) else none) else none) else none) else none) else none) else none) else none) else none) else none) else none) else none) else none) else none) else none) else none) else none) else none
def mb_1 (X : Nat × (Nat → Int32)) (k23 : Hp → Nat → Nat → Nat → Nat → Int32 → Option (Int32 × Hp)) (h : Hp) (x0 x1 x2 x3 : Nat) (x4 : Int32) : Option (Int32 × Hp) :=
if x0 = SCR then (
if ib (x4 + (1 : Int32)) X.1 = true then (
if hS h x1 = 10 then (
bI (f_Water_end h x1 (X.2 (ix (x4 + (1 : Int32))))) fun v41 h42 =>
if x0 = SCR then (
if ib (x4 + (1 : Int32)) X.1 = true then (
if hS h42 x2 = 11 then (
bI (f_Model_end h42 x2 (X.2 (ix (x4 + (1 : Int32))))) fun v47 h48 =>
if v41 = v47 then (
f_Lw_main_b2138 X  k23 h48 x0 x1 x2 x3 x4
) else (
some ((0 : Int32), h48)
)
) else none) else none) else none) else none) else none) else none
def mb_2 (X : Nat × (Nat → Int32)) (k23 : Hp → Nat → Nat → Nat → Nat → Int32 → Option (Int32 × Hp)) (h : Hp) (x0 x1 x2 x3 : Nat) (x4 : Int32) : Option (Int32 × Hp) :=
bI (f_Lw_land h x1 x3) fun v52 h53 =>
if hS h53 x2 = 11 then (
bI (f_Model_land h53 x2) fun v56 h57 =>
if hS h57 x2 = 11 then (
bI (f_Model_thrown h57 x2) fun v60 h61 =>
if v60 = v52 then (
if v52 = 0 then (
if hS h61 x3 = 22 then (
if ib (0 : Int32) (hL h61 x3) = true then (
if (lg_cmp (hJ h61 x3 (ix (0 : Int32))) (Int32.toInt64 v56)) = 0 then (
f_Lw_main_b347 X  k23 h61 x0 x1 x2 x3 x4
) else (
some ((0 : Int32), h61)
)
) else none) else none
) else (
f_Lw_main_b347 X  k23 h61 x0 x1 x2 x3 x4
)
) else (
some ((0 : Int32), h61)
)
) else none) else none
def mb_3 (X : Nat × (Nat → Int32)) (k23 : Hp → Nat → Nat → Nat → Nat → Int32 → Option (Int32 × Hp)) (h : Hp) (x0 x1 x2 x3 : Nat) (x4 : Int32) : Option (Int32 × Hp) :=
bI (f_Lw_law h x1 x3) fun v69 h70 =>
if hS h70 x2 = 11 then (
bI (f_Model_law h70 x2) fun v73 h74 =>
if hS h74 x2 = 11 then (
bI (f_Model_thrown h74 x2) fun v77 h78 =>
if v77 = v69 then (
if v69 = 0 then (
if hS h78 x3 = 22 then (
if ib (0 : Int32) (hL h78 x3) = true then (
if (lg_cmp (hJ h78 x3 (ix (0 : Int32))) (Int32.toInt64 v73)) = 0 then (
f_Lw_main_b391 X  k23 h78 x0 x1 x2 x3 x4
) else (
some ((0 : Int32), h78)
)
) else none) else none
) else (
f_Lw_main_b391 X  k23 h78 x0 x1 x2 x3 x4
)
) else (
some ((0 : Int32), h78)
)
) else none) else none
def mb_4 (X : Nat × (Nat → Int32)) (k23 : Hp → Nat → Nat → Nat → Nat → Int32 → Option (Int32 × Hp)) (h : Hp) (x0 x1 x2 x3 : Nat) (x4 : Int32) : Option (Int32 × Hp) :=
if hS h x1 = 10 then (
bI (f_Water_fault h x1) fun v87 h88 =>
if hS h88 x2 = 11 then (
bI (f_Model_fault h88 x2) fun v91 h92 =>
if v87 = v91 then (
f_Lw_main_b2138 X  k23 h92 x0 x1 x2 x3 x4
) else (
some ((0 : Int32), h92)
)
) else none) else none
def mb_5 (X : Nat × (Nat → Int32)) (k23 : Hp → Nat → Nat → Nat → Nat → Int32 → Option (Int32 × Hp)) (h : Hp) (x0 x1 x2 x3 : Nat) (x4 : Int32) : Option (Int32 × Hp) :=
if x0 = SCR then (
if ib (x4 + (1 : Int32)) X.1 = true then (
if x0 = SCR then (
if ib (x4 + (2 : Int32)) X.1 = true then (
bI (f_Lw_cistern h x1 (X.2 (ix (x4 + (1 : Int32)))) (X.2 (ix (x4 + (2 : Int32)))) x3) fun v100 h101 =>
if x0 = SCR then (
if ib (x4 + (1 : Int32)) X.1 = true then (
if x0 = SCR then (
if ib (x4 + (2 : Int32)) X.1 = true then (
if hS h101 x2 = 11 then (
bI (f_Model_cistern h101 x2 (X.2 (ix (x4 + (1 : Int32)))) (X.2 (ix (x4 + (2 : Int32))))) fun v108 h109 =>
if hS h109 x2 = 11 then (
bI (f_Model_thrown h109 x2) fun v112 h113 =>
if v112 = v100 then (
if v100 = 0 then (
if hS h113 x3 = 22 then (
if ib (0 : Int32) (hL h113 x3) = true then (
if (lg_cmp (hJ h113 x3 (ix (0 : Int32))) (Int32.toInt64 v108)) = 0 then (
f_Lw_main_b472 X  k23 h113 x0 x1 x2 x3 x4
) else (
some ((0 : Int32), h113)
)
) else none) else none
) else (
f_Lw_main_b472 X  k23 h113 x0 x1 x2 x3 x4
)
) else (
some ((0 : Int32), h113)
)
) else none) else none) else none) else none) else none) else none) else none) else none) else none) else none
def mb_6 (X : Nat × (Nat → Int32)) (k23 : Hp → Nat → Nat → Nat → Nat → Int32 → Option (Int32 × Hp)) (h : Hp) (x0 x1 x2 x3 : Nat) (x4 : Int32) : Option (Int32 × Hp) :=
if x0 = SCR then (
if ib (x4 + (1 : Int32)) X.1 = true then (
if x0 = SCR then (
if ib (x4 + (2 : Int32)) X.1 = true then (
bI (f_Lw_layer h x1 (X.2 (ix (x4 + (1 : Int32)))) (X.2 (ix (x4 + (2 : Int32)))) x3) fun v125 h126 =>
if x0 = SCR then (
if ib (x4 + (1 : Int32)) X.1 = true then (
if x0 = SCR then (
if ib (x4 + (2 : Int32)) X.1 = true then (
if hS h126 x2 = 11 then (
bI (f_Model_layer h126 x2 (X.2 (ix (x4 + (1 : Int32)))) (X.2 (ix (x4 + (2 : Int32))))) fun v133 h134 =>
if hS h134 x2 = 11 then (
bI (f_Model_thrown h134 x2) fun v137 h138 =>
if v137 = v125 then (
if v125 = 0 then (
if hS h138 x3 = 22 then (
if ib (0 : Int32) (hL h138 x3) = true then (
if (lg_cmp (hJ h138 x3 (ix (0 : Int32))) (Int32.toInt64 v133)) = 0 then (
f_Lw_main_b540 X  k23 h138 x0 x1 x2 x3 x4
) else (
some ((0 : Int32), h138)
)
) else none) else none
) else (
f_Lw_main_b540 X  k23 h138 x0 x1 x2 x3 x4
)
) else (
some ((0 : Int32), h138)
)
) else none) else none) else none) else none) else none) else none) else none) else none) else none) else none
def mb_7 (X : Nat × (Nat → Int32)) (k23 : Hp → Nat → Nat → Nat → Nat → Int32 → Option (Int32 × Hp)) (h : Hp) (x0 x1 x2 x3 : Nat) (x4 : Int32) : Option (Int32 × Hp) :=
if x0 = SCR then (
if ib (x4 + (1 : Int32)) X.1 = true then (
bI (f_Lw_salt h x1 (X.2 (ix (x4 + (1 : Int32)))) x3) fun v148 h149 =>
if x0 = SCR then (
if ib (x4 + (1 : Int32)) X.1 = true then (
if hS h149 x2 = 11 then (
bI (f_Model_salt h149 x2 (X.2 (ix (x4 + (1 : Int32))))) fun v154 h155 =>
if hS h155 x2 = 11 then (
bI (f_Model_thrown h155 x2) fun v158 h159 =>
if v158 = v148 then (
if v148 = 0 then (
if hS h159 x3 = 22 then (
if ib (0 : Int32) (hL h159 x3) = true then (
if (lg_cmp (hJ h159 x3 (ix (0 : Int32))) (Int32.toInt64 v154)) = 0 then (
f_Lw_main_b596 X  k23 h159 x0 x1 x2 x3 x4
) else (
some ((0 : Int32), h159)
)
) else none) else none
) else (
f_Lw_main_b596 X  k23 h159 x0 x1 x2 x3 x4
)
) else (
some ((0 : Int32), h159)
)
) else none) else none) else none) else none) else none) else none
def mb_8 (X : Nat × (Nat → Int32)) (k23 : Hp → Nat → Nat → Nat → Nat → Int32 → Option (Int32 × Hp)) (h : Hp) (x0 x1 x2 x3 : Nat) (x4 : Int32) : Option (Int32 × Hp) :=
if x0 = SCR then (
if ib (x4 + (1 : Int32)) X.1 = true then (
if x0 = SCR then (
if ib (x4 + (2 : Int32)) X.1 = true then (
bI (f_Lw_house h x1 (X.2 (ix (x4 + (1 : Int32)))) (X.2 (ix (x4 + (2 : Int32)))) x3) fun v171 h172 =>
if x0 = SCR then (
if ib (x4 + (1 : Int32)) X.1 = true then (
if x0 = SCR then (
if ib (x4 + (2 : Int32)) X.1 = true then (
if hS h172 x2 = 11 then (
bI (f_Model_house h172 x2 (X.2 (ix (x4 + (1 : Int32)))) (X.2 (ix (x4 + (2 : Int32))))) fun v179 h180 =>
if hS h180 x2 = 11 then (
bI (f_Model_thrown h180 x2) fun v183 h184 =>
if v183 = v171 then (
if v171 = 0 then (
if hS h184 x3 = 22 then (
if ib (0 : Int32) (hL h184 x3) = true then (
if (lg_cmp (hJ h184 x3 (ix (0 : Int32))) (Int32.toInt64 v179)) = 0 then (
f_Lw_main_b664 X  k23 h184 x0 x1 x2 x3 x4
) else (
some ((0 : Int32), h184)
)
) else none) else none
) else (
f_Lw_main_b664 X  k23 h184 x0 x1 x2 x3 x4
)
) else (
some ((0 : Int32), h184)
)
) else none) else none) else none) else none) else none) else none) else none) else none) else none) else none
def mb_9 (X : Nat × (Nat → Int32)) (k23 : Hp → Nat → Nat → Nat → Nat → Int32 → Option (Int32 × Hp)) (h : Hp) (x0 x1 x2 x3 : Nat) (x4 : Int32) : Option (Int32 × Hp) :=
if x0 = SCR then (
if ib (x4 + (1 : Int32)) X.1 = true then (
if x0 = SCR then (
if ib (x4 + (2 : Int32)) X.1 = true then (
bI (f_Lw_drank h x1 (X.2 (ix (x4 + (1 : Int32)))) (X.2 (ix (x4 + (2 : Int32)))) x3) fun v196 h197 =>
if x0 = SCR then (
if ib (x4 + (1 : Int32)) X.1 = true then (
if x0 = SCR then (
if ib (x4 + (2 : Int32)) X.1 = true then (
if hS h197 x2 = 11 then (
bI (f_Model_drank h197 x2 (X.2 (ix (x4 + (1 : Int32)))) (X.2 (ix (x4 + (2 : Int32))))) fun v204 h205 =>
if hS h205 x2 = 11 then (
bI (f_Model_thrown h205 x2) fun v208 h209 =>
if v208 = v196 then (
if v196 = 0 then (
if hS h209 x3 = 22 then (
if ib (0 : Int32) (hL h209 x3) = true then (
if (lg_cmp (hJ h209 x3 (ix (0 : Int32))) (Int32.toInt64 v204)) = 0 then (
f_Lw_main_b732 X  k23 h209 x0 x1 x2 x3 x4
) else (
some ((0 : Int32), h209)
)
) else none) else none
) else (
f_Lw_main_b732 X  k23 h209 x0 x1 x2 x3 x4
)
) else (
some ((0 : Int32), h209)
)
) else none) else none) else none) else none) else none) else none) else none) else none) else none) else none
def mb_10 (X : Nat × (Nat → Int32)) (k23 : Hp → Nat → Nat → Nat → Nat → Int32 → Option (Int32 × Hp)) (h : Hp) (x0 x1 x2 x3 : Nat) (x4 : Int32) : Option (Int32 × Hp) :=
if x0 = SCR then (
if ib (x4 + (1 : Int32)) X.1 = true then (
if x0 = SCR then (
if ib (x4 + (2 : Int32)) X.1 = true then (
bI (f_Lw_place h x1 (X.2 (ix (x4 + (1 : Int32)))) (X.2 (ix (x4 + (2 : Int32)))) x3) fun v221 h222 =>
if x0 = SCR then (
if ib (x4 + (1 : Int32)) X.1 = true then (
if x0 = SCR then (
if ib (x4 + (2 : Int32)) X.1 = true then (
if hS h222 x2 = 11 then (
bI (f_Model_place h222 x2 (X.2 (ix (x4 + (1 : Int32)))) (X.2 (ix (x4 + (2 : Int32))))) fun v229 h230 =>
if hS h230 x2 = 11 then (
bI (f_Model_thrown h230 x2) fun v233 h234 =>
if v233 = v221 then (
if v221 = 0 then (
if hS h234 x3 = 22 then (
if ib (0 : Int32) (hL h234 x3) = true then (
if (lg_cmp (hJ h234 x3 (ix (0 : Int32))) (Int32.toInt64 v229)) = 0 then (
f_Lw_main_b800 X  k23 h234 x0 x1 x2 x3 x4
) else (
some ((0 : Int32), h234)
)
) else none) else none
) else (
f_Lw_main_b800 X  k23 h234 x0 x1 x2 x3 x4
)
) else (
some ((0 : Int32), h234)
)
) else none) else none) else none) else none) else none) else none) else none) else none) else none) else none
def mb_11 (X : Nat × (Nat → Int32)) (k23 : Hp → Nat → Nat → Nat → Nat → Int32 → Option (Int32 × Hp)) (h : Hp) (x0 x1 x2 x3 : Nat) (x4 : Int32) : Option (Int32 × Hp) :=
if x0 = SCR then (
if ib (x4 + (1 : Int32)) X.1 = true then (
bI (f_Lw_next h x1 (X.2 (ix (x4 + (1 : Int32)))) x3) fun v244 h245 =>
if x0 = SCR then (
if ib (x4 + (1 : Int32)) X.1 = true then (
if hS h245 x2 = 11 then (
bI (f_Model_next h245 x2 (X.2 (ix (x4 + (1 : Int32))))) fun v250 h251 =>
if hS h251 x2 = 11 then (
bI (f_Model_thrown h251 x2) fun v254 h255 =>
if v254 = v244 then (
if v244 = 0 then (
if hS h255 x3 = 22 then (
if ib (0 : Int32) (hL h255 x3) = true then (
if (lg_cmp (hJ h255 x3 (ix (0 : Int32))) (Int32.toInt64 v250)) = 0 then (
f_Lw_main_b856 X  k23 h255 x0 x1 x2 x3 x4
) else (
some ((0 : Int32), h255)
)
) else none) else none
) else (
f_Lw_main_b856 X  k23 h255 x0 x1 x2 x3 x4
)
) else (
some ((0 : Int32), h255)
)
) else none) else none) else none) else none) else none) else none
def mb_12 (X : Nat × (Nat → Int32)) (k23 : Hp → Nat → Nat → Nat → Nat → Int32 → Option (Int32 × Hp)) (h : Hp) (x0 x1 x2 x3 : Nat) (x4 : Int32) : Option (Int32 × Hp) :=
if x0 = SCR then (
if ib (x4 + (1 : Int32)) X.1 = true then (
bI (f_Lw_months h x1 (X.2 (ix (x4 + (1 : Int32)))) x3) fun v265 h266 =>
if x0 = SCR then (
if ib (x4 + (1 : Int32)) X.1 = true then (
if hS h266 x2 = 11 then (
bI (f_Model_months h266 x2 (X.2 (ix (x4 + (1 : Int32))))) fun v271 h272 =>
if hS h272 x2 = 11 then (
bI (f_Model_thrown h272 x2) fun v275 h276 =>
if v275 = v265 then (
if v265 = 0 then (
if hS h276 x3 = 22 then (
if ib (0 : Int32) (hL h276 x3) = true then (
if (lg_cmp (hJ h276 x3 (ix (0 : Int32))) (Int32.toInt64 v271)) = 0 then (
f_Lw_main_b912 X  k23 h276 x0 x1 x2 x3 x4
) else (
some ((0 : Int32), h276)
)
) else none) else none
) else (
f_Lw_main_b912 X  k23 h276 x0 x1 x2 x3 x4
)
) else (
some ((0 : Int32), h276)
)
) else none) else none) else none) else none) else none) else none
def mb_13 (X : Nat × (Nat → Int32)) (k23 : Hp → Nat → Nat → Nat → Nat → Int32 → Option (Int32 × Hp)) (h : Hp) (x0 x1 x2 x3 : Nat) (x4 : Int32) : Option (Int32 × Hp) :=
if hS h x1 = 10 then (
bI (f_Water_undo h x1) fun v285 h286 =>
if hS h286 x2 = 11 then (
bI (f_Model_undo h286 x2) fun v289 h290 =>
if v285 = v289 then (
f_Lw_main_b2138 X  k23 h290 x0 x1 x2 x3 x4
) else (
some ((0 : Int32), h290)
)
) else none) else none
def mb_14 (X : Nat × (Nat → Int32)) (k23 : Hp → Nat → Nat → Nat → Nat → Int32 → Option (Int32 × Hp)) (h : Hp) (x0 x1 x2 x3 : Nat) (x4 : Int32) : Option (Int32 × Hp) :=
if x0 = SCR then (
if ib (x4 + (1 : Int32)) X.1 = true then (
if x0 = SCR then (
if ib (x4 + (2 : Int32)) X.1 = true then (
bI (f_Lw_oath h x1 (X.2 (ix (x4 + (1 : Int32)))) (X.2 (ix (x4 + (2 : Int32)))) x3) fun v298 h299 =>
if x0 = SCR then (
if ib (x4 + (1 : Int32)) X.1 = true then (
if x0 = SCR then (
if ib (x4 + (2 : Int32)) X.1 = true then (
if hS h299 x2 = 11 then (
bI (f_Model_oath h299 x2 (X.2 (ix (x4 + (1 : Int32)))) (X.2 (ix (x4 + (2 : Int32))))) fun v306 h307 =>
if hS h307 x2 = 11 then (
bI (f_Model_thrown h307 x2) fun v310 h311 =>
if v310 = v298 then (
if v298 = 0 then (
if hS h311 x3 = 22 then (
if ib (0 : Int32) (hL h311 x3) = true then (
if (lg_cmp (hJ h311 x3 (ix (0 : Int32))) (Int32.toInt64 v306)) = 0 then (
f_Lw_main_b993 X  k23 h311 x0 x1 x2 x3 x4
) else (
some ((0 : Int32), h311)
)
) else none) else none
) else (
f_Lw_main_b993 X  k23 h311 x0 x1 x2 x3 x4
)
) else (
some ((0 : Int32), h311)
)
) else none) else none) else none) else none) else none) else none) else none) else none) else none) else none
def mb_15 (X : Nat × (Nat → Int32)) (k23 : Hp → Nat → Nat → Nat → Nat → Int32 → Option (Int32 × Hp)) (h : Hp) (x0 x1 x2 x3 : Nat) (x4 : Int32) : Option (Int32 × Hp) :=
if x0 = SCR then (
if ib (x4 + (1 : Int32)) X.1 = true then (
bI (f_Lw_winter h x1 (X.2 (ix (x4 + (1 : Int32)))) x3) fun v321 h322 =>
if x0 = SCR then (
if ib (x4 + (1 : Int32)) X.1 = true then (
if hS h322 x2 = 11 then (
bI (f_Model_winter h322 x2 (X.2 (ix (x4 + (1 : Int32))))) fun v327 h328 =>
if hS h328 x2 = 11 then (
bI (f_Model_thrown h328 x2) fun v331 h332 =>
if v331 = v321 then (
if v321 = 0 then (
if hS h332 x3 = 22 then (
if ib (0 : Int32) (hL h332 x3) = true then (
if (lg_cmp (hJ h332 x3 (ix (0 : Int32))) (Int32.toInt64 v327)) = 0 then (
f_Lw_main_b1049 X  k23 h332 x0 x1 x2 x3 x4
) else (
some ((0 : Int32), h332)
)
) else none) else none
) else (
f_Lw_main_b1049 X  k23 h332 x0 x1 x2 x3 x4
)
) else (
some ((0 : Int32), h332)
)
) else none) else none) else none) else none) else none) else none
def mb_16 (X : Nat × (Nat → Int32)) (k23 : Hp → Nat → Nat → Nat → Nat → Int32 → Option (Int32 × Hp)) (h : Hp) (x0 x1 x2 x3 : Nat) (x4 : Int32) : Option (Int32 × Hp) :=
if x0 = SCR then (
if ib (x4 + (1 : Int32)) X.1 = true then (
if x0 = SCR then (
if ib (x4 + (2 : Int32)) X.1 = true then (
if (X.2 (ix (x4 + (2 : Int32)))) = 0 then (
f_Lw_main_b1073 X  k23 h x0 x1 x2 x3 x4 x1 (X.2 (ix (x4 + (1 : Int32)))) (0 : Int32)
) else (
f_Lw_main_b1073 X  k23 h x0 x1 x2 x3 x4 x1 (X.2 (ix (x4 + (1 : Int32)))) (1 : Int32)
)
) else none) else none) else none) else none
def mb_17 (X : Nat × (Nat → Int32)) (k23 : Hp → Nat → Nat → Nat → Nat → Int32 → Option (Int32 × Hp)) (h : Hp) (x0 x1 x2 x3 : Nat) (x4 : Int32) : Option (Int32 × Hp) :=
if x0 = SCR then (
if ib (x4 + (1 : Int32)) X.1 = true then (
if hS h x1 = 10 then (
bI (f_Water_seed h x1 (X.2 (ix (x4 + (1 : Int32))))) fun v349 h350 =>
if x0 = SCR then (
if ib (x4 + (1 : Int32)) X.1 = true then (
if hS h350 x2 = 11 then (
bI (f_Model_seed h350 x2 (X.2 (ix (x4 + (1 : Int32))))) fun v355 h356 =>
if v349 = v355 then (
f_Lw_main_b2138 X  k23 h356 x0 x1 x2 x3 x4
) else (
some ((0 : Int32), h356)
)
) else none) else none) else none) else none) else none) else none
def mb_18 (X : Nat × (Nat → Int32)) (k23 : Hp → Nat → Nat → Nat → Nat → Int32 → Option (Int32 × Hp)) (h : Hp) (x0 x1 x2 x3 : Nat) (x4 : Int32) : Option (Int32 × Hp) :=
if x0 = SCR then (
if ib (x4 + (1 : Int32)) X.1 = true then (
if x0 = SCR then (
if ib (x4 + (2 : Int32)) X.1 = true then (
if x0 = SCR then (
if ib (x4 + (3 : Int32)) X.1 = true then (
bI (f_Lw_blend h x1 (X.2 (ix (x4 + (1 : Int32)))) (X.2 (ix (x4 + (2 : Int32)))) (X.2 (ix (x4 + (3 : Int32)))) x3) fun v366 h367 =>
if x0 = SCR then (
if ib (x4 + (1 : Int32)) X.1 = true then (
if x0 = SCR then (
if ib (x4 + (2 : Int32)) X.1 = true then (
if x0 = SCR then (
if ib (x4 + (3 : Int32)) X.1 = true then (
if hS h367 x2 = 11 then (
bI (f_Model_blend h367 x2 (X.2 (ix (x4 + (1 : Int32)))) (X.2 (ix (x4 + (2 : Int32)))) (X.2 (ix (x4 + (3 : Int32))))) fun v376 h377 =>
if hS h377 x2 = 11 then (
bI (f_Model_thrown h377 x2) fun v380 h381 =>
if v380 = v366 then (
if v366 = 0 then (
if hS h381 x3 = 22 then (
if ib (0 : Int32) (hL h381 x3) = true then (
if (lg_cmp (hJ h381 x3 (ix (0 : Int32))) (Int32.toInt64 v376)) = 0 then (
f_Lw_main_b1245 X  k23 h381 x0 x1 x2 x3 x4
) else (
some ((0 : Int32), h381)
)
) else none) else none
) else (
f_Lw_main_b1245 X  k23 h381 x0 x1 x2 x3 x4
)
) else (
some ((0 : Int32), h381)
)
) else none) else none) else none) else none) else none) else none) else none) else none) else none) else none) else none) else none) else none) else none
def mb_19 (X : Nat × (Nat → Int32)) (k23 : Hp → Nat → Nat → Nat → Nat → Int32 → Option (Int32 × Hp)) (h : Hp) (x0 x1 x2 x3 : Nat) (x4 : Int32) : Option (Int32 × Hp) :=
if hS h x1 = 10 then (
bI (f_Water_lasts h x1) fun v390 h391 =>
if hS h391 x2 = 11 then (
bI (f_Model_lasts h391 x2) fun v394 h395 =>
if v390 = v394 then (
f_Lw_main_b2138 X  k23 h395 x0 x1 x2 x3 x4
) else (
some ((0 : Int32), h395)
)
) else none) else none
def mb_20 (X : Nat × (Nat → Int32)) (k23 : Hp → Nat → Nat → Nat → Nat → Int32 → Option (Int32 × Hp)) (h : Hp) (x0 x1 x2 x3 : Nat) (x4 : Int32) : Option (Int32 × Hp) :=
if hS h x1 = 10 then (
bI (f_Water_worst h x1) fun v400 h401 =>
if hS h401 x2 = 11 then (
bI (f_Model_worst h401 x2) fun v404 h405 =>
if v400 = v404 then (
f_Lw_main_b2138 X  k23 h405 x0 x1 x2 x3 x4
) else (
some ((0 : Int32), h405)
)
) else none) else none
def mb_21 (X : Nat × (Nat → Int32)) (k23 : Hp → Nat → Nat → Nat → Nat → Int32 → Option (Int32 × Hp)) (h : Hp) (x0 x1 x2 x3 : Nat) (x4 : Int32) : Option (Int32 × Hp) :=
bI (f_Lw_judge h x1 x3) fun v409 h410 =>
if hS h410 x2 = 11 then (
bI (f_Model_judge h410 x2) fun v413 h414 =>
if hS h414 x2 = 11 then (
bI (f_Model_thrown h414 x2) fun v417 h418 =>
if v417 = v409 then (
if v409 = 0 then (
if hS h418 x3 = 22 then (
if ib (0 : Int32) (hL h418 x3) = true then (
if (lg_cmp (hJ h418 x3 (ix (0 : Int32))) (Int32.toInt64 v413)) = 0 then (
f_Lw_main_b1315 X  k23 h418 x0 x1 x2 x3 x4
) else (
some ((0 : Int32), h418)
)
) else none) else none
) else (
f_Lw_main_b1315 X  k23 h418 x0 x1 x2 x3 x4
)
) else (
some ((0 : Int32), h418)
)
) else none) else none
def mb_22 (X : Nat × (Nat → Int32)) (k23 : Hp → Nat → Nat → Nat → Nat → Int32 → Option (Int32 × Hp)) (h : Hp) (x0 x1 x2 x3 : Nat) (x4 : Int32) : Option (Int32 × Hp) :=
if x0 = SCR then (
if ib (x4 + (1 : Int32)) X.1 = true then (
if x0 = SCR then (
if ib (x4 + (2 : Int32)) X.1 = true then (
if x0 = SCR then (
if ib (x4 + (3 : Int32)) X.1 = true then (
if x0 = SCR then (
if ib (x4 + (4 : Int32)) X.1 = true then (
if x0 = SCR then (
if ib (x4 + (5 : Int32)) X.1 = true then (
bI (f_Lw_swap h x1 (X.2 (ix (x4 + (1 : Int32)))) (X.2 (ix (x4 + (2 : Int32)))) (X.2 (ix (x4 + (3 : Int32)))) (X.2 (ix (x4 + (4 : Int32)))) (X.2 (ix (x4 + (5 : Int32)))) x3) fun v436 h437 =>
if x0 = SCR then (
if ib (x4 + (1 : Int32)) X.1 = true then (
if x0 = SCR then (
if ib (x4 + (2 : Int32)) X.1 = true then (
if x0 = SCR then (
if ib (x4 + (3 : Int32)) X.1 = true then (
if x0 = SCR then (
if ib (x4 + (4 : Int32)) X.1 = true then (
if x0 = SCR then (
if ib (x4 + (5 : Int32)) X.1 = true then (
if hS h437 x2 = 11 then (
bI (f_Model_swap h437 x2 (X.2 (ix (x4 + (1 : Int32)))) (X.2 (ix (x4 + (2 : Int32)))) (X.2 (ix (x4 + (3 : Int32)))) (X.2 (ix (x4 + (4 : Int32)))) (X.2 (ix (x4 + (5 : Int32))))) fun v450 h451 =>
if hS h451 x2 = 11 then (
bI (f_Model_thrown h451 x2) fun v454 h455 =>
if v454 = v436 then (
if v436 = 0 then (
if hS h455 x3 = 22 then (
if ib (0 : Int32) (hL h455 x3) = true then (
if (lg_cmp (hJ h455 x3 (ix (0 : Int32))) (Int32.toInt64 v450)) = 0 then (
f_Lw_main_b1419 X  k23 h455 x0 x1 x2 x3 x4
) else (
some ((0 : Int32), h455)
)
) else none) else none
) else (
f_Lw_main_b1419 X  k23 h455 x0 x1 x2 x3 x4
)
) else (
some ((0 : Int32), h455)
)
) else none) else none) else none) else none) else none) else none) else none) else none) else none) else none) else none) else none) else none) else none) else none) else none) else none) else none) else none) else none) else none) else none
def mb_23 (X : Nat × (Nat → Int32)) (k23 : Hp → Nat → Nat → Nat → Nat → Int32 → Option (Int32 × Hp)) (h : Hp) (x0 x1 x2 x3 : Nat) (x4 : Int32) : Option (Int32 × Hp) :=
if x0 = SCR then (
if ib (x4 + (1 : Int32)) X.1 = true then (
if hS h x1 = 10 then (
bI (f_Water_foul h x1 (X.2 (ix (x4 + (1 : Int32))))) fun v466 h467 =>
if x0 = SCR then (
if ib (x4 + (1 : Int32)) X.1 = true then (
if hS h467 x2 = 11 then (
bI (f_Model_foul h467 x2 (X.2 (ix (x4 + (1 : Int32))))) fun v472 h473 =>
if v466 = v472 then (
f_Lw_main_b2138 X  k23 h473 x0 x1 x2 x3 x4
) else (
some ((0 : Int32), h473)
)
) else none) else none) else none) else none) else none) else none
def mb_24 (X : Nat × (Nat → Int32)) (k23 : Hp → Nat → Nat → Nat → Nat → Int32 → Option (Int32 × Hp)) (h : Hp) (x0 x1 x2 x3 : Nat) (x4 : Int32) : Option (Int32 × Hp) :=
if x0 = SCR then (
if ib (x4 + (1 : Int32)) X.1 = true then (
if hS h x1 = 10 then (
bI (f_Water_fewest h x1 (X.2 (ix (x4 + (1 : Int32))))) fun v480 h481 =>
if x0 = SCR then (
if ib (x4 + (1 : Int32)) X.1 = true then (
if hS h481 x2 = 11 then (
bI (f_Model_fewest h481 x2 (X.2 (ix (x4 + (1 : Int32))))) fun v486 h487 =>
if v480 = v486 then (
f_Lw_main_b2138 X  k23 h487 x0 x1 x2 x3 x4
) else (
some ((0 : Int32), h487)
)
) else none) else none) else none) else none) else none) else none
def mb_25 (X : Nat × (Nat → Int32)) (k23 : Hp → Nat → Nat → Nat → Nat → Int32 → Option (Int32 × Hp)) (h : Hp) (x0 x1 x2 x3 : Nat) (x4 : Int32) : Option (Int32 × Hp) :=
bI (f_Lw_look h x1 x3) fun v491 h492 =>
if hS h492 x2 = 11 then (
bI (f_Model_look h492 x2) fun v495 h496 =>
if hS h496 x2 = 11 then (
bI (f_Model_thrown h496 x2) fun v499 h500 =>
if v499 = v491 then (
if v491 = 0 then (
if hS h500 x3 = 22 then (
if ib (0 : Int32) (hL h500 x3) = true then (
if (lg_cmp (hJ h500 x3 (ix (0 : Int32))) (Int32.toInt64 v495)) = 0 then (
f_Lw_main_b1513 X  k23 h500 x0 x1 x2 x3 x4
) else (
some ((0 : Int32), h500)
)
) else none) else none
) else (
f_Lw_main_b1513 X  k23 h500 x0 x1 x2 x3 x4
)
) else (
some ((0 : Int32), h500)
)
) else none) else none
def mb_26 (X : Nat × (Nat → Int32)) (k23 : Hp → Nat → Nat → Nat → Nat → Int32 → Option (Int32 × Hp)) (h : Hp) (x0 x1 x2 x3 : Nat) (x4 : Int32) : Option (Int32 × Hp) :=
if x0 = SCR then (
if ib (x4 + (1 : Int32)) X.1 = true then (
bI (f_Lw_site h x1 (X.2 (ix (x4 + (1 : Int32)))) x3) fun v510 h511 =>
if x0 = SCR then (
if ib (x4 + (1 : Int32)) X.1 = true then (
if hS h511 x2 = 11 then (
bI (f_Model_site h511 x2 (X.2 (ix (x4 + (1 : Int32))))) fun v516 h517 =>
if hS h517 x2 = 11 then (
bI (f_Model_thrown h517 x2) fun v520 h521 =>
if v520 = v510 then (
if v510 = 0 then (
if hS h521 x3 = 22 then (
if ib (0 : Int32) (hL h521 x3) = true then (
if (lg_cmp (hJ h521 x3 (ix (0 : Int32))) (Int32.toInt64 v516)) = 0 then (
f_Lw_main_b1569 X  k23 h521 x0 x1 x2 x3 x4
) else (
some ((0 : Int32), h521)
)
) else none) else none
) else (
f_Lw_main_b1569 X  k23 h521 x0 x1 x2 x3 x4
)
) else (
some ((0 : Int32), h521)
)
) else none) else none) else none) else none) else none) else none
def mb_27 (X : Nat × (Nat → Int32)) (k23 : Hp → Nat → Nat → Nat → Nat → Int32 → Option (Int32 × Hp)) (h : Hp) (x0 x1 x2 x3 : Nat) (x4 : Int32) : Option (Int32 × Hp) :=
if x0 = SCR then (
if ib (x4 + (1 : Int32)) X.1 = true then (
if x0 = SCR then (
if ib (x4 + (2 : Int32)) X.1 = true then (
bI (f_Lw_owed h x1 (X.2 (ix (x4 + (1 : Int32)))) (X.2 (ix (x4 + (2 : Int32)))) x3) fun v533 h534 =>
if x0 = SCR then (
if ib (x4 + (1 : Int32)) X.1 = true then (
if x0 = SCR then (
if ib (x4 + (2 : Int32)) X.1 = true then (
if hS h534 x2 = 11 then (
bI (f_Model_owed h534 x2 (X.2 (ix (x4 + (1 : Int32)))) (X.2 (ix (x4 + (2 : Int32))))) fun v541 h542 =>
if hS h542 x2 = 11 then (
bI (f_Model_thrown h542 x2) fun v545 h546 =>
if v545 = v533 then (
if v533 = 0 then (
if hS h546 x3 = 22 then (
if ib (0 : Int32) (hL h546 x3) = true then (
if (lg_cmp (hJ h546 x3 (ix (0 : Int32))) (Int32.toInt64 v541)) = 0 then (
f_Lw_main_b1637 X  k23 h546 x0 x1 x2 x3 x4
) else (
some ((0 : Int32), h546)
)
) else none) else none
) else (
f_Lw_main_b1637 X  k23 h546 x0 x1 x2 x3 x4
)
) else (
some ((0 : Int32), h546)
)
) else none) else none) else none) else none) else none) else none) else none) else none) else none) else none
def mb_28 (X : Nat × (Nat → Int32)) (k23 : Hp → Nat → Nat → Nat → Nat → Int32 → Option (Int32 × Hp)) (h : Hp) (x0 x1 x2 x3 : Nat) (x4 : Int32) : Option (Int32 × Hp) :=
if x0 = SCR then (
if ib (x4 + (1 : Int32)) X.1 = true then (
if x0 = SCR then (
if ib (x4 + (2 : Int32)) X.1 = true then (
if x0 = SCR then (
if ib (x4 + (3 : Int32)) X.1 = true then (
bI (f_Lw_owe h x1 (X.2 (ix (x4 + (1 : Int32)))) (X.2 (ix (x4 + (2 : Int32)))) (X.2 (ix (x4 + (3 : Int32)))) x3) fun v560 h561 =>
if x0 = SCR then (
if ib (x4 + (1 : Int32)) X.1 = true then (
if x0 = SCR then (
if ib (x4 + (2 : Int32)) X.1 = true then (
if x0 = SCR then (
if ib (x4 + (3 : Int32)) X.1 = true then (
if hS h561 x2 = 11 then (
bI (f_Model_owe h561 x2 (X.2 (ix (x4 + (1 : Int32)))) (X.2 (ix (x4 + (2 : Int32)))) (X.2 (ix (x4 + (3 : Int32))))) fun v570 h571 =>
if hS h571 x2 = 11 then (
bI (f_Model_thrown h571 x2) fun v574 h575 =>
if v574 = v560 then (
if v560 = 0 then (
if hS h575 x3 = 22 then (
if ib (0 : Int32) (hL h575 x3) = true then (
if (lg_cmp (hJ h575 x3 (ix (0 : Int32))) (Int32.toInt64 v570)) = 0 then (
f_Lw_main_b1717 X  k23 h575 x0 x1 x2 x3 x4
) else (
some ((0 : Int32), h575)
)
) else none) else none
) else (
f_Lw_main_b1717 X  k23 h575 x0 x1 x2 x3 x4
)
) else (
some ((0 : Int32), h575)
)
) else none) else none) else none) else none) else none) else none) else none) else none) else none) else none) else none) else none) else none) else none
def mb_29 (X : Nat × (Nat → Int32)) (k23 : Hp → Nat → Nat → Nat → Nat → Int32 → Option (Int32 × Hp)) (h : Hp) (x0 x1 x2 x3 : Nat) (x4 : Int32) : Option (Int32 × Hp) :=
if x0 = SCR then (
if ib (x4 + (1 : Int32)) X.1 = true then (
bI (f_Lw_debt h x1 (X.2 (ix (x4 + (1 : Int32)))) x3) fun v585 h586 =>
if x0 = SCR then (
if ib (x4 + (1 : Int32)) X.1 = true then (
if hS h586 x2 = 11 then (
bI (f_Model_debt h586 x2 (X.2 (ix (x4 + (1 : Int32))))) fun v591 h592 =>
if hS h592 x2 = 11 then (
bI (f_Model_thrown h592 x2) fun v595 h596 =>
if v595 = v585 then (
if v585 = 0 then (
if hS h596 x3 = 22 then (
if ib (0 : Int32) (hL h596 x3) = true then (
if (lg_cmp (hJ h596 x3 (ix (0 : Int32))) (Int32.toInt64 v591)) = 0 then (
f_Lw_main_b1773 X  k23 h596 x0 x1 x2 x3 x4
) else (
some ((0 : Int32), h596)
)
) else none) else none
) else (
f_Lw_main_b1773 X  k23 h596 x0 x1 x2 x3 x4
)
) else (
some ((0 : Int32), h596)
)
) else none) else none) else none) else none) else none) else none
def mb_30 (X : Nat × (Nat → Int32)) (k23 : Hp → Nat → Nat → Nat → Nat → Int32 → Option (Int32 × Hp)) (h : Hp) (x0 x1 x2 x3 : Nat) (x4 : Int32) : Option (Int32 × Hp) :=
if x0 = SCR then (
if ib (x4 + (1 : Int32)) X.1 = true then (
bI (f_Lw_settle h x1 (X.2 (ix (x4 + (1 : Int32)))) x3) fun v606 h607 =>
if x0 = SCR then (
if ib (x4 + (1 : Int32)) X.1 = true then (
if hS h607 x2 = 11 then (
bI (f_Model_settle h607 x2 (X.2 (ix (x4 + (1 : Int32))))) fun v612 h613 =>
if hS h613 x2 = 11 then (
bI (f_Model_thrown h613 x2) fun v616 h617 =>
if v616 = v606 then (
if v606 = 0 then (
if hS h617 x3 = 22 then (
if ib (0 : Int32) (hL h617 x3) = true then (
if (lg_cmp (hJ h617 x3 (ix (0 : Int32))) (Int32.toInt64 v612)) = 0 then (
f_Lw_main_b1829 X  k23 h617 x0 x1 x2 x3 x4
) else (
some ((0 : Int32), h617)
)
) else none) else none
) else (
f_Lw_main_b1829 X  k23 h617 x0 x1 x2 x3 x4
)
) else (
some ((0 : Int32), h617)
)
) else none) else none) else none) else none) else none) else none
def mb_31 (X : Nat × (Nat → Int32)) (k23 : Hp → Nat → Nat → Nat → Nat → Int32 → Option (Int32 × Hp)) (h : Hp) (x0 x1 x2 x3 : Nat) (x4 : Int32) : Option (Int32 × Hp) :=
if x0 = SCR then (
if ib (x4 + (1 : Int32)) X.1 = true then (
if x0 = SCR then (
if ib (x4 + (2 : Int32)) X.1 = true then (
if x0 = SCR then (
if ib (x4 + (3 : Int32)) X.1 = true then (
bI (f_Lw_mix h x1 (X.2 (ix (x4 + (1 : Int32)))) (X.2 (ix (x4 + (2 : Int32)))) (X.2 (ix (x4 + (3 : Int32)))) x3) fun v631 h632 =>
if x0 = SCR then (
if ib (x4 + (1 : Int32)) X.1 = true then (
if x0 = SCR then (
if ib (x4 + (2 : Int32)) X.1 = true then (
if x0 = SCR then (
if ib (x4 + (3 : Int32)) X.1 = true then (
if hS h632 x2 = 11 then (
bI (f_Model_mix h632 x2 (X.2 (ix (x4 + (1 : Int32)))) (X.2 (ix (x4 + (2 : Int32)))) (X.2 (ix (x4 + (3 : Int32))))) fun v641 h642 =>
if hS h642 x2 = 11 then (
bI (f_Model_thrown h642 x2) fun v645 h646 =>
if v645 = v631 then (
if v631 = 0 then (
if hS h646 x3 = 22 then (
if ib (0 : Int32) (hL h646 x3) = true then (
if (lg_cmp (hJ h646 x3 (ix (0 : Int32))) (Int32.toInt64 v641)) = 0 then (
f_Lw_main_b1909 X  k23 h646 x0 x1 x2 x3 x4
) else (
some ((0 : Int32), h646)
)
) else none) else none
) else (
f_Lw_main_b1909 X  k23 h646 x0 x1 x2 x3 x4
)
) else (
some ((0 : Int32), h646)
)
) else none) else none) else none) else none) else none) else none) else none) else none) else none) else none) else none) else none) else none) else none
def mb_32 (X : Nat × (Nat → Int32)) (k23 : Hp → Nat → Nat → Nat → Nat → Int32 → Option (Int32 × Hp)) (h : Hp) (x0 x1 x2 x3 : Nat) (x4 : Int32) : Option (Int32 × Hp) :=
if x0 = SCR then (
if ib (x4 + (1 : Int32)) X.1 = true then (
if (X.2 (ix (x4 + (1 : Int32)))) = 0 then (
f_Lw_main_b1927 X  k23 h x0 x1 x2 x3 x4 x1 (0 : Int32)
) else (
f_Lw_main_b1927 X  k23 h x0 x1 x2 x3 x4 x1 (1 : Int32)
)
) else none) else none
def mb_33 (X : Nat × (Nat → Int32)) (k23 : Hp → Nat → Nat → Nat → Nat → Int32 → Option (Int32 × Hp)) (h : Hp) (x0 x1 x2 x3 : Nat) (x4 : Int32) : Option (Int32 × Hp) :=
if x0 = SCR then (
if ib (x4 + (1 : Int32)) X.1 = true then (
if x0 = SCR then (
if ib (x4 + (2 : Int32)) X.1 = true then (
bI (f_Lw_enough h x1 (X.2 (ix (x4 + (1 : Int32)))) (X.2 (ix (x4 + (2 : Int32)))) x3) fun v662 h663 =>
if x0 = SCR then (
if ib (x4 + (1 : Int32)) X.1 = true then (
if x0 = SCR then (
if ib (x4 + (2 : Int32)) X.1 = true then (
if hS h663 x2 = 11 then (
bI (f_Model_enough h663 x2 (X.2 (ix (x4 + (1 : Int32)))) (X.2 (ix (x4 + (2 : Int32))))) fun v670 h671 =>
if hS h671 x2 = 11 then (
bI (f_Model_thrown h671 x2) fun v674 h675 =>
if v674 = v662 then (
if v662 = 0 then (
if hS h675 x3 = 22 then (
if ib (0 : Int32) (hL h675 x3) = true then (
if (lg_cmp (hJ h675 x3 (ix (0 : Int32))) (Int32.toInt64 v670)) = 0 then (
f_Lw_main_b2018 X  k23 h675 x0 x1 x2 x3 x4
) else (
some ((0 : Int32), h675)
)
) else none) else none
) else (
f_Lw_main_b2018 X  k23 h675 x0 x1 x2 x3 x4
)
) else (
some ((0 : Int32), h675)
)
) else none) else none) else none) else none) else none) else none) else none) else none) else none) else none
def mb_34 (X : Nat × (Nat → Int32)) (k23 : Hp → Nat → Nat → Nat → Nat → Int32 → Option (Int32 × Hp)) (h : Hp) (x0 x1 x2 x3 : Nat) (x4 : Int32) : Option (Int32 × Hp) :=
if x0 = SCR then (
if ib (x4 + (1 : Int32)) X.1 = true then (
if x0 = SCR then (
if ib (x4 + (2 : Int32)) X.1 = true then (
bI (f_Lw_latest h x1 (X.2 (ix (x4 + (1 : Int32)))) (X.2 (ix (x4 + (2 : Int32)))) x3) fun v687 h688 =>
if x0 = SCR then (
if ib (x4 + (1 : Int32)) X.1 = true then (
if x0 = SCR then (
if ib (x4 + (2 : Int32)) X.1 = true then (
if hS h688 x2 = 11 then (
bI (f_Model_latest h688 x2 (X.2 (ix (x4 + (1 : Int32)))) (X.2 (ix (x4 + (2 : Int32))))) fun v695 h696 =>
if hS h696 x2 = 11 then (
bI (f_Model_thrown h696 x2) fun v699 h700 =>
if v699 = v687 then (
if v687 = 0 then (
if hS h700 x3 = 22 then (
if ib (0 : Int32) (hL h700 x3) = true then (
if (lg_cmp (hJ h700 x3 (ix (0 : Int32))) (Int32.toInt64 v695)) = 0 then (
f_Lw_main_b2086 X  k23 h700 x0 x1 x2 x3 x4
) else (
some ((0 : Int32), h700)
)
) else none) else none
) else (
f_Lw_main_b2086 X  k23 h700 x0 x1 x2 x3 x4
)
) else (
some ((0 : Int32), h700)
)
) else none) else none) else none) else none) else none) else none) else none) else none) else none) else none
def mb_35 (X : Nat × (Nat → Int32)) (k23 : Hp → Nat → Nat → Nat → Nat → Int32 → Option (Int32 × Hp)) (h : Hp) (x0 x1 x2 x3 : Nat) (x4 : Int32) : Option (Int32 × Hp) :=
if hS h x1 = 10 then (
bV (f_Water_image h x1) fun h710 =>
if hS h710 x2 = 11 then (
bV (f_Model_image h710 x2) fun h714 =>
f_Lw_main_b2138 X  k23 h714 x0 x1 x2 x3 x4
) else none) else none
def mb_36 (X : Nat × (Nat → Int32)) (k23 : Hp → Nat → Nat → Nat → Nat → Int32 → Option (Int32 × Hp)) (h : Hp) (x0 x1 x2 x3 : Nat) (x4 : Int32) : Option (Int32 × Hp) :=
if hS h x1 = 10 then (
bI (f_Water_back h x1) fun v718 h719 =>
if hS h719 x2 = 11 then (
bI (f_Model_back h719 x2) fun v722 h723 =>
if v718 = v722 then (
f_Lw_main_b2138 X  k23 h723 x0 x1 x2 x3 x4
) else (
some ((0 : Int32), h723)
)
) else none) else none
def mb_37 (X : Nat × (Nat → Int32)) (k23 : Hp → Nat → Nat → Nat → Nat → Int32 → Option (Int32 × Hp)) (h : Hp) (x0 x1 x2 x3 : Nat) (x4 : Int32) : Option (Int32 × Hp) :=
if x0 = SCR then (
if ib (x4 + (1 : Int32)) X.1 = true then (
if hS h x1 = 10 then (
bI (f_Water_count h x1 (X.2 (ix (x4 + (1 : Int32))))) fun v730 h731 =>
if x0 = SCR then (
if ib (x4 + (1 : Int32)) X.1 = true then (
if hS h731 x2 = 11 then (
bI (f_Model_count h731 x2 (X.2 (ix (x4 + (1 : Int32))))) fun v736 h737 =>
if v730 = v736 then (
f_Lw_main_b2138 X  k23 h737 x0 x1 x2 x3 x4
) else (
some ((0 : Int32), h737)
)
) else none) else none) else none) else none) else none) else none
def mx_38 (X : Nat × (Nat → Int32)) (k23 : Hp → Nat → Nat → Nat → Nat → Int32 → Option (Int32 × Hp)) (h : Hp) (x0 x1 x2 x3 : Nat) (x4 : Int32) : Option (Int32 × Hp) := f_Lw_main_b2138 X k23 h x0 x1 x2 x3 x4
def mx_37 (X : Nat × (Nat → Int32)) (k23 : Hp → Nat → Nat → Nat → Nat → Int32 → Option (Int32 × Hp)) (h : Hp) (x0 x1 x2 x3 : Nat) (x4 : Int32) : Option (Int32 × Hp) := if ((X.2 (ix x4)) &&& (63 : Int32)) = (37 : Int32) then mb_37 X k23 h x0 x1 x2 x3 x4 else mx_38 X k23 h x0 x1 x2 x3 x4
def mx_36 (X : Nat × (Nat → Int32)) (k23 : Hp → Nat → Nat → Nat → Nat → Int32 → Option (Int32 × Hp)) (h : Hp) (x0 x1 x2 x3 : Nat) (x4 : Int32) : Option (Int32 × Hp) := if ((X.2 (ix x4)) &&& (63 : Int32)) = (36 : Int32) then mb_36 X k23 h x0 x1 x2 x3 x4 else mx_37 X k23 h x0 x1 x2 x3 x4
def mx_35 (X : Nat × (Nat → Int32)) (k23 : Hp → Nat → Nat → Nat → Nat → Int32 → Option (Int32 × Hp)) (h : Hp) (x0 x1 x2 x3 : Nat) (x4 : Int32) : Option (Int32 × Hp) := if ((X.2 (ix x4)) &&& (63 : Int32)) = (35 : Int32) then mb_35 X k23 h x0 x1 x2 x3 x4 else mx_36 X k23 h x0 x1 x2 x3 x4
def mx_34 (X : Nat × (Nat → Int32)) (k23 : Hp → Nat → Nat → Nat → Nat → Int32 → Option (Int32 × Hp)) (h : Hp) (x0 x1 x2 x3 : Nat) (x4 : Int32) : Option (Int32 × Hp) := if ((X.2 (ix x4)) &&& (63 : Int32)) = (34 : Int32) then mb_34 X k23 h x0 x1 x2 x3 x4 else mx_35 X k23 h x0 x1 x2 x3 x4
def mx_33 (X : Nat × (Nat → Int32)) (k23 : Hp → Nat → Nat → Nat → Nat → Int32 → Option (Int32 × Hp)) (h : Hp) (x0 x1 x2 x3 : Nat) (x4 : Int32) : Option (Int32 × Hp) := if ((X.2 (ix x4)) &&& (63 : Int32)) = (33 : Int32) then mb_33 X k23 h x0 x1 x2 x3 x4 else mx_34 X k23 h x0 x1 x2 x3 x4
def mx_32 (X : Nat × (Nat → Int32)) (k23 : Hp → Nat → Nat → Nat → Nat → Int32 → Option (Int32 × Hp)) (h : Hp) (x0 x1 x2 x3 : Nat) (x4 : Int32) : Option (Int32 × Hp) := if ((X.2 (ix x4)) &&& (63 : Int32)) = (32 : Int32) then mb_32 X k23 h x0 x1 x2 x3 x4 else mx_33 X k23 h x0 x1 x2 x3 x4
def mx_31 (X : Nat × (Nat → Int32)) (k23 : Hp → Nat → Nat → Nat → Nat → Int32 → Option (Int32 × Hp)) (h : Hp) (x0 x1 x2 x3 : Nat) (x4 : Int32) : Option (Int32 × Hp) := if ((X.2 (ix x4)) &&& (63 : Int32)) = (31 : Int32) then mb_31 X k23 h x0 x1 x2 x3 x4 else mx_32 X k23 h x0 x1 x2 x3 x4
def mx_30 (X : Nat × (Nat → Int32)) (k23 : Hp → Nat → Nat → Nat → Nat → Int32 → Option (Int32 × Hp)) (h : Hp) (x0 x1 x2 x3 : Nat) (x4 : Int32) : Option (Int32 × Hp) := if ((X.2 (ix x4)) &&& (63 : Int32)) = (30 : Int32) then mb_30 X k23 h x0 x1 x2 x3 x4 else mx_31 X k23 h x0 x1 x2 x3 x4
def mx_29 (X : Nat × (Nat → Int32)) (k23 : Hp → Nat → Nat → Nat → Nat → Int32 → Option (Int32 × Hp)) (h : Hp) (x0 x1 x2 x3 : Nat) (x4 : Int32) : Option (Int32 × Hp) := if ((X.2 (ix x4)) &&& (63 : Int32)) = (29 : Int32) then mb_29 X k23 h x0 x1 x2 x3 x4 else mx_30 X k23 h x0 x1 x2 x3 x4
def mx_28 (X : Nat × (Nat → Int32)) (k23 : Hp → Nat → Nat → Nat → Nat → Int32 → Option (Int32 × Hp)) (h : Hp) (x0 x1 x2 x3 : Nat) (x4 : Int32) : Option (Int32 × Hp) := if ((X.2 (ix x4)) &&& (63 : Int32)) = (28 : Int32) then mb_28 X k23 h x0 x1 x2 x3 x4 else mx_29 X k23 h x0 x1 x2 x3 x4
def mx_27 (X : Nat × (Nat → Int32)) (k23 : Hp → Nat → Nat → Nat → Nat → Int32 → Option (Int32 × Hp)) (h : Hp) (x0 x1 x2 x3 : Nat) (x4 : Int32) : Option (Int32 × Hp) := if ((X.2 (ix x4)) &&& (63 : Int32)) = (27 : Int32) then mb_27 X k23 h x0 x1 x2 x3 x4 else mx_28 X k23 h x0 x1 x2 x3 x4
def mx_26 (X : Nat × (Nat → Int32)) (k23 : Hp → Nat → Nat → Nat → Nat → Int32 → Option (Int32 × Hp)) (h : Hp) (x0 x1 x2 x3 : Nat) (x4 : Int32) : Option (Int32 × Hp) := if ((X.2 (ix x4)) &&& (63 : Int32)) = (26 : Int32) then mb_26 X k23 h x0 x1 x2 x3 x4 else mx_27 X k23 h x0 x1 x2 x3 x4
def mx_25 (X : Nat × (Nat → Int32)) (k23 : Hp → Nat → Nat → Nat → Nat → Int32 → Option (Int32 × Hp)) (h : Hp) (x0 x1 x2 x3 : Nat) (x4 : Int32) : Option (Int32 × Hp) := if ((X.2 (ix x4)) &&& (63 : Int32)) = (25 : Int32) then mb_25 X k23 h x0 x1 x2 x3 x4 else mx_26 X k23 h x0 x1 x2 x3 x4
def mx_24 (X : Nat × (Nat → Int32)) (k23 : Hp → Nat → Nat → Nat → Nat → Int32 → Option (Int32 × Hp)) (h : Hp) (x0 x1 x2 x3 : Nat) (x4 : Int32) : Option (Int32 × Hp) := if ((X.2 (ix x4)) &&& (63 : Int32)) = (24 : Int32) then mb_24 X k23 h x0 x1 x2 x3 x4 else mx_25 X k23 h x0 x1 x2 x3 x4
def mx_23 (X : Nat × (Nat → Int32)) (k23 : Hp → Nat → Nat → Nat → Nat → Int32 → Option (Int32 × Hp)) (h : Hp) (x0 x1 x2 x3 : Nat) (x4 : Int32) : Option (Int32 × Hp) := if ((X.2 (ix x4)) &&& (63 : Int32)) = (23 : Int32) then mb_23 X k23 h x0 x1 x2 x3 x4 else mx_24 X k23 h x0 x1 x2 x3 x4
def mx_22 (X : Nat × (Nat → Int32)) (k23 : Hp → Nat → Nat → Nat → Nat → Int32 → Option (Int32 × Hp)) (h : Hp) (x0 x1 x2 x3 : Nat) (x4 : Int32) : Option (Int32 × Hp) := if ((X.2 (ix x4)) &&& (63 : Int32)) = (22 : Int32) then mb_22 X k23 h x0 x1 x2 x3 x4 else mx_23 X k23 h x0 x1 x2 x3 x4
def mx_21 (X : Nat × (Nat → Int32)) (k23 : Hp → Nat → Nat → Nat → Nat → Int32 → Option (Int32 × Hp)) (h : Hp) (x0 x1 x2 x3 : Nat) (x4 : Int32) : Option (Int32 × Hp) := if ((X.2 (ix x4)) &&& (63 : Int32)) = (21 : Int32) then mb_21 X k23 h x0 x1 x2 x3 x4 else mx_22 X k23 h x0 x1 x2 x3 x4
def mx_20 (X : Nat × (Nat → Int32)) (k23 : Hp → Nat → Nat → Nat → Nat → Int32 → Option (Int32 × Hp)) (h : Hp) (x0 x1 x2 x3 : Nat) (x4 : Int32) : Option (Int32 × Hp) := if ((X.2 (ix x4)) &&& (63 : Int32)) = (20 : Int32) then mb_20 X k23 h x0 x1 x2 x3 x4 else mx_21 X k23 h x0 x1 x2 x3 x4
def mx_19 (X : Nat × (Nat → Int32)) (k23 : Hp → Nat → Nat → Nat → Nat → Int32 → Option (Int32 × Hp)) (h : Hp) (x0 x1 x2 x3 : Nat) (x4 : Int32) : Option (Int32 × Hp) := if ((X.2 (ix x4)) &&& (63 : Int32)) = (19 : Int32) then mb_19 X k23 h x0 x1 x2 x3 x4 else mx_20 X k23 h x0 x1 x2 x3 x4
def mx_18 (X : Nat × (Nat → Int32)) (k23 : Hp → Nat → Nat → Nat → Nat → Int32 → Option (Int32 × Hp)) (h : Hp) (x0 x1 x2 x3 : Nat) (x4 : Int32) : Option (Int32 × Hp) := if ((X.2 (ix x4)) &&& (63 : Int32)) = (18 : Int32) then mb_18 X k23 h x0 x1 x2 x3 x4 else mx_19 X k23 h x0 x1 x2 x3 x4
def mx_17 (X : Nat × (Nat → Int32)) (k23 : Hp → Nat → Nat → Nat → Nat → Int32 → Option (Int32 × Hp)) (h : Hp) (x0 x1 x2 x3 : Nat) (x4 : Int32) : Option (Int32 × Hp) := if ((X.2 (ix x4)) &&& (63 : Int32)) = (17 : Int32) then mb_17 X k23 h x0 x1 x2 x3 x4 else mx_18 X k23 h x0 x1 x2 x3 x4
def mx_16 (X : Nat × (Nat → Int32)) (k23 : Hp → Nat → Nat → Nat → Nat → Int32 → Option (Int32 × Hp)) (h : Hp) (x0 x1 x2 x3 : Nat) (x4 : Int32) : Option (Int32 × Hp) := if ((X.2 (ix x4)) &&& (63 : Int32)) = (16 : Int32) then mb_16 X k23 h x0 x1 x2 x3 x4 else mx_17 X k23 h x0 x1 x2 x3 x4
def mx_15 (X : Nat × (Nat → Int32)) (k23 : Hp → Nat → Nat → Nat → Nat → Int32 → Option (Int32 × Hp)) (h : Hp) (x0 x1 x2 x3 : Nat) (x4 : Int32) : Option (Int32 × Hp) := if ((X.2 (ix x4)) &&& (63 : Int32)) = (15 : Int32) then mb_15 X k23 h x0 x1 x2 x3 x4 else mx_16 X k23 h x0 x1 x2 x3 x4
def mx_14 (X : Nat × (Nat → Int32)) (k23 : Hp → Nat → Nat → Nat → Nat → Int32 → Option (Int32 × Hp)) (h : Hp) (x0 x1 x2 x3 : Nat) (x4 : Int32) : Option (Int32 × Hp) := if ((X.2 (ix x4)) &&& (63 : Int32)) = (14 : Int32) then mb_14 X k23 h x0 x1 x2 x3 x4 else mx_15 X k23 h x0 x1 x2 x3 x4
def mx_13 (X : Nat × (Nat → Int32)) (k23 : Hp → Nat → Nat → Nat → Nat → Int32 → Option (Int32 × Hp)) (h : Hp) (x0 x1 x2 x3 : Nat) (x4 : Int32) : Option (Int32 × Hp) := if ((X.2 (ix x4)) &&& (63 : Int32)) = (13 : Int32) then mb_13 X k23 h x0 x1 x2 x3 x4 else mx_14 X k23 h x0 x1 x2 x3 x4
def mx_12 (X : Nat × (Nat → Int32)) (k23 : Hp → Nat → Nat → Nat → Nat → Int32 → Option (Int32 × Hp)) (h : Hp) (x0 x1 x2 x3 : Nat) (x4 : Int32) : Option (Int32 × Hp) := if ((X.2 (ix x4)) &&& (63 : Int32)) = (12 : Int32) then mb_12 X k23 h x0 x1 x2 x3 x4 else mx_13 X k23 h x0 x1 x2 x3 x4
def mx_11 (X : Nat × (Nat → Int32)) (k23 : Hp → Nat → Nat → Nat → Nat → Int32 → Option (Int32 × Hp)) (h : Hp) (x0 x1 x2 x3 : Nat) (x4 : Int32) : Option (Int32 × Hp) := if ((X.2 (ix x4)) &&& (63 : Int32)) = (11 : Int32) then mb_11 X k23 h x0 x1 x2 x3 x4 else mx_12 X k23 h x0 x1 x2 x3 x4
def mx_10 (X : Nat × (Nat → Int32)) (k23 : Hp → Nat → Nat → Nat → Nat → Int32 → Option (Int32 × Hp)) (h : Hp) (x0 x1 x2 x3 : Nat) (x4 : Int32) : Option (Int32 × Hp) := if ((X.2 (ix x4)) &&& (63 : Int32)) = (10 : Int32) then mb_10 X k23 h x0 x1 x2 x3 x4 else mx_11 X k23 h x0 x1 x2 x3 x4
def mx_9 (X : Nat × (Nat → Int32)) (k23 : Hp → Nat → Nat → Nat → Nat → Int32 → Option (Int32 × Hp)) (h : Hp) (x0 x1 x2 x3 : Nat) (x4 : Int32) : Option (Int32 × Hp) := if ((X.2 (ix x4)) &&& (63 : Int32)) = (9 : Int32) then mb_9 X k23 h x0 x1 x2 x3 x4 else mx_10 X k23 h x0 x1 x2 x3 x4
def mx_8 (X : Nat × (Nat → Int32)) (k23 : Hp → Nat → Nat → Nat → Nat → Int32 → Option (Int32 × Hp)) (h : Hp) (x0 x1 x2 x3 : Nat) (x4 : Int32) : Option (Int32 × Hp) := if ((X.2 (ix x4)) &&& (63 : Int32)) = (8 : Int32) then mb_8 X k23 h x0 x1 x2 x3 x4 else mx_9 X k23 h x0 x1 x2 x3 x4
def mx_7 (X : Nat × (Nat → Int32)) (k23 : Hp → Nat → Nat → Nat → Nat → Int32 → Option (Int32 × Hp)) (h : Hp) (x0 x1 x2 x3 : Nat) (x4 : Int32) : Option (Int32 × Hp) := if ((X.2 (ix x4)) &&& (63 : Int32)) = (7 : Int32) then mb_7 X k23 h x0 x1 x2 x3 x4 else mx_8 X k23 h x0 x1 x2 x3 x4
def mx_6 (X : Nat × (Nat → Int32)) (k23 : Hp → Nat → Nat → Nat → Nat → Int32 → Option (Int32 × Hp)) (h : Hp) (x0 x1 x2 x3 : Nat) (x4 : Int32) : Option (Int32 × Hp) := if ((X.2 (ix x4)) &&& (63 : Int32)) = (6 : Int32) then mb_6 X k23 h x0 x1 x2 x3 x4 else mx_7 X k23 h x0 x1 x2 x3 x4
def mx_5 (X : Nat × (Nat → Int32)) (k23 : Hp → Nat → Nat → Nat → Nat → Int32 → Option (Int32 × Hp)) (h : Hp) (x0 x1 x2 x3 : Nat) (x4 : Int32) : Option (Int32 × Hp) := if ((X.2 (ix x4)) &&& (63 : Int32)) = (5 : Int32) then mb_5 X k23 h x0 x1 x2 x3 x4 else mx_6 X k23 h x0 x1 x2 x3 x4
def mx_4 (X : Nat × (Nat → Int32)) (k23 : Hp → Nat → Nat → Nat → Nat → Int32 → Option (Int32 × Hp)) (h : Hp) (x0 x1 x2 x3 : Nat) (x4 : Int32) : Option (Int32 × Hp) := if ((X.2 (ix x4)) &&& (63 : Int32)) = (4 : Int32) then mb_4 X k23 h x0 x1 x2 x3 x4 else mx_5 X k23 h x0 x1 x2 x3 x4
def mx_3 (X : Nat × (Nat → Int32)) (k23 : Hp → Nat → Nat → Nat → Nat → Int32 → Option (Int32 × Hp)) (h : Hp) (x0 x1 x2 x3 : Nat) (x4 : Int32) : Option (Int32 × Hp) := if ((X.2 (ix x4)) &&& (63 : Int32)) = (3 : Int32) then mb_3 X k23 h x0 x1 x2 x3 x4 else mx_4 X k23 h x0 x1 x2 x3 x4
def mx_2 (X : Nat × (Nat → Int32)) (k23 : Hp → Nat → Nat → Nat → Nat → Int32 → Option (Int32 × Hp)) (h : Hp) (x0 x1 x2 x3 : Nat) (x4 : Int32) : Option (Int32 × Hp) := if ((X.2 (ix x4)) &&& (63 : Int32)) = (2 : Int32) then mb_2 X k23 h x0 x1 x2 x3 x4 else mx_3 X k23 h x0 x1 x2 x3 x4
def mx_1 (X : Nat × (Nat → Int32)) (k23 : Hp → Nat → Nat → Nat → Nat → Int32 → Option (Int32 × Hp)) (h : Hp) (x0 x1 x2 x3 : Nat) (x4 : Int32) : Option (Int32 × Hp) := if ((X.2 (ix x4)) &&& (63 : Int32)) = (1 : Int32) then mb_1 X k23 h x0 x1 x2 x3 x4 else mx_2 X k23 h x0 x1 x2 x3 x4
def mx_0 (X : Nat × (Nat → Int32)) (k23 : Hp → Nat → Nat → Nat → Nat → Int32 → Option (Int32 × Hp)) (h : Hp) (x0 x1 x2 x3 : Nat) (x4 : Int32) : Option (Int32 × Hp) := if ((X.2 (ix x4)) &&& (63 : Int32)) = (0 : Int32) then mb_0 X k23 h x0 x1 x2 x3 x4 else mx_1 X k23 h x0 x1 x2 x3 x4
theorem mx_eq {X : Nat × (Nat → Int32)} {k23 : Hp → Nat → Nat → Nat → Nat → Int32 → Option (Int32 × Hp)} {h : Hp} {x0 x1 x2 x3 : Nat} {x4 : Int32} : f_Lw_main_b23 X k23 h x0 x1 x2 x3 x4 = 
if x0 = SCR then ( if ((Int32.ofNat X.1) - (6 : Int32)) < x4 then ( some ((1 : Int32), h) ) else ( if x0 = SCR then ( if ib x4 X.1 = true then ( mx_0 X k23 h x0 x1 x2 x3 x4 ) else none) else none ) ) else none := rfl
theorem lg_self {a : Int64} : lg_cmp a a = 0 := (lg_cmp_eq a a).mpr rfl
section STv
variable {X : Nat × (Nat → Int32)} {k9 : Hp → Nat → Nat → Nat → Nat → Int32 → Option (Int32 × Hp)} {h : Hp} {i M : Nat}
/-- the call is done alike -/
def GD (M : Nat) (h : Hp) (i : Nat) (k9 : Hp → Nat → Nat → Nat → Nat → Int32 → Option (Int32 × Hp)) (o : Option (Int32 × Hp)) : Prop := ∃ h', o = k9 h' SCR 1 755 765 (nI (i + 6)) ∧ INV (M + 60) h' (hI h') ∧ hN h' ≤ hN h + 1170 ∧ hZ h' ≤ hZ h + 14000
/-- what is owed of a call that throws nothing .. -/
def VSp (M : Nat) (fw fm : Hp → Option (Int32 × Hp)) : Prop := ∀ H, INV M H (hI H) → ∃ v H1 H2, fw H = some (v, H1) ∧ TS H1 ∧ fm H1 = some (v, H2) ∧ INV (M + 60) H2 (hI H2) ∧ hN H2 ≤ hN H + 1170 ∧ hZ H2 ≤ hZ H + 14000
/-- .. and of one that may throw -/
def LSp (M : Nat) (fl fm : Hp → Option (Int32 × Hp)) : Prop := ∀ H, INV M H (hI H) → ∃ k H1 b H2, fl H = some (k, H1) ∧ TS H1 ∧ fm H1 = some (b, H2) ∧ hI H2 755 0 = k ∧ (k = 0 → hJ H2 765 0 = Int32.toInt64 b) ∧ INV (M + 60) H2 (hI H2) ∧ hN H2 ≤ hN H + 1170 ∧ hZ H2 ≤ hZ H + 14000
theorem N_thrown (t : TS h) : f_Model_thrown h 755 = some (hI h 755 0, h) := by
  unfold f_Model_thrown f_Model_thrown_b0
  rw [if_pos t.td.1.1]
theorem TS.j22 (t : TS h) : hS h 765 = 22 ∧ hL h 765 = 1 := t.2.2.2.2.2.2.2.2.2.2.2
theorem st_0 (hX : X.1 ≤ 3072) (hi : i + 6 ≤ X.1) (I : INV M h (hI h)) (sp : VSp M (fun H => f_Water_feed H 1 (X.2 (i + 1)) (X.2 (i + 2)) (X.2 (i + 3)) (X.2 (i + 4)) (X.2 (i + 5))) (fun H => f_Model_feed H 755 (X.2 (i + 1)) (X.2 (i + 2)) (X.2 (i + 3)) (X.2 (i + 4)) (X.2 (i + 5)))) : GD M h i k9 (mb_0 X k9 h SCR 1 755 765 (nI i)) := by
  obtain ⟨v, H1, H2, e1, t1, e2, I2, n2, z2⟩ := sp h I
  have w1 := I.1.td.2.1.1
  have w2 := t1.td.1.1
  unfold mb_0
  rw [show nI i + (1 : Int32) = nI (i + 1) from nI_add i 1, show nI i + (2 : Int32) = nI (i + 2) from nI_add i 2, show nI i + (3 : Int32) = nI (i + 3) from nI_add i 3, show nI i + (4 : Int32) = nI (i + 4) from nI_add i 4, show nI i + (5 : Int32) = nI (i + 5) from nI_add i 5, if_pos rfl, if_pos (ib_n (show i + 1 < X.1 by omega) (by omega)), if_pos rfl, if_pos (ib_n (show i + 2 < X.1 by omega) (by omega)), if_pos rfl, if_pos (ib_n (show i + 3 < X.1 by omega) (by omega)), if_pos rfl, if_pos (ib_n (show i + 4 < X.1 by omega) (by omega)), if_pos rfl, if_pos (ib_n (show i + 5 < X.1 by omega) (by omega)), if_pos w1, ix_n (show i + 1 < 2 ^ 31 by omega), ix_n (show i + 2 < 2 ^ 31 by omega), ix_n (show i + 3 < 2 ^ 31 by omega), ix_n (show i + 4 < 2 ^ 31 by omega), ix_n (show i + 5 < 2 ^ 31 by omega)]
  have e1' : f_Water_feed h 1 (X.2 (i + 1)) (X.2 (i + 2)) (X.2 (i + 3)) (X.2 (i + 4)) (X.2 (i + 5)) = some (v, H1) := e1
  have e2' : f_Model_feed H1 755 (X.2 (i + 1)) (X.2 (i + 2)) (X.2 (i + 3)) (X.2 (i + 4)) (X.2 (i + 5)) = some (v, H2) := e2
  rw [e1', bI_s, if_pos rfl, if_pos (ib_n (show i + 1 < X.1 by omega) (by omega)), if_pos rfl, if_pos (ib_n (show i + 2 < X.1 by omega) (by omega)), if_pos rfl, if_pos (ib_n (show i + 3 < X.1 by omega) (by omega)), if_pos rfl, if_pos (ib_n (show i + 4 < X.1 by omega) (by omega)), if_pos rfl, if_pos (ib_n (show i + 5 < X.1 by omega) (by omega)), if_pos w2, e2', bI_s, if_pos rfl]
  unfold f_Lw_main_b2138
  rw [show nI i + (6 : Int32) = nI (i + 6) from nI_add i 6]
  exact ⟨H2, rfl, I2, n2, z2⟩
theorem st_1 (hX : X.1 ≤ 3072) (hi : i + 6 ≤ X.1) (I : INV M h (hI h)) (sp : VSp M (fun H => f_Water_end H 1 (X.2 (i + 1))) (fun H => f_Model_end H 755 (X.2 (i + 1)))) : GD M h i k9 (mb_1 X k9 h SCR 1 755 765 (nI i)) := by
  obtain ⟨v, H1, H2, e1, t1, e2, I2, n2, z2⟩ := sp h I
  have w1 := I.1.td.2.1.1
  have w2 := t1.td.1.1
  unfold mb_1
  rw [show nI i + (1 : Int32) = nI (i + 1) from nI_add i 1, if_pos rfl, if_pos (ib_n (show i + 1 < X.1 by omega) (by omega)), if_pos w1, ix_n (show i + 1 < 2 ^ 31 by omega)]
  have e1' : f_Water_end h 1 (X.2 (i + 1)) = some (v, H1) := e1
  have e2' : f_Model_end H1 755 (X.2 (i + 1)) = some (v, H2) := e2
  rw [e1', bI_s, if_pos rfl, if_pos (ib_n (show i + 1 < X.1 by omega) (by omega)), if_pos w2, e2', bI_s, if_pos rfl]
  unfold f_Lw_main_b2138
  rw [show nI i + (6 : Int32) = nI (i + 6) from nI_add i 6]
  exact ⟨H2, rfl, I2, n2, z2⟩
theorem st_2 (hX : X.1 ≤ 3072) (hi : i + 6 ≤ X.1) (I : INV M h (hI h)) (sp : LSp M (fun H => f_Lw_land H 1 765) (fun H => f_Model_land H 755)) : GD M h i k9 (mb_2 X k9 h SCR 1 755 765 (nI i)) := by
  obtain ⟨kk, H1, b, H2, e1, t1, e2, tk, jk, I2, n2, z2⟩ := sp h I
  have w2 := t1.td.1.1
  have w3 := I2.1.td.1.1
  obtain ⟨j1, j2⟩ := I2.1.j22
  unfold mb_2
  have e1' : f_Lw_land h 1 765 = some (kk, H1) := e1
  have e2' : f_Model_land H1 755 = some (b, H2) := e2
  rw [e1', bI_s, if_pos w2, e2', bI_s, if_pos w3, N_thrown I2.1, bI_s, tk, if_pos rfl]
  unfold f_Lw_main_b347 f_Lw_main_b2138
  rw [show nI i + (6 : Int32) = nI (i + 6) from nI_add i 6]
  by_cases q : kk = 0
  · rw [if_pos q, if_pos j1, j2, if_pos (ib_z (by decide)), ix_0, jk q, lg_self, if_pos rfl]
    exact ⟨H2, rfl, I2, n2, z2⟩
  · rw [if_neg q]
    exact ⟨H2, rfl, I2, n2, z2⟩
theorem st_3 (hX : X.1 ≤ 3072) (hi : i + 6 ≤ X.1) (I : INV M h (hI h)) (sp : LSp M (fun H => f_Lw_law H 1 765) (fun H => f_Model_law H 755)) : GD M h i k9 (mb_3 X k9 h SCR 1 755 765 (nI i)) := by
  obtain ⟨kk, H1, b, H2, e1, t1, e2, tk, jk, I2, n2, z2⟩ := sp h I
  have w2 := t1.td.1.1
  have w3 := I2.1.td.1.1
  obtain ⟨j1, j2⟩ := I2.1.j22
  unfold mb_3
  have e1' : f_Lw_law h 1 765 = some (kk, H1) := e1
  have e2' : f_Model_law H1 755 = some (b, H2) := e2
  rw [e1', bI_s, if_pos w2, e2', bI_s, if_pos w3, N_thrown I2.1, bI_s, tk, if_pos rfl]
  unfold f_Lw_main_b391 f_Lw_main_b2138
  rw [show nI i + (6 : Int32) = nI (i + 6) from nI_add i 6]
  by_cases q : kk = 0
  · rw [if_pos q, if_pos j1, j2, if_pos (ib_z (by decide)), ix_0, jk q, lg_self, if_pos rfl]
    exact ⟨H2, rfl, I2, n2, z2⟩
  · rw [if_neg q]
    exact ⟨H2, rfl, I2, n2, z2⟩
theorem st_4 (hX : X.1 ≤ 3072) (hi : i + 6 ≤ X.1) (I : INV M h (hI h)) (sp : VSp M (fun H => f_Water_fault H 1) (fun H => f_Model_fault H 755)) : GD M h i k9 (mb_4 X k9 h SCR 1 755 765 (nI i)) := by
  obtain ⟨v, H1, H2, e1, t1, e2, I2, n2, z2⟩ := sp h I
  have w1 := I.1.td.2.1.1
  have w2 := t1.td.1.1
  unfold mb_4
  rw [if_pos w1]
  have e1' : f_Water_fault h 1 = some (v, H1) := e1
  have e2' : f_Model_fault H1 755 = some (v, H2) := e2
  rw [e1', bI_s, if_pos w2, e2', bI_s, if_pos rfl]
  unfold f_Lw_main_b2138
  rw [show nI i + (6 : Int32) = nI (i + 6) from nI_add i 6]
  exact ⟨H2, rfl, I2, n2, z2⟩
theorem st_5 (hX : X.1 ≤ 3072) (hi : i + 6 ≤ X.1) (I : INV M h (hI h)) (sp : LSp M (fun H => f_Lw_cistern H 1 (X.2 (i + 1)) (X.2 (i + 2)) 765) (fun H => f_Model_cistern H 755 (X.2 (i + 1)) (X.2 (i + 2)))) : GD M h i k9 (mb_5 X k9 h SCR 1 755 765 (nI i)) := by
  obtain ⟨kk, H1, b, H2, e1, t1, e2, tk, jk, I2, n2, z2⟩ := sp h I
  have w2 := t1.td.1.1
  have w3 := I2.1.td.1.1
  obtain ⟨j1, j2⟩ := I2.1.j22
  unfold mb_5
  rw [show nI i + (1 : Int32) = nI (i + 1) from nI_add i 1, show nI i + (2 : Int32) = nI (i + 2) from nI_add i 2, if_pos rfl, if_pos (ib_n (show i + 1 < X.1 by omega) (by omega)), if_pos rfl, if_pos (ib_n (show i + 2 < X.1 by omega) (by omega)), ix_n (show i + 1 < 2 ^ 31 by omega), ix_n (show i + 2 < 2 ^ 31 by omega)]
  have e1' : f_Lw_cistern h 1 (X.2 (i + 1)) (X.2 (i + 2)) 765 = some (kk, H1) := e1
  have e2' : f_Model_cistern H1 755 (X.2 (i + 1)) (X.2 (i + 2)) = some (b, H2) := e2
  rw [e1', bI_s, if_pos rfl, if_pos (ib_n (show i + 1 < X.1 by omega) (by omega)), if_pos rfl, if_pos (ib_n (show i + 2 < X.1 by omega) (by omega)), if_pos w2, e2', bI_s, if_pos w3, N_thrown I2.1, bI_s, tk, if_pos rfl]
  unfold f_Lw_main_b472 f_Lw_main_b2138
  rw [show nI i + (6 : Int32) = nI (i + 6) from nI_add i 6]
  by_cases q : kk = 0
  · rw [if_pos q, if_pos j1, j2, if_pos (ib_z (by decide)), ix_0, jk q, lg_self, if_pos rfl]
    exact ⟨H2, rfl, I2, n2, z2⟩
  · rw [if_neg q]
    exact ⟨H2, rfl, I2, n2, z2⟩
theorem st_6 (hX : X.1 ≤ 3072) (hi : i + 6 ≤ X.1) (I : INV M h (hI h)) (sp : LSp M (fun H => f_Lw_layer H 1 (X.2 (i + 1)) (X.2 (i + 2)) 765) (fun H => f_Model_layer H 755 (X.2 (i + 1)) (X.2 (i + 2)))) : GD M h i k9 (mb_6 X k9 h SCR 1 755 765 (nI i)) := by
  obtain ⟨kk, H1, b, H2, e1, t1, e2, tk, jk, I2, n2, z2⟩ := sp h I
  have w2 := t1.td.1.1
  have w3 := I2.1.td.1.1
  obtain ⟨j1, j2⟩ := I2.1.j22
  unfold mb_6
  rw [show nI i + (1 : Int32) = nI (i + 1) from nI_add i 1, show nI i + (2 : Int32) = nI (i + 2) from nI_add i 2, if_pos rfl, if_pos (ib_n (show i + 1 < X.1 by omega) (by omega)), if_pos rfl, if_pos (ib_n (show i + 2 < X.1 by omega) (by omega)), ix_n (show i + 1 < 2 ^ 31 by omega), ix_n (show i + 2 < 2 ^ 31 by omega)]
  have e1' : f_Lw_layer h 1 (X.2 (i + 1)) (X.2 (i + 2)) 765 = some (kk, H1) := e1
  have e2' : f_Model_layer H1 755 (X.2 (i + 1)) (X.2 (i + 2)) = some (b, H2) := e2
  rw [e1', bI_s, if_pos rfl, if_pos (ib_n (show i + 1 < X.1 by omega) (by omega)), if_pos rfl, if_pos (ib_n (show i + 2 < X.1 by omega) (by omega)), if_pos w2, e2', bI_s, if_pos w3, N_thrown I2.1, bI_s, tk, if_pos rfl]
  unfold f_Lw_main_b540 f_Lw_main_b2138
  rw [show nI i + (6 : Int32) = nI (i + 6) from nI_add i 6]
  by_cases q : kk = 0
  · rw [if_pos q, if_pos j1, j2, if_pos (ib_z (by decide)), ix_0, jk q, lg_self, if_pos rfl]
    exact ⟨H2, rfl, I2, n2, z2⟩
  · rw [if_neg q]
    exact ⟨H2, rfl, I2, n2, z2⟩
theorem st_7 (hX : X.1 ≤ 3072) (hi : i + 6 ≤ X.1) (I : INV M h (hI h)) (sp : LSp M (fun H => f_Lw_salt H 1 (X.2 (i + 1)) 765) (fun H => f_Model_salt H 755 (X.2 (i + 1)))) : GD M h i k9 (mb_7 X k9 h SCR 1 755 765 (nI i)) := by
  obtain ⟨kk, H1, b, H2, e1, t1, e2, tk, jk, I2, n2, z2⟩ := sp h I
  have w2 := t1.td.1.1
  have w3 := I2.1.td.1.1
  obtain ⟨j1, j2⟩ := I2.1.j22
  unfold mb_7
  rw [show nI i + (1 : Int32) = nI (i + 1) from nI_add i 1, if_pos rfl, if_pos (ib_n (show i + 1 < X.1 by omega) (by omega)), ix_n (show i + 1 < 2 ^ 31 by omega)]
  have e1' : f_Lw_salt h 1 (X.2 (i + 1)) 765 = some (kk, H1) := e1
  have e2' : f_Model_salt H1 755 (X.2 (i + 1)) = some (b, H2) := e2
  rw [e1', bI_s, if_pos rfl, if_pos (ib_n (show i + 1 < X.1 by omega) (by omega)), if_pos w2, e2', bI_s, if_pos w3, N_thrown I2.1, bI_s, tk, if_pos rfl]
  unfold f_Lw_main_b596 f_Lw_main_b2138
  rw [show nI i + (6 : Int32) = nI (i + 6) from nI_add i 6]
  by_cases q : kk = 0
  · rw [if_pos q, if_pos j1, j2, if_pos (ib_z (by decide)), ix_0, jk q, lg_self, if_pos rfl]
    exact ⟨H2, rfl, I2, n2, z2⟩
  · rw [if_neg q]
    exact ⟨H2, rfl, I2, n2, z2⟩
theorem st_8 (hX : X.1 ≤ 3072) (hi : i + 6 ≤ X.1) (I : INV M h (hI h)) (sp : LSp M (fun H => f_Lw_house H 1 (X.2 (i + 1)) (X.2 (i + 2)) 765) (fun H => f_Model_house H 755 (X.2 (i + 1)) (X.2 (i + 2)))) : GD M h i k9 (mb_8 X k9 h SCR 1 755 765 (nI i)) := by
  obtain ⟨kk, H1, b, H2, e1, t1, e2, tk, jk, I2, n2, z2⟩ := sp h I
  have w2 := t1.td.1.1
  have w3 := I2.1.td.1.1
  obtain ⟨j1, j2⟩ := I2.1.j22
  unfold mb_8
  rw [show nI i + (1 : Int32) = nI (i + 1) from nI_add i 1, show nI i + (2 : Int32) = nI (i + 2) from nI_add i 2, if_pos rfl, if_pos (ib_n (show i + 1 < X.1 by omega) (by omega)), if_pos rfl, if_pos (ib_n (show i + 2 < X.1 by omega) (by omega)), ix_n (show i + 1 < 2 ^ 31 by omega), ix_n (show i + 2 < 2 ^ 31 by omega)]
  have e1' : f_Lw_house h 1 (X.2 (i + 1)) (X.2 (i + 2)) 765 = some (kk, H1) := e1
  have e2' : f_Model_house H1 755 (X.2 (i + 1)) (X.2 (i + 2)) = some (b, H2) := e2
  rw [e1', bI_s, if_pos rfl, if_pos (ib_n (show i + 1 < X.1 by omega) (by omega)), if_pos rfl, if_pos (ib_n (show i + 2 < X.1 by omega) (by omega)), if_pos w2, e2', bI_s, if_pos w3, N_thrown I2.1, bI_s, tk, if_pos rfl]
  unfold f_Lw_main_b664 f_Lw_main_b2138
  rw [show nI i + (6 : Int32) = nI (i + 6) from nI_add i 6]
  by_cases q : kk = 0
  · rw [if_pos q, if_pos j1, j2, if_pos (ib_z (by decide)), ix_0, jk q, lg_self, if_pos rfl]
    exact ⟨H2, rfl, I2, n2, z2⟩
  · rw [if_neg q]
    exact ⟨H2, rfl, I2, n2, z2⟩
theorem st_9 (hX : X.1 ≤ 3072) (hi : i + 6 ≤ X.1) (I : INV M h (hI h)) (sp : LSp M (fun H => f_Lw_drank H 1 (X.2 (i + 1)) (X.2 (i + 2)) 765) (fun H => f_Model_drank H 755 (X.2 (i + 1)) (X.2 (i + 2)))) : GD M h i k9 (mb_9 X k9 h SCR 1 755 765 (nI i)) := by
  obtain ⟨kk, H1, b, H2, e1, t1, e2, tk, jk, I2, n2, z2⟩ := sp h I
  have w2 := t1.td.1.1
  have w3 := I2.1.td.1.1
  obtain ⟨j1, j2⟩ := I2.1.j22
  unfold mb_9
  rw [show nI i + (1 : Int32) = nI (i + 1) from nI_add i 1, show nI i + (2 : Int32) = nI (i + 2) from nI_add i 2, if_pos rfl, if_pos (ib_n (show i + 1 < X.1 by omega) (by omega)), if_pos rfl, if_pos (ib_n (show i + 2 < X.1 by omega) (by omega)), ix_n (show i + 1 < 2 ^ 31 by omega), ix_n (show i + 2 < 2 ^ 31 by omega)]
  have e1' : f_Lw_drank h 1 (X.2 (i + 1)) (X.2 (i + 2)) 765 = some (kk, H1) := e1
  have e2' : f_Model_drank H1 755 (X.2 (i + 1)) (X.2 (i + 2)) = some (b, H2) := e2
  rw [e1', bI_s, if_pos rfl, if_pos (ib_n (show i + 1 < X.1 by omega) (by omega)), if_pos rfl, if_pos (ib_n (show i + 2 < X.1 by omega) (by omega)), if_pos w2, e2', bI_s, if_pos w3, N_thrown I2.1, bI_s, tk, if_pos rfl]
  unfold f_Lw_main_b732 f_Lw_main_b2138
  rw [show nI i + (6 : Int32) = nI (i + 6) from nI_add i 6]
  by_cases q : kk = 0
  · rw [if_pos q, if_pos j1, j2, if_pos (ib_z (by decide)), ix_0, jk q, lg_self, if_pos rfl]
    exact ⟨H2, rfl, I2, n2, z2⟩
  · rw [if_neg q]
    exact ⟨H2, rfl, I2, n2, z2⟩
theorem st_10 (hX : X.1 ≤ 3072) (hi : i + 6 ≤ X.1) (I : INV M h (hI h)) (sp : LSp M (fun H => f_Lw_place H 1 (X.2 (i + 1)) (X.2 (i + 2)) 765) (fun H => f_Model_place H 755 (X.2 (i + 1)) (X.2 (i + 2)))) : GD M h i k9 (mb_10 X k9 h SCR 1 755 765 (nI i)) := by
  obtain ⟨kk, H1, b, H2, e1, t1, e2, tk, jk, I2, n2, z2⟩ := sp h I
  have w2 := t1.td.1.1
  have w3 := I2.1.td.1.1
  obtain ⟨j1, j2⟩ := I2.1.j22
  unfold mb_10
  rw [show nI i + (1 : Int32) = nI (i + 1) from nI_add i 1, show nI i + (2 : Int32) = nI (i + 2) from nI_add i 2, if_pos rfl, if_pos (ib_n (show i + 1 < X.1 by omega) (by omega)), if_pos rfl, if_pos (ib_n (show i + 2 < X.1 by omega) (by omega)), ix_n (show i + 1 < 2 ^ 31 by omega), ix_n (show i + 2 < 2 ^ 31 by omega)]
  have e1' : f_Lw_place h 1 (X.2 (i + 1)) (X.2 (i + 2)) 765 = some (kk, H1) := e1
  have e2' : f_Model_place H1 755 (X.2 (i + 1)) (X.2 (i + 2)) = some (b, H2) := e2
  rw [e1', bI_s, if_pos rfl, if_pos (ib_n (show i + 1 < X.1 by omega) (by omega)), if_pos rfl, if_pos (ib_n (show i + 2 < X.1 by omega) (by omega)), if_pos w2, e2', bI_s, if_pos w3, N_thrown I2.1, bI_s, tk, if_pos rfl]
  unfold f_Lw_main_b800 f_Lw_main_b2138
  rw [show nI i + (6 : Int32) = nI (i + 6) from nI_add i 6]
  by_cases q : kk = 0
  · rw [if_pos q, if_pos j1, j2, if_pos (ib_z (by decide)), ix_0, jk q, lg_self, if_pos rfl]
    exact ⟨H2, rfl, I2, n2, z2⟩
  · rw [if_neg q]
    exact ⟨H2, rfl, I2, n2, z2⟩
theorem st_11 (hX : X.1 ≤ 3072) (hi : i + 6 ≤ X.1) (I : INV M h (hI h)) (sp : LSp M (fun H => f_Lw_next H 1 (X.2 (i + 1)) 765) (fun H => f_Model_next H 755 (X.2 (i + 1)))) : GD M h i k9 (mb_11 X k9 h SCR 1 755 765 (nI i)) := by
  obtain ⟨kk, H1, b, H2, e1, t1, e2, tk, jk, I2, n2, z2⟩ := sp h I
  have w2 := t1.td.1.1
  have w3 := I2.1.td.1.1
  obtain ⟨j1, j2⟩ := I2.1.j22
  unfold mb_11
  rw [show nI i + (1 : Int32) = nI (i + 1) from nI_add i 1, if_pos rfl, if_pos (ib_n (show i + 1 < X.1 by omega) (by omega)), ix_n (show i + 1 < 2 ^ 31 by omega)]
  have e1' : f_Lw_next h 1 (X.2 (i + 1)) 765 = some (kk, H1) := e1
  have e2' : f_Model_next H1 755 (X.2 (i + 1)) = some (b, H2) := e2
  rw [e1', bI_s, if_pos rfl, if_pos (ib_n (show i + 1 < X.1 by omega) (by omega)), if_pos w2, e2', bI_s, if_pos w3, N_thrown I2.1, bI_s, tk, if_pos rfl]
  unfold f_Lw_main_b856 f_Lw_main_b2138
  rw [show nI i + (6 : Int32) = nI (i + 6) from nI_add i 6]
  by_cases q : kk = 0
  · rw [if_pos q, if_pos j1, j2, if_pos (ib_z (by decide)), ix_0, jk q, lg_self, if_pos rfl]
    exact ⟨H2, rfl, I2, n2, z2⟩
  · rw [if_neg q]
    exact ⟨H2, rfl, I2, n2, z2⟩
theorem st_12 (hX : X.1 ≤ 3072) (hi : i + 6 ≤ X.1) (I : INV M h (hI h)) (sp : LSp M (fun H => f_Lw_months H 1 (X.2 (i + 1)) 765) (fun H => f_Model_months H 755 (X.2 (i + 1)))) : GD M h i k9 (mb_12 X k9 h SCR 1 755 765 (nI i)) := by
  obtain ⟨kk, H1, b, H2, e1, t1, e2, tk, jk, I2, n2, z2⟩ := sp h I
  have w2 := t1.td.1.1
  have w3 := I2.1.td.1.1
  obtain ⟨j1, j2⟩ := I2.1.j22
  unfold mb_12
  rw [show nI i + (1 : Int32) = nI (i + 1) from nI_add i 1, if_pos rfl, if_pos (ib_n (show i + 1 < X.1 by omega) (by omega)), ix_n (show i + 1 < 2 ^ 31 by omega)]
  have e1' : f_Lw_months h 1 (X.2 (i + 1)) 765 = some (kk, H1) := e1
  have e2' : f_Model_months H1 755 (X.2 (i + 1)) = some (b, H2) := e2
  rw [e1', bI_s, if_pos rfl, if_pos (ib_n (show i + 1 < X.1 by omega) (by omega)), if_pos w2, e2', bI_s, if_pos w3, N_thrown I2.1, bI_s, tk, if_pos rfl]
  unfold f_Lw_main_b912 f_Lw_main_b2138
  rw [show nI i + (6 : Int32) = nI (i + 6) from nI_add i 6]
  by_cases q : kk = 0
  · rw [if_pos q, if_pos j1, j2, if_pos (ib_z (by decide)), ix_0, jk q, lg_self, if_pos rfl]
    exact ⟨H2, rfl, I2, n2, z2⟩
  · rw [if_neg q]
    exact ⟨H2, rfl, I2, n2, z2⟩
theorem st_13 (hX : X.1 ≤ 3072) (hi : i + 6 ≤ X.1) (I : INV M h (hI h)) (sp : VSp M (fun H => f_Water_undo H 1) (fun H => f_Model_undo H 755)) : GD M h i k9 (mb_13 X k9 h SCR 1 755 765 (nI i)) := by
  obtain ⟨v, H1, H2, e1, t1, e2, I2, n2, z2⟩ := sp h I
  have w1 := I.1.td.2.1.1
  have w2 := t1.td.1.1
  unfold mb_13
  rw [if_pos w1]
  have e1' : f_Water_undo h 1 = some (v, H1) := e1
  have e2' : f_Model_undo H1 755 = some (v, H2) := e2
  rw [e1', bI_s, if_pos w2, e2', bI_s, if_pos rfl]
  unfold f_Lw_main_b2138
  rw [show nI i + (6 : Int32) = nI (i + 6) from nI_add i 6]
  exact ⟨H2, rfl, I2, n2, z2⟩
theorem st_14 (hX : X.1 ≤ 3072) (hi : i + 6 ≤ X.1) (I : INV M h (hI h)) (sp : LSp M (fun H => f_Lw_oath H 1 (X.2 (i + 1)) (X.2 (i + 2)) 765) (fun H => f_Model_oath H 755 (X.2 (i + 1)) (X.2 (i + 2)))) : GD M h i k9 (mb_14 X k9 h SCR 1 755 765 (nI i)) := by
  obtain ⟨kk, H1, b, H2, e1, t1, e2, tk, jk, I2, n2, z2⟩ := sp h I
  have w2 := t1.td.1.1
  have w3 := I2.1.td.1.1
  obtain ⟨j1, j2⟩ := I2.1.j22
  unfold mb_14
  rw [show nI i + (1 : Int32) = nI (i + 1) from nI_add i 1, show nI i + (2 : Int32) = nI (i + 2) from nI_add i 2, if_pos rfl, if_pos (ib_n (show i + 1 < X.1 by omega) (by omega)), if_pos rfl, if_pos (ib_n (show i + 2 < X.1 by omega) (by omega)), ix_n (show i + 1 < 2 ^ 31 by omega), ix_n (show i + 2 < 2 ^ 31 by omega)]
  have e1' : f_Lw_oath h 1 (X.2 (i + 1)) (X.2 (i + 2)) 765 = some (kk, H1) := e1
  have e2' : f_Model_oath H1 755 (X.2 (i + 1)) (X.2 (i + 2)) = some (b, H2) := e2
  rw [e1', bI_s, if_pos rfl, if_pos (ib_n (show i + 1 < X.1 by omega) (by omega)), if_pos rfl, if_pos (ib_n (show i + 2 < X.1 by omega) (by omega)), if_pos w2, e2', bI_s, if_pos w3, N_thrown I2.1, bI_s, tk, if_pos rfl]
  unfold f_Lw_main_b993 f_Lw_main_b2138
  rw [show nI i + (6 : Int32) = nI (i + 6) from nI_add i 6]
  by_cases q : kk = 0
  · rw [if_pos q, if_pos j1, j2, if_pos (ib_z (by decide)), ix_0, jk q, lg_self, if_pos rfl]
    exact ⟨H2, rfl, I2, n2, z2⟩
  · rw [if_neg q]
    exact ⟨H2, rfl, I2, n2, z2⟩
theorem st_15 (hX : X.1 ≤ 3072) (hi : i + 6 ≤ X.1) (I : INV M h (hI h)) (sp : LSp M (fun H => f_Lw_winter H 1 (X.2 (i + 1)) 765) (fun H => f_Model_winter H 755 (X.2 (i + 1)))) : GD M h i k9 (mb_15 X k9 h SCR 1 755 765 (nI i)) := by
  obtain ⟨kk, H1, b, H2, e1, t1, e2, tk, jk, I2, n2, z2⟩ := sp h I
  have w2 := t1.td.1.1
  have w3 := I2.1.td.1.1
  obtain ⟨j1, j2⟩ := I2.1.j22
  unfold mb_15
  rw [show nI i + (1 : Int32) = nI (i + 1) from nI_add i 1, if_pos rfl, if_pos (ib_n (show i + 1 < X.1 by omega) (by omega)), ix_n (show i + 1 < 2 ^ 31 by omega)]
  have e1' : f_Lw_winter h 1 (X.2 (i + 1)) 765 = some (kk, H1) := e1
  have e2' : f_Model_winter H1 755 (X.2 (i + 1)) = some (b, H2) := e2
  rw [e1', bI_s, if_pos rfl, if_pos (ib_n (show i + 1 < X.1 by omega) (by omega)), if_pos w2, e2', bI_s, if_pos w3, N_thrown I2.1, bI_s, tk, if_pos rfl]
  unfold f_Lw_main_b1049 f_Lw_main_b2138
  rw [show nI i + (6 : Int32) = nI (i + 6) from nI_add i 6]
  by_cases q : kk = 0
  · rw [if_pos q, if_pos j1, j2, if_pos (ib_z (by decide)), ix_0, jk q, lg_self, if_pos rfl]
    exact ⟨H2, rfl, I2, n2, z2⟩
  · rw [if_neg q]
    exact ⟨H2, rfl, I2, n2, z2⟩
theorem st_17 (hX : X.1 ≤ 3072) (hi : i + 6 ≤ X.1) (I : INV M h (hI h)) (sp : VSp M (fun H => f_Water_seed H 1 (X.2 (i + 1))) (fun H => f_Model_seed H 755 (X.2 (i + 1)))) : GD M h i k9 (mb_17 X k9 h SCR 1 755 765 (nI i)) := by
  obtain ⟨v, H1, H2, e1, t1, e2, I2, n2, z2⟩ := sp h I
  have w1 := I.1.td.2.1.1
  have w2 := t1.td.1.1
  unfold mb_17
  rw [show nI i + (1 : Int32) = nI (i + 1) from nI_add i 1, if_pos rfl, if_pos (ib_n (show i + 1 < X.1 by omega) (by omega)), if_pos w1, ix_n (show i + 1 < 2 ^ 31 by omega)]
  have e1' : f_Water_seed h 1 (X.2 (i + 1)) = some (v, H1) := e1
  have e2' : f_Model_seed H1 755 (X.2 (i + 1)) = some (v, H2) := e2
  rw [e1', bI_s, if_pos rfl, if_pos (ib_n (show i + 1 < X.1 by omega) (by omega)), if_pos w2, e2', bI_s, if_pos rfl]
  unfold f_Lw_main_b2138
  rw [show nI i + (6 : Int32) = nI (i + 6) from nI_add i 6]
  exact ⟨H2, rfl, I2, n2, z2⟩
theorem st_18 (hX : X.1 ≤ 3072) (hi : i + 6 ≤ X.1) (I : INV M h (hI h)) (sp : LSp M (fun H => f_Lw_blend H 1 (X.2 (i + 1)) (X.2 (i + 2)) (X.2 (i + 3)) 765) (fun H => f_Model_blend H 755 (X.2 (i + 1)) (X.2 (i + 2)) (X.2 (i + 3)))) : GD M h i k9 (mb_18 X k9 h SCR 1 755 765 (nI i)) := by
  obtain ⟨kk, H1, b, H2, e1, t1, e2, tk, jk, I2, n2, z2⟩ := sp h I
  have w2 := t1.td.1.1
  have w3 := I2.1.td.1.1
  obtain ⟨j1, j2⟩ := I2.1.j22
  unfold mb_18
  rw [show nI i + (1 : Int32) = nI (i + 1) from nI_add i 1, show nI i + (2 : Int32) = nI (i + 2) from nI_add i 2, show nI i + (3 : Int32) = nI (i + 3) from nI_add i 3, if_pos rfl, if_pos (ib_n (show i + 1 < X.1 by omega) (by omega)), if_pos rfl, if_pos (ib_n (show i + 2 < X.1 by omega) (by omega)), if_pos rfl, if_pos (ib_n (show i + 3 < X.1 by omega) (by omega)), ix_n (show i + 1 < 2 ^ 31 by omega), ix_n (show i + 2 < 2 ^ 31 by omega), ix_n (show i + 3 < 2 ^ 31 by omega)]
  have e1' : f_Lw_blend h 1 (X.2 (i + 1)) (X.2 (i + 2)) (X.2 (i + 3)) 765 = some (kk, H1) := e1
  have e2' : f_Model_blend H1 755 (X.2 (i + 1)) (X.2 (i + 2)) (X.2 (i + 3)) = some (b, H2) := e2
  rw [e1', bI_s, if_pos rfl, if_pos (ib_n (show i + 1 < X.1 by omega) (by omega)), if_pos rfl, if_pos (ib_n (show i + 2 < X.1 by omega) (by omega)), if_pos rfl, if_pos (ib_n (show i + 3 < X.1 by omega) (by omega)), if_pos w2, e2', bI_s, if_pos w3, N_thrown I2.1, bI_s, tk, if_pos rfl]
  unfold f_Lw_main_b1245 f_Lw_main_b2138
  rw [show nI i + (6 : Int32) = nI (i + 6) from nI_add i 6]
  by_cases q : kk = 0
  · rw [if_pos q, if_pos j1, j2, if_pos (ib_z (by decide)), ix_0, jk q, lg_self, if_pos rfl]
    exact ⟨H2, rfl, I2, n2, z2⟩
  · rw [if_neg q]
    exact ⟨H2, rfl, I2, n2, z2⟩
theorem st_19 (hX : X.1 ≤ 3072) (hi : i + 6 ≤ X.1) (I : INV M h (hI h)) (sp : VSp M (fun H => f_Water_lasts H 1) (fun H => f_Model_lasts H 755)) : GD M h i k9 (mb_19 X k9 h SCR 1 755 765 (nI i)) := by
  obtain ⟨v, H1, H2, e1, t1, e2, I2, n2, z2⟩ := sp h I
  have w1 := I.1.td.2.1.1
  have w2 := t1.td.1.1
  unfold mb_19
  rw [if_pos w1]
  have e1' : f_Water_lasts h 1 = some (v, H1) := e1
  have e2' : f_Model_lasts H1 755 = some (v, H2) := e2
  rw [e1', bI_s, if_pos w2, e2', bI_s, if_pos rfl]
  unfold f_Lw_main_b2138
  rw [show nI i + (6 : Int32) = nI (i + 6) from nI_add i 6]
  exact ⟨H2, rfl, I2, n2, z2⟩
theorem st_20 (hX : X.1 ≤ 3072) (hi : i + 6 ≤ X.1) (I : INV M h (hI h)) (sp : VSp M (fun H => f_Water_worst H 1) (fun H => f_Model_worst H 755)) : GD M h i k9 (mb_20 X k9 h SCR 1 755 765 (nI i)) := by
  obtain ⟨v, H1, H2, e1, t1, e2, I2, n2, z2⟩ := sp h I
  have w1 := I.1.td.2.1.1
  have w2 := t1.td.1.1
  unfold mb_20
  rw [if_pos w1]
  have e1' : f_Water_worst h 1 = some (v, H1) := e1
  have e2' : f_Model_worst H1 755 = some (v, H2) := e2
  rw [e1', bI_s, if_pos w2, e2', bI_s, if_pos rfl]
  unfold f_Lw_main_b2138
  rw [show nI i + (6 : Int32) = nI (i + 6) from nI_add i 6]
  exact ⟨H2, rfl, I2, n2, z2⟩
theorem st_21 (hX : X.1 ≤ 3072) (hi : i + 6 ≤ X.1) (I : INV M h (hI h)) (sp : LSp M (fun H => f_Lw_judge H 1 765) (fun H => f_Model_judge H 755)) : GD M h i k9 (mb_21 X k9 h SCR 1 755 765 (nI i)) := by
  obtain ⟨kk, H1, b, H2, e1, t1, e2, tk, jk, I2, n2, z2⟩ := sp h I
  have w2 := t1.td.1.1
  have w3 := I2.1.td.1.1
  obtain ⟨j1, j2⟩ := I2.1.j22
  unfold mb_21
  have e1' : f_Lw_judge h 1 765 = some (kk, H1) := e1
  have e2' : f_Model_judge H1 755 = some (b, H2) := e2
  rw [e1', bI_s, if_pos w2, e2', bI_s, if_pos w3, N_thrown I2.1, bI_s, tk, if_pos rfl]
  unfold f_Lw_main_b1315 f_Lw_main_b2138
  rw [show nI i + (6 : Int32) = nI (i + 6) from nI_add i 6]
  by_cases q : kk = 0
  · rw [if_pos q, if_pos j1, j2, if_pos (ib_z (by decide)), ix_0, jk q, lg_self, if_pos rfl]
    exact ⟨H2, rfl, I2, n2, z2⟩
  · rw [if_neg q]
    exact ⟨H2, rfl, I2, n2, z2⟩
theorem st_22 (hX : X.1 ≤ 3072) (hi : i + 6 ≤ X.1) (I : INV M h (hI h)) (sp : LSp M (fun H => f_Lw_swap H 1 (X.2 (i + 1)) (X.2 (i + 2)) (X.2 (i + 3)) (X.2 (i + 4)) (X.2 (i + 5)) 765) (fun H => f_Model_swap H 755 (X.2 (i + 1)) (X.2 (i + 2)) (X.2 (i + 3)) (X.2 (i + 4)) (X.2 (i + 5)))) : GD M h i k9 (mb_22 X k9 h SCR 1 755 765 (nI i)) := by
  obtain ⟨kk, H1, b, H2, e1, t1, e2, tk, jk, I2, n2, z2⟩ := sp h I
  have w2 := t1.td.1.1
  have w3 := I2.1.td.1.1
  obtain ⟨j1, j2⟩ := I2.1.j22
  unfold mb_22
  rw [show nI i + (1 : Int32) = nI (i + 1) from nI_add i 1, show nI i + (2 : Int32) = nI (i + 2) from nI_add i 2, show nI i + (3 : Int32) = nI (i + 3) from nI_add i 3, show nI i + (4 : Int32) = nI (i + 4) from nI_add i 4, show nI i + (5 : Int32) = nI (i + 5) from nI_add i 5, if_pos rfl, if_pos (ib_n (show i + 1 < X.1 by omega) (by omega)), if_pos rfl, if_pos (ib_n (show i + 2 < X.1 by omega) (by omega)), if_pos rfl, if_pos (ib_n (show i + 3 < X.1 by omega) (by omega)), if_pos rfl, if_pos (ib_n (show i + 4 < X.1 by omega) (by omega)), if_pos rfl, if_pos (ib_n (show i + 5 < X.1 by omega) (by omega)), ix_n (show i + 1 < 2 ^ 31 by omega), ix_n (show i + 2 < 2 ^ 31 by omega), ix_n (show i + 3 < 2 ^ 31 by omega), ix_n (show i + 4 < 2 ^ 31 by omega), ix_n (show i + 5 < 2 ^ 31 by omega)]
  have e1' : f_Lw_swap h 1 (X.2 (i + 1)) (X.2 (i + 2)) (X.2 (i + 3)) (X.2 (i + 4)) (X.2 (i + 5)) 765 = some (kk, H1) := e1
  have e2' : f_Model_swap H1 755 (X.2 (i + 1)) (X.2 (i + 2)) (X.2 (i + 3)) (X.2 (i + 4)) (X.2 (i + 5)) = some (b, H2) := e2
  rw [e1', bI_s, if_pos rfl, if_pos (ib_n (show i + 1 < X.1 by omega) (by omega)), if_pos rfl, if_pos (ib_n (show i + 2 < X.1 by omega) (by omega)), if_pos rfl, if_pos (ib_n (show i + 3 < X.1 by omega) (by omega)), if_pos rfl, if_pos (ib_n (show i + 4 < X.1 by omega) (by omega)), if_pos rfl, if_pos (ib_n (show i + 5 < X.1 by omega) (by omega)), if_pos w2, e2', bI_s, if_pos w3, N_thrown I2.1, bI_s, tk, if_pos rfl]
  unfold f_Lw_main_b1419 f_Lw_main_b2138
  rw [show nI i + (6 : Int32) = nI (i + 6) from nI_add i 6]
  by_cases q : kk = 0
  · rw [if_pos q, if_pos j1, j2, if_pos (ib_z (by decide)), ix_0, jk q, lg_self, if_pos rfl]
    exact ⟨H2, rfl, I2, n2, z2⟩
  · rw [if_neg q]
    exact ⟨H2, rfl, I2, n2, z2⟩
theorem st_23 (hX : X.1 ≤ 3072) (hi : i + 6 ≤ X.1) (I : INV M h (hI h)) (sp : VSp M (fun H => f_Water_foul H 1 (X.2 (i + 1))) (fun H => f_Model_foul H 755 (X.2 (i + 1)))) : GD M h i k9 (mb_23 X k9 h SCR 1 755 765 (nI i)) := by
  obtain ⟨v, H1, H2, e1, t1, e2, I2, n2, z2⟩ := sp h I
  have w1 := I.1.td.2.1.1
  have w2 := t1.td.1.1
  unfold mb_23
  rw [show nI i + (1 : Int32) = nI (i + 1) from nI_add i 1, if_pos rfl, if_pos (ib_n (show i + 1 < X.1 by omega) (by omega)), if_pos w1, ix_n (show i + 1 < 2 ^ 31 by omega)]
  have e1' : f_Water_foul h 1 (X.2 (i + 1)) = some (v, H1) := e1
  have e2' : f_Model_foul H1 755 (X.2 (i + 1)) = some (v, H2) := e2
  rw [e1', bI_s, if_pos rfl, if_pos (ib_n (show i + 1 < X.1 by omega) (by omega)), if_pos w2, e2', bI_s, if_pos rfl]
  unfold f_Lw_main_b2138
  rw [show nI i + (6 : Int32) = nI (i + 6) from nI_add i 6]
  exact ⟨H2, rfl, I2, n2, z2⟩
theorem st_24 (hX : X.1 ≤ 3072) (hi : i + 6 ≤ X.1) (I : INV M h (hI h)) (sp : VSp M (fun H => f_Water_fewest H 1 (X.2 (i + 1))) (fun H => f_Model_fewest H 755 (X.2 (i + 1)))) : GD M h i k9 (mb_24 X k9 h SCR 1 755 765 (nI i)) := by
  obtain ⟨v, H1, H2, e1, t1, e2, I2, n2, z2⟩ := sp h I
  have w1 := I.1.td.2.1.1
  have w2 := t1.td.1.1
  unfold mb_24
  rw [show nI i + (1 : Int32) = nI (i + 1) from nI_add i 1, if_pos rfl, if_pos (ib_n (show i + 1 < X.1 by omega) (by omega)), if_pos w1, ix_n (show i + 1 < 2 ^ 31 by omega)]
  have e1' : f_Water_fewest h 1 (X.2 (i + 1)) = some (v, H1) := e1
  have e2' : f_Model_fewest H1 755 (X.2 (i + 1)) = some (v, H2) := e2
  rw [e1', bI_s, if_pos rfl, if_pos (ib_n (show i + 1 < X.1 by omega) (by omega)), if_pos w2, e2', bI_s, if_pos rfl]
  unfold f_Lw_main_b2138
  rw [show nI i + (6 : Int32) = nI (i + 6) from nI_add i 6]
  exact ⟨H2, rfl, I2, n2, z2⟩
theorem st_25 (hX : X.1 ≤ 3072) (hi : i + 6 ≤ X.1) (I : INV M h (hI h)) (sp : LSp M (fun H => f_Lw_look H 1 765) (fun H => f_Model_look H 755)) : GD M h i k9 (mb_25 X k9 h SCR 1 755 765 (nI i)) := by
  obtain ⟨kk, H1, b, H2, e1, t1, e2, tk, jk, I2, n2, z2⟩ := sp h I
  have w2 := t1.td.1.1
  have w3 := I2.1.td.1.1
  obtain ⟨j1, j2⟩ := I2.1.j22
  unfold mb_25
  have e1' : f_Lw_look h 1 765 = some (kk, H1) := e1
  have e2' : f_Model_look H1 755 = some (b, H2) := e2
  rw [e1', bI_s, if_pos w2, e2', bI_s, if_pos w3, N_thrown I2.1, bI_s, tk, if_pos rfl]
  unfold f_Lw_main_b1513 f_Lw_main_b2138
  rw [show nI i + (6 : Int32) = nI (i + 6) from nI_add i 6]
  by_cases q : kk = 0
  · rw [if_pos q, if_pos j1, j2, if_pos (ib_z (by decide)), ix_0, jk q, lg_self, if_pos rfl]
    exact ⟨H2, rfl, I2, n2, z2⟩
  · rw [if_neg q]
    exact ⟨H2, rfl, I2, n2, z2⟩
theorem st_26 (hX : X.1 ≤ 3072) (hi : i + 6 ≤ X.1) (I : INV M h (hI h)) (sp : LSp M (fun H => f_Lw_site H 1 (X.2 (i + 1)) 765) (fun H => f_Model_site H 755 (X.2 (i + 1)))) : GD M h i k9 (mb_26 X k9 h SCR 1 755 765 (nI i)) := by
  obtain ⟨kk, H1, b, H2, e1, t1, e2, tk, jk, I2, n2, z2⟩ := sp h I
  have w2 := t1.td.1.1
  have w3 := I2.1.td.1.1
  obtain ⟨j1, j2⟩ := I2.1.j22
  unfold mb_26
  rw [show nI i + (1 : Int32) = nI (i + 1) from nI_add i 1, if_pos rfl, if_pos (ib_n (show i + 1 < X.1 by omega) (by omega)), ix_n (show i + 1 < 2 ^ 31 by omega)]
  have e1' : f_Lw_site h 1 (X.2 (i + 1)) 765 = some (kk, H1) := e1
  have e2' : f_Model_site H1 755 (X.2 (i + 1)) = some (b, H2) := e2
  rw [e1', bI_s, if_pos rfl, if_pos (ib_n (show i + 1 < X.1 by omega) (by omega)), if_pos w2, e2', bI_s, if_pos w3, N_thrown I2.1, bI_s, tk, if_pos rfl]
  unfold f_Lw_main_b1569 f_Lw_main_b2138
  rw [show nI i + (6 : Int32) = nI (i + 6) from nI_add i 6]
  by_cases q : kk = 0
  · rw [if_pos q, if_pos j1, j2, if_pos (ib_z (by decide)), ix_0, jk q, lg_self, if_pos rfl]
    exact ⟨H2, rfl, I2, n2, z2⟩
  · rw [if_neg q]
    exact ⟨H2, rfl, I2, n2, z2⟩
theorem st_27 (hX : X.1 ≤ 3072) (hi : i + 6 ≤ X.1) (I : INV M h (hI h)) (sp : LSp M (fun H => f_Lw_owed H 1 (X.2 (i + 1)) (X.2 (i + 2)) 765) (fun H => f_Model_owed H 755 (X.2 (i + 1)) (X.2 (i + 2)))) : GD M h i k9 (mb_27 X k9 h SCR 1 755 765 (nI i)) := by
  obtain ⟨kk, H1, b, H2, e1, t1, e2, tk, jk, I2, n2, z2⟩ := sp h I
  have w2 := t1.td.1.1
  have w3 := I2.1.td.1.1
  obtain ⟨j1, j2⟩ := I2.1.j22
  unfold mb_27
  rw [show nI i + (1 : Int32) = nI (i + 1) from nI_add i 1, show nI i + (2 : Int32) = nI (i + 2) from nI_add i 2, if_pos rfl, if_pos (ib_n (show i + 1 < X.1 by omega) (by omega)), if_pos rfl, if_pos (ib_n (show i + 2 < X.1 by omega) (by omega)), ix_n (show i + 1 < 2 ^ 31 by omega), ix_n (show i + 2 < 2 ^ 31 by omega)]
  have e1' : f_Lw_owed h 1 (X.2 (i + 1)) (X.2 (i + 2)) 765 = some (kk, H1) := e1
  have e2' : f_Model_owed H1 755 (X.2 (i + 1)) (X.2 (i + 2)) = some (b, H2) := e2
  rw [e1', bI_s, if_pos rfl, if_pos (ib_n (show i + 1 < X.1 by omega) (by omega)), if_pos rfl, if_pos (ib_n (show i + 2 < X.1 by omega) (by omega)), if_pos w2, e2', bI_s, if_pos w3, N_thrown I2.1, bI_s, tk, if_pos rfl]
  unfold f_Lw_main_b1637 f_Lw_main_b2138
  rw [show nI i + (6 : Int32) = nI (i + 6) from nI_add i 6]
  by_cases q : kk = 0
  · rw [if_pos q, if_pos j1, j2, if_pos (ib_z (by decide)), ix_0, jk q, lg_self, if_pos rfl]
    exact ⟨H2, rfl, I2, n2, z2⟩
  · rw [if_neg q]
    exact ⟨H2, rfl, I2, n2, z2⟩
theorem st_28 (hX : X.1 ≤ 3072) (hi : i + 6 ≤ X.1) (I : INV M h (hI h)) (sp : LSp M (fun H => f_Lw_owe H 1 (X.2 (i + 1)) (X.2 (i + 2)) (X.2 (i + 3)) 765) (fun H => f_Model_owe H 755 (X.2 (i + 1)) (X.2 (i + 2)) (X.2 (i + 3)))) : GD M h i k9 (mb_28 X k9 h SCR 1 755 765 (nI i)) := by
  obtain ⟨kk, H1, b, H2, e1, t1, e2, tk, jk, I2, n2, z2⟩ := sp h I
  have w2 := t1.td.1.1
  have w3 := I2.1.td.1.1
  obtain ⟨j1, j2⟩ := I2.1.j22
  unfold mb_28
  rw [show nI i + (1 : Int32) = nI (i + 1) from nI_add i 1, show nI i + (2 : Int32) = nI (i + 2) from nI_add i 2, show nI i + (3 : Int32) = nI (i + 3) from nI_add i 3, if_pos rfl, if_pos (ib_n (show i + 1 < X.1 by omega) (by omega)), if_pos rfl, if_pos (ib_n (show i + 2 < X.1 by omega) (by omega)), if_pos rfl, if_pos (ib_n (show i + 3 < X.1 by omega) (by omega)), ix_n (show i + 1 < 2 ^ 31 by omega), ix_n (show i + 2 < 2 ^ 31 by omega), ix_n (show i + 3 < 2 ^ 31 by omega)]
  have e1' : f_Lw_owe h 1 (X.2 (i + 1)) (X.2 (i + 2)) (X.2 (i + 3)) 765 = some (kk, H1) := e1
  have e2' : f_Model_owe H1 755 (X.2 (i + 1)) (X.2 (i + 2)) (X.2 (i + 3)) = some (b, H2) := e2
  rw [e1', bI_s, if_pos rfl, if_pos (ib_n (show i + 1 < X.1 by omega) (by omega)), if_pos rfl, if_pos (ib_n (show i + 2 < X.1 by omega) (by omega)), if_pos rfl, if_pos (ib_n (show i + 3 < X.1 by omega) (by omega)), if_pos w2, e2', bI_s, if_pos w3, N_thrown I2.1, bI_s, tk, if_pos rfl]
  unfold f_Lw_main_b1717 f_Lw_main_b2138
  rw [show nI i + (6 : Int32) = nI (i + 6) from nI_add i 6]
  by_cases q : kk = 0
  · rw [if_pos q, if_pos j1, j2, if_pos (ib_z (by decide)), ix_0, jk q, lg_self, if_pos rfl]
    exact ⟨H2, rfl, I2, n2, z2⟩
  · rw [if_neg q]
    exact ⟨H2, rfl, I2, n2, z2⟩
theorem st_29 (hX : X.1 ≤ 3072) (hi : i + 6 ≤ X.1) (I : INV M h (hI h)) (sp : LSp M (fun H => f_Lw_debt H 1 (X.2 (i + 1)) 765) (fun H => f_Model_debt H 755 (X.2 (i + 1)))) : GD M h i k9 (mb_29 X k9 h SCR 1 755 765 (nI i)) := by
  obtain ⟨kk, H1, b, H2, e1, t1, e2, tk, jk, I2, n2, z2⟩ := sp h I
  have w2 := t1.td.1.1
  have w3 := I2.1.td.1.1
  obtain ⟨j1, j2⟩ := I2.1.j22
  unfold mb_29
  rw [show nI i + (1 : Int32) = nI (i + 1) from nI_add i 1, if_pos rfl, if_pos (ib_n (show i + 1 < X.1 by omega) (by omega)), ix_n (show i + 1 < 2 ^ 31 by omega)]
  have e1' : f_Lw_debt h 1 (X.2 (i + 1)) 765 = some (kk, H1) := e1
  have e2' : f_Model_debt H1 755 (X.2 (i + 1)) = some (b, H2) := e2
  rw [e1', bI_s, if_pos rfl, if_pos (ib_n (show i + 1 < X.1 by omega) (by omega)), if_pos w2, e2', bI_s, if_pos w3, N_thrown I2.1, bI_s, tk, if_pos rfl]
  unfold f_Lw_main_b1773 f_Lw_main_b2138
  rw [show nI i + (6 : Int32) = nI (i + 6) from nI_add i 6]
  by_cases q : kk = 0
  · rw [if_pos q, if_pos j1, j2, if_pos (ib_z (by decide)), ix_0, jk q, lg_self, if_pos rfl]
    exact ⟨H2, rfl, I2, n2, z2⟩
  · rw [if_neg q]
    exact ⟨H2, rfl, I2, n2, z2⟩
theorem st_30 (hX : X.1 ≤ 3072) (hi : i + 6 ≤ X.1) (I : INV M h (hI h)) (sp : LSp M (fun H => f_Lw_settle H 1 (X.2 (i + 1)) 765) (fun H => f_Model_settle H 755 (X.2 (i + 1)))) : GD M h i k9 (mb_30 X k9 h SCR 1 755 765 (nI i)) := by
  obtain ⟨kk, H1, b, H2, e1, t1, e2, tk, jk, I2, n2, z2⟩ := sp h I
  have w2 := t1.td.1.1
  have w3 := I2.1.td.1.1
  obtain ⟨j1, j2⟩ := I2.1.j22
  unfold mb_30
  rw [show nI i + (1 : Int32) = nI (i + 1) from nI_add i 1, if_pos rfl, if_pos (ib_n (show i + 1 < X.1 by omega) (by omega)), ix_n (show i + 1 < 2 ^ 31 by omega)]
  have e1' : f_Lw_settle h 1 (X.2 (i + 1)) 765 = some (kk, H1) := e1
  have e2' : f_Model_settle H1 755 (X.2 (i + 1)) = some (b, H2) := e2
  rw [e1', bI_s, if_pos rfl, if_pos (ib_n (show i + 1 < X.1 by omega) (by omega)), if_pos w2, e2', bI_s, if_pos w3, N_thrown I2.1, bI_s, tk, if_pos rfl]
  unfold f_Lw_main_b1829 f_Lw_main_b2138
  rw [show nI i + (6 : Int32) = nI (i + 6) from nI_add i 6]
  by_cases q : kk = 0
  · rw [if_pos q, if_pos j1, j2, if_pos (ib_z (by decide)), ix_0, jk q, lg_self, if_pos rfl]
    exact ⟨H2, rfl, I2, n2, z2⟩
  · rw [if_neg q]
    exact ⟨H2, rfl, I2, n2, z2⟩
theorem st_31 (hX : X.1 ≤ 3072) (hi : i + 6 ≤ X.1) (I : INV M h (hI h)) (sp : LSp M (fun H => f_Lw_mix H 1 (X.2 (i + 1)) (X.2 (i + 2)) (X.2 (i + 3)) 765) (fun H => f_Model_mix H 755 (X.2 (i + 1)) (X.2 (i + 2)) (X.2 (i + 3)))) : GD M h i k9 (mb_31 X k9 h SCR 1 755 765 (nI i)) := by
  obtain ⟨kk, H1, b, H2, e1, t1, e2, tk, jk, I2, n2, z2⟩ := sp h I
  have w2 := t1.td.1.1
  have w3 := I2.1.td.1.1
  obtain ⟨j1, j2⟩ := I2.1.j22
  unfold mb_31
  rw [show nI i + (1 : Int32) = nI (i + 1) from nI_add i 1, show nI i + (2 : Int32) = nI (i + 2) from nI_add i 2, show nI i + (3 : Int32) = nI (i + 3) from nI_add i 3, if_pos rfl, if_pos (ib_n (show i + 1 < X.1 by omega) (by omega)), if_pos rfl, if_pos (ib_n (show i + 2 < X.1 by omega) (by omega)), if_pos rfl, if_pos (ib_n (show i + 3 < X.1 by omega) (by omega)), ix_n (show i + 1 < 2 ^ 31 by omega), ix_n (show i + 2 < 2 ^ 31 by omega), ix_n (show i + 3 < 2 ^ 31 by omega)]
  have e1' : f_Lw_mix h 1 (X.2 (i + 1)) (X.2 (i + 2)) (X.2 (i + 3)) 765 = some (kk, H1) := e1
  have e2' : f_Model_mix H1 755 (X.2 (i + 1)) (X.2 (i + 2)) (X.2 (i + 3)) = some (b, H2) := e2
  rw [e1', bI_s, if_pos rfl, if_pos (ib_n (show i + 1 < X.1 by omega) (by omega)), if_pos rfl, if_pos (ib_n (show i + 2 < X.1 by omega) (by omega)), if_pos rfl, if_pos (ib_n (show i + 3 < X.1 by omega) (by omega)), if_pos w2, e2', bI_s, if_pos w3, N_thrown I2.1, bI_s, tk, if_pos rfl]
  unfold f_Lw_main_b1909 f_Lw_main_b2138
  rw [show nI i + (6 : Int32) = nI (i + 6) from nI_add i 6]
  by_cases q : kk = 0
  · rw [if_pos q, if_pos j1, j2, if_pos (ib_z (by decide)), ix_0, jk q, lg_self, if_pos rfl]
    exact ⟨H2, rfl, I2, n2, z2⟩
  · rw [if_neg q]
    exact ⟨H2, rfl, I2, n2, z2⟩
theorem st_33 (hX : X.1 ≤ 3072) (hi : i + 6 ≤ X.1) (I : INV M h (hI h)) (sp : LSp M (fun H => f_Lw_enough H 1 (X.2 (i + 1)) (X.2 (i + 2)) 765) (fun H => f_Model_enough H 755 (X.2 (i + 1)) (X.2 (i + 2)))) : GD M h i k9 (mb_33 X k9 h SCR 1 755 765 (nI i)) := by
  obtain ⟨kk, H1, b, H2, e1, t1, e2, tk, jk, I2, n2, z2⟩ := sp h I
  have w2 := t1.td.1.1
  have w3 := I2.1.td.1.1
  obtain ⟨j1, j2⟩ := I2.1.j22
  unfold mb_33
  rw [show nI i + (1 : Int32) = nI (i + 1) from nI_add i 1, show nI i + (2 : Int32) = nI (i + 2) from nI_add i 2, if_pos rfl, if_pos (ib_n (show i + 1 < X.1 by omega) (by omega)), if_pos rfl, if_pos (ib_n (show i + 2 < X.1 by omega) (by omega)), ix_n (show i + 1 < 2 ^ 31 by omega), ix_n (show i + 2 < 2 ^ 31 by omega)]
  have e1' : f_Lw_enough h 1 (X.2 (i + 1)) (X.2 (i + 2)) 765 = some (kk, H1) := e1
  have e2' : f_Model_enough H1 755 (X.2 (i + 1)) (X.2 (i + 2)) = some (b, H2) := e2
  rw [e1', bI_s, if_pos rfl, if_pos (ib_n (show i + 1 < X.1 by omega) (by omega)), if_pos rfl, if_pos (ib_n (show i + 2 < X.1 by omega) (by omega)), if_pos w2, e2', bI_s, if_pos w3, N_thrown I2.1, bI_s, tk, if_pos rfl]
  unfold f_Lw_main_b2018 f_Lw_main_b2138
  rw [show nI i + (6 : Int32) = nI (i + 6) from nI_add i 6]
  by_cases q : kk = 0
  · rw [if_pos q, if_pos j1, j2, if_pos (ib_z (by decide)), ix_0, jk q, lg_self, if_pos rfl]
    exact ⟨H2, rfl, I2, n2, z2⟩
  · rw [if_neg q]
    exact ⟨H2, rfl, I2, n2, z2⟩
theorem st_34 (hX : X.1 ≤ 3072) (hi : i + 6 ≤ X.1) (I : INV M h (hI h)) (sp : LSp M (fun H => f_Lw_latest H 1 (X.2 (i + 1)) (X.2 (i + 2)) 765) (fun H => f_Model_latest H 755 (X.2 (i + 1)) (X.2 (i + 2)))) : GD M h i k9 (mb_34 X k9 h SCR 1 755 765 (nI i)) := by
  obtain ⟨kk, H1, b, H2, e1, t1, e2, tk, jk, I2, n2, z2⟩ := sp h I
  have w2 := t1.td.1.1
  have w3 := I2.1.td.1.1
  obtain ⟨j1, j2⟩ := I2.1.j22
  unfold mb_34
  rw [show nI i + (1 : Int32) = nI (i + 1) from nI_add i 1, show nI i + (2 : Int32) = nI (i + 2) from nI_add i 2, if_pos rfl, if_pos (ib_n (show i + 1 < X.1 by omega) (by omega)), if_pos rfl, if_pos (ib_n (show i + 2 < X.1 by omega) (by omega)), ix_n (show i + 1 < 2 ^ 31 by omega), ix_n (show i + 2 < 2 ^ 31 by omega)]
  have e1' : f_Lw_latest h 1 (X.2 (i + 1)) (X.2 (i + 2)) 765 = some (kk, H1) := e1
  have e2' : f_Model_latest H1 755 (X.2 (i + 1)) (X.2 (i + 2)) = some (b, H2) := e2
  rw [e1', bI_s, if_pos rfl, if_pos (ib_n (show i + 1 < X.1 by omega) (by omega)), if_pos rfl, if_pos (ib_n (show i + 2 < X.1 by omega) (by omega)), if_pos w2, e2', bI_s, if_pos w3, N_thrown I2.1, bI_s, tk, if_pos rfl]
  unfold f_Lw_main_b2086 f_Lw_main_b2138
  rw [show nI i + (6 : Int32) = nI (i + 6) from nI_add i 6]
  by_cases q : kk = 0
  · rw [if_pos q, if_pos j1, j2, if_pos (ib_z (by decide)), ix_0, jk q, lg_self, if_pos rfl]
    exact ⟨H2, rfl, I2, n2, z2⟩
  · rw [if_neg q]
    exact ⟨H2, rfl, I2, n2, z2⟩
theorem st_36 (hX : X.1 ≤ 3072) (hi : i + 6 ≤ X.1) (I : INV M h (hI h)) (sp : VSp M (fun H => f_Water_back H 1) (fun H => f_Model_back H 755)) : GD M h i k9 (mb_36 X k9 h SCR 1 755 765 (nI i)) := by
  obtain ⟨v, H1, H2, e1, t1, e2, I2, n2, z2⟩ := sp h I
  have w1 := I.1.td.2.1.1
  have w2 := t1.td.1.1
  unfold mb_36
  rw [if_pos w1]
  have e1' : f_Water_back h 1 = some (v, H1) := e1
  have e2' : f_Model_back H1 755 = some (v, H2) := e2
  rw [e1', bI_s, if_pos w2, e2', bI_s, if_pos rfl]
  unfold f_Lw_main_b2138
  rw [show nI i + (6 : Int32) = nI (i + 6) from nI_add i 6]
  exact ⟨H2, rfl, I2, n2, z2⟩
theorem st_37 (hX : X.1 ≤ 3072) (hi : i + 6 ≤ X.1) (I : INV M h (hI h)) (sp : VSp M (fun H => f_Water_count H 1 (X.2 (i + 1))) (fun H => f_Model_count H 755 (X.2 (i + 1)))) : GD M h i k9 (mb_37 X k9 h SCR 1 755 765 (nI i)) := by
  obtain ⟨v, H1, H2, e1, t1, e2, I2, n2, z2⟩ := sp h I
  have w1 := I.1.td.2.1.1
  have w2 := t1.td.1.1
  unfold mb_37
  rw [show nI i + (1 : Int32) = nI (i + 1) from nI_add i 1, if_pos rfl, if_pos (ib_n (show i + 1 < X.1 by omega) (by omega)), if_pos w1, ix_n (show i + 1 < 2 ^ 31 by omega)]
  have e1' : f_Water_count h 1 (X.2 (i + 1)) = some (v, H1) := e1
  have e2' : f_Model_count H1 755 (X.2 (i + 1)) = some (v, H2) := e2
  rw [e1', bI_s, if_pos rfl, if_pos (ib_n (show i + 1 < X.1 by omega) (by omega)), if_pos w2, e2', bI_s, if_pos rfl]
  unfold f_Lw_main_b2138
  rw [show nI i + (6 : Int32) = nI (i + 6) from nI_add i 6]
  exact ⟨H2, rfl, I2, n2, z2⟩
/-- of one that answers nothing -/
def USp (M : Nat) (fw fm : Hp → Option Hp) : Prop := ∀ H, INV M H (hI H) → ∃ H1 H2, fw H = some H1 ∧ TS H1 ∧ fm H1 = some H2 ∧ INV (M + 60) H2 (hI H2) ∧ hN H2 ≤ hN H + 1170 ∧ hZ H2 ≤ hZ H + 14000
/-- of one whose answer holds or not -/
def SSp (M : Nat) (fl fm : Hp → Option (Int32 × Hp)) : Prop := ∀ H, INV M H (hI H) → ∃ k H1 b H2, fl H = some (k, H1) ∧ TS H1 ∧ fm H1 = some (b, H2) ∧ hI H2 755 0 = k ∧ (k = 0 → hJ H2 765 0 = if b = 0 then 0 else 1) ∧ INV (M + 60) H2 (hI H2) ∧ hN H2 ≤ hN H + 1170 ∧ hZ H2 ≤ hZ H + 14000
theorem st_35 (hX : X.1 ≤ 3072) (hi : i + 6 ≤ X.1) (I : INV M h (hI h)) (sp : USp M (fun H => f_Water_image H 1) (fun H => f_Model_image H 755)) : GD M h i k9 (mb_35 X k9 h SCR 1 755 765 (nI i)) := by
  obtain ⟨H1, H2, e1, t1, e2, I2, n2, z2⟩ := sp h I
  have w1 := I.1.td.2.1.1
  have w2 := t1.td.1.1
  have e1' : f_Water_image h 1 = some H1 := e1
  have e2' : f_Model_image H1 755 = some H2 := e2
  unfold mb_35
  rw [if_pos w1, e1', bV_s, if_pos w2, e2', bV_s]
  unfold f_Lw_main_b2138
  rw [show nI i + (6 : Int32) = nI (i + 6) from nI_add i 6]
  exact ⟨H2, rfl, I2, n2, z2⟩
theorem st_32 (hX : X.1 ≤ 3072) (hi : i + 6 ≤ X.1) (I : INV M h (hI h)) (sp : ∀ p1 : Int32, (p1 = 0 ∨ p1 = 1) → VSp M (fun H => f_Water_order H 1 p1) (fun H => f_Model_order H 755 p1)) : GD M h i k9 (mb_32 X k9 h SCR 1 755 765 (nI i)) := by
  have w1 := I.1.td.2.1.1
  unfold mb_32
  rw [show nI i + (1 : Int32) = nI (i + 1) from nI_add i 1, if_pos rfl, if_pos (ib_n (show i + 1 < X.1 by omega) (by omega)), ix_n (show i + 1 < 2 ^ 31 by omega)]
  have go : ∀ p1 : Int32, (p1 = 0 ∨ p1 = 1) → (p1 = if X.2 (i + 1) = 0 then 0 else 1) → GD M h i k9 (f_Lw_main_b1927 X k9 h SCR 1 755 765 (nI i) 1 p1) := by
    intro p1 h1 h2
    obtain ⟨v, H1, H2, e1, t1, e2, I2, n2, z2⟩ := sp p1 h1 h I
    have w2 := t1.td.1.1
    have e1' : f_Water_order h 1 p1 = some (v, H1) := e1
    have e2' : f_Model_order H1 755 p1 = some (v, H2) := e2
    have fin : GD M h i k9 (f_Lw_main_b1945 X k9 H1 SCR 1 755 765 (nI i) v 755 p1) := by
      unfold f_Lw_main_b1945
      rw [if_pos w2, e2', bI_s, if_pos rfl]
      unfold f_Lw_main_b2138
      rw [show nI i + (6 : Int32) = nI (i + 6) from nI_add i 6]
      exact ⟨H2, rfl, I2, n2, z2⟩
    unfold f_Lw_main_b1927
    rw [if_pos w1, e1', bI_s, if_pos rfl, show nI i + (1 : Int32) = nI (i + 1) from nI_add i 1, if_pos (ib_n (show i + 1 < X.1 by omega) (by omega)), ix_n (show i + 1 < 2 ^ 31 by omega)]
    by_cases q : X.2 (i + 1) = 0
    · rw [if_pos q] at h2
      rw [if_pos q, ← h2]
      exact fin
    · rw [if_neg q] at h2
      rw [if_neg q, ← h2]
      exact fin
  by_cases q : X.2 (i + 1) = 0
  · rw [if_pos q]
    exact go 0 (Or.inl rfl) (if_pos q).symm
  · rw [if_neg q]
    exact go 1 (Or.inr rfl) (if_neg q).symm
theorem st_16 (hX : X.1 ≤ 3072) (hi : i + 6 ≤ X.1) (I : INV M h (hI h)) (sp : ∀ p2 : Int32, (p2 = 0 ∨ p2 = 1) → SSp M (fun H => f_Lw_seal H 1 (X.2 (i + 1)) p2 765) (fun H => f_Model_seal H 755 (X.2 (i + 1)) p2)) : GD M h i k9 (mb_16 X k9 h SCR 1 755 765 (nI i)) := by
  unfold mb_16
  rw [show nI i + (1 : Int32) = nI (i + 1) from nI_add i 1, show nI i + (2 : Int32) = nI (i + 2) from nI_add i 2, if_pos rfl, if_pos (ib_n (show i + 1 < X.1 by omega) (by omega)), if_pos rfl, if_pos (ib_n (show i + 2 < X.1 by omega) (by omega)), ix_n (show i + 1 < 2 ^ 31 by omega), ix_n (show i + 2 < 2 ^ 31 by omega)]
  have go : ∀ p1 : Int32, (p1 = 0 ∨ p1 = 1) → (p1 = if X.2 (i + 2) = 0 then 0 else 1) → GD M h i k9 (f_Lw_main_b1073 X k9 h SCR 1 755 765 (nI i) 1 (X.2 (i + 1)) p1) := by
    intro p1 h1 h2
    obtain ⟨kk, H1, b, H2, e1, t1, e2, tk, jk, I2, n2, z2⟩ := sp p1 h1 h I
    have w2 := t1.td.1.1
    have w3 := I2.1.td.1.1
    obtain ⟨j1, j2⟩ := I2.1.j22
    have e1' : f_Lw_seal h 1 (X.2 (i + 1)) p1 765 = some (kk, H1) := e1
    have e2' : f_Model_seal H1 755 (X.2 (i + 1)) p1 = some (b, H2) := e2
    have fin : GD M h i k9 (f_Lw_main_b1100 X k9 H1 SCR 1 755 765 (nI i) kk 755 (X.2 (i + 1)) p1) := by
      unfold f_Lw_main_b1100
      rw [if_pos w2, e2', bI_s, if_pos w3, N_thrown I2.1, bI_s, tk, if_pos rfl]
      unfold f_Lw_main_b1140 f_Lw_main_b2138
      rw [show nI i + (6 : Int32) = nI (i + 6) from nI_add i 6]
      by_cases q : kk = 0
      · have jq := jk q
        rw [if_pos q, if_pos j1, j2, if_pos (ib_z (by decide)), ix_0, jq]
        unfold f_Lw_main_b1134 f_Lw_main_b1140 f_Lw_main_b2138
        rw [show nI i + (6 : Int32) = nI (i + 6) from nI_add i 6]
        by_cases qb : b = 0
        · rw [if_pos qb, if_pos qb, lg_self, if_pos rfl]
          exact ⟨H2, rfl, I2, n2, z2⟩
        · rw [if_neg qb, if_neg qb, lg_self, if_pos rfl]
          exact ⟨H2, rfl, I2, n2, z2⟩
      · rw [if_neg q]
        exact ⟨H2, rfl, I2, n2, z2⟩
    unfold f_Lw_main_b1073
    rw [e1', bI_s, if_pos rfl, show nI i + (1 : Int32) = nI (i + 1) from nI_add i 1, show nI i + (2 : Int32) = nI (i + 2) from nI_add i 2, if_pos (ib_n (show i + 1 < X.1 by omega) (by omega)), if_pos rfl, if_pos (ib_n (show i + 2 < X.1 by omega) (by omega)), ix_n (show i + 1 < 2 ^ 31 by omega), ix_n (show i + 2 < 2 ^ 31 by omega)]
    by_cases q : X.2 (i + 2) = 0
    · rw [if_pos q] at h2
      rw [if_pos q, ← h2]
      exact fin
    · rw [if_neg q] at h2
      rw [if_neg q, ← h2]
      exact fin
  by_cases q : X.2 (i + 2) = 0
  · rw [if_pos q]
    exact go 0 (Or.inl rfl) (if_pos q).symm
  · rw [if_neg q]
    exact go 1 (Or.inr rfl) (if_neg q).symm
theorem st_38 (I : INV M h (hI h)) : GD M h i k9 (mx_38 X k9 h SCR 1 755 765 (nI i)) := by
  unfold mx_38 f_Lw_main_b2138
  rw [show nI i + (6 : Int32) = nI (i + 6) from nI_add i 6]
  exact ⟨h, rfl, I.mono (by omega), by omega, by omega⟩
theorem ite_g {P : Prop} [inst : Decidable P] {o1 o2 : Option (Int32 × Hp)} (h1 : P → GD M h i k9 o1) (h2 : ¬ P → GD M h i k9 o2) : GD M h i k9 (if P then o1 else o2) := by
  by_cases q : P
  · rw [if_pos q]; exact h1 q
  · rw [if_neg q]; exact h2 q
theorem st_all (hX : X.1 ≤ 3072) (hi : i + 6 ≤ X.1) (I : INV M h (hI h)) (s0 : ∀ (p1 p2 p3 p4 p5 : Int32), VSp M (fun H => f_Water_feed H 1 p1 p2 p3 p4 p5) (fun H => f_Model_feed H 755 p1 p2 p3 p4 p5)) (s1 : ∀ (p1 : Int32), VSp M (fun H => f_Water_end H 1 p1) (fun H => f_Model_end H 755 p1)) (s2 : LSp M (fun H => f_Lw_land H 1 765) (fun H => f_Model_land H 755)) (s3 : LSp M (fun H => f_Lw_law H 1 765) (fun H => f_Model_law H 755)) (s4 : VSp M (fun H => f_Water_fault H 1) (fun H => f_Model_fault H 755)) (s5 : ∀ (p1 p2 : Int32), LSp M (fun H => f_Lw_cistern H 1 p1 p2 765) (fun H => f_Model_cistern H 755 p1 p2)) (s6 : ∀ (p1 p2 : Int32), LSp M (fun H => f_Lw_layer H 1 p1 p2 765) (fun H => f_Model_layer H 755 p1 p2)) (s7 : ∀ (p1 : Int32), LSp M (fun H => f_Lw_salt H 1 p1 765) (fun H => f_Model_salt H 755 p1)) (s8 : ∀ (p1 p2 : Int32), LSp M (fun H => f_Lw_house H 1 p1 p2 765) (fun H => f_Model_house H 755 p1 p2)) (s9 : ∀ (p1 p2 : Int32), LSp M (fun H => f_Lw_drank H 1 p1 p2 765) (fun H => f_Model_drank H 755 p1 p2)) (s10 : ∀ (p1 p2 : Int32), LSp M (fun H => f_Lw_place H 1 p1 p2 765) (fun H => f_Model_place H 755 p1 p2)) (s11 : ∀ (p1 : Int32), LSp M (fun H => f_Lw_next H 1 p1 765) (fun H => f_Model_next H 755 p1)) (s12 : ∀ (p1 : Int32), LSp M (fun H => f_Lw_months H 1 p1 765) (fun H => f_Model_months H 755 p1)) (s13 : VSp M (fun H => f_Water_undo H 1) (fun H => f_Model_undo H 755)) (s14 : ∀ (p1 p2 : Int32), LSp M (fun H => f_Lw_oath H 1 p1 p2 765) (fun H => f_Model_oath H 755 p1 p2)) (s15 : ∀ (p1 : Int32), LSp M (fun H => f_Lw_winter H 1 p1 765) (fun H => f_Model_winter H 755 p1)) (s16 : ∀ (p1 p2 : Int32), (p2 = 0 ∨ p2 = 1) → SSp M (fun H => f_Lw_seal H 1 p1 p2 765) (fun H => f_Model_seal H 755 p1 p2)) (s17 : ∀ (p1 : Int32), VSp M (fun H => f_Water_seed H 1 p1) (fun H => f_Model_seed H 755 p1)) (s18 : ∀ (p1 p2 p3 : Int32), LSp M (fun H => f_Lw_blend H 1 p1 p2 p3 765) (fun H => f_Model_blend H 755 p1 p2 p3)) (s19 : VSp M (fun H => f_Water_lasts H 1) (fun H => f_Model_lasts H 755)) (s20 : VSp M (fun H => f_Water_worst H 1) (fun H => f_Model_worst H 755)) (s21 : LSp M (fun H => f_Lw_judge H 1 765) (fun H => f_Model_judge H 755)) (s22 : ∀ (p1 p2 p3 p4 p5 : Int32), LSp M (fun H => f_Lw_swap H 1 p1 p2 p3 p4 p5 765) (fun H => f_Model_swap H 755 p1 p2 p3 p4 p5)) (s23 : ∀ (p1 : Int32), VSp M (fun H => f_Water_foul H 1 p1) (fun H => f_Model_foul H 755 p1)) (s24 : ∀ (p1 : Int32), VSp M (fun H => f_Water_fewest H 1 p1) (fun H => f_Model_fewest H 755 p1)) (s25 : LSp M (fun H => f_Lw_look H 1 765) (fun H => f_Model_look H 755)) (s26 : ∀ (p1 : Int32), LSp M (fun H => f_Lw_site H 1 p1 765) (fun H => f_Model_site H 755 p1)) (s27 : ∀ (p1 p2 : Int32), LSp M (fun H => f_Lw_owed H 1 p1 p2 765) (fun H => f_Model_owed H 755 p1 p2)) (s28 : ∀ (p1 p2 p3 : Int32), LSp M (fun H => f_Lw_owe H 1 p1 p2 p3 765) (fun H => f_Model_owe H 755 p1 p2 p3)) (s29 : ∀ (p1 : Int32), LSp M (fun H => f_Lw_debt H 1 p1 765) (fun H => f_Model_debt H 755 p1)) (s30 : ∀ (p1 : Int32), LSp M (fun H => f_Lw_settle H 1 p1 765) (fun H => f_Model_settle H 755 p1)) (s31 : ∀ (p1 p2 p3 : Int32), LSp M (fun H => f_Lw_mix H 1 p1 p2 p3 765) (fun H => f_Model_mix H 755 p1 p2 p3)) (s32 : ∀ (p1 : Int32), (p1 = 0 ∨ p1 = 1) → VSp M (fun H => f_Water_order H 1 p1) (fun H => f_Model_order H 755 p1)) (s33 : ∀ (p1 p2 : Int32), LSp M (fun H => f_Lw_enough H 1 p1 p2 765) (fun H => f_Model_enough H 755 p1 p2)) (s34 : ∀ (p1 p2 : Int32), LSp M (fun H => f_Lw_latest H 1 p1 p2 765) (fun H => f_Model_latest H 755 p1 p2)) (s35 : USp M (fun H => f_Water_image H 1) (fun H => f_Model_image H 755)) (s36 : VSp M (fun H => f_Water_back H 1) (fun H => f_Model_back H 755)) (s37 : ∀ (p1 : Int32), VSp M (fun H => f_Water_count H 1 p1) (fun H => f_Model_count H 755 p1)) : GD M h i k9 (f_Lw_main_b23 X k9 h SCR 1 755 765 (nI i)) := by
  rw [mx_eq, if_pos rfl, if_neg (lim_ge hX hi), if_pos rfl, if_pos (ib_n (by omega) (by omega))]
  unfold mx_0
  refine ite_g (fun _ => st_0 hX hi I (s0 (X.2 (i + 1)) (X.2 (i + 2)) (X.2 (i + 3)) (X.2 (i + 4)) (X.2 (i + 5)))) (fun _ => ?_)
  unfold mx_1
  refine ite_g (fun _ => st_1 hX hi I (s1 (X.2 (i + 1)))) (fun _ => ?_)
  unfold mx_2
  refine ite_g (fun _ => st_2 hX hi I (s2)) (fun _ => ?_)
  unfold mx_3
  refine ite_g (fun _ => st_3 hX hi I (s3)) (fun _ => ?_)
  unfold mx_4
  refine ite_g (fun _ => st_4 hX hi I (s4)) (fun _ => ?_)
  unfold mx_5
  refine ite_g (fun _ => st_5 hX hi I (s5 (X.2 (i + 1)) (X.2 (i + 2)))) (fun _ => ?_)
  unfold mx_6
  refine ite_g (fun _ => st_6 hX hi I (s6 (X.2 (i + 1)) (X.2 (i + 2)))) (fun _ => ?_)
  unfold mx_7
  refine ite_g (fun _ => st_7 hX hi I (s7 (X.2 (i + 1)))) (fun _ => ?_)
  unfold mx_8
  refine ite_g (fun _ => st_8 hX hi I (s8 (X.2 (i + 1)) (X.2 (i + 2)))) (fun _ => ?_)
  unfold mx_9
  refine ite_g (fun _ => st_9 hX hi I (s9 (X.2 (i + 1)) (X.2 (i + 2)))) (fun _ => ?_)
  unfold mx_10
  refine ite_g (fun _ => st_10 hX hi I (s10 (X.2 (i + 1)) (X.2 (i + 2)))) (fun _ => ?_)
  unfold mx_11
  refine ite_g (fun _ => st_11 hX hi I (s11 (X.2 (i + 1)))) (fun _ => ?_)
  unfold mx_12
  refine ite_g (fun _ => st_12 hX hi I (s12 (X.2 (i + 1)))) (fun _ => ?_)
  unfold mx_13
  refine ite_g (fun _ => st_13 hX hi I (s13)) (fun _ => ?_)
  unfold mx_14
  refine ite_g (fun _ => st_14 hX hi I (s14 (X.2 (i + 1)) (X.2 (i + 2)))) (fun _ => ?_)
  unfold mx_15
  refine ite_g (fun _ => st_15 hX hi I (s15 (X.2 (i + 1)))) (fun _ => ?_)
  unfold mx_16
  refine ite_g (fun _ => st_16 hX hi I (s16 (X.2 (i + 1)))) (fun _ => ?_)
  unfold mx_17
  refine ite_g (fun _ => st_17 hX hi I (s17 (X.2 (i + 1)))) (fun _ => ?_)
  unfold mx_18
  refine ite_g (fun _ => st_18 hX hi I (s18 (X.2 (i + 1)) (X.2 (i + 2)) (X.2 (i + 3)))) (fun _ => ?_)
  unfold mx_19
  refine ite_g (fun _ => st_19 hX hi I (s19)) (fun _ => ?_)
  unfold mx_20
  refine ite_g (fun _ => st_20 hX hi I (s20)) (fun _ => ?_)
  unfold mx_21
  refine ite_g (fun _ => st_21 hX hi I (s21)) (fun _ => ?_)
  unfold mx_22
  refine ite_g (fun _ => st_22 hX hi I (s22 (X.2 (i + 1)) (X.2 (i + 2)) (X.2 (i + 3)) (X.2 (i + 4)) (X.2 (i + 5)))) (fun _ => ?_)
  unfold mx_23
  refine ite_g (fun _ => st_23 hX hi I (s23 (X.2 (i + 1)))) (fun _ => ?_)
  unfold mx_24
  refine ite_g (fun _ => st_24 hX hi I (s24 (X.2 (i + 1)))) (fun _ => ?_)
  unfold mx_25
  refine ite_g (fun _ => st_25 hX hi I (s25)) (fun _ => ?_)
  unfold mx_26
  refine ite_g (fun _ => st_26 hX hi I (s26 (X.2 (i + 1)))) (fun _ => ?_)
  unfold mx_27
  refine ite_g (fun _ => st_27 hX hi I (s27 (X.2 (i + 1)) (X.2 (i + 2)))) (fun _ => ?_)
  unfold mx_28
  refine ite_g (fun _ => st_28 hX hi I (s28 (X.2 (i + 1)) (X.2 (i + 2)) (X.2 (i + 3)))) (fun _ => ?_)
  unfold mx_29
  refine ite_g (fun _ => st_29 hX hi I (s29 (X.2 (i + 1)))) (fun _ => ?_)
  unfold mx_30
  refine ite_g (fun _ => st_30 hX hi I (s30 (X.2 (i + 1)))) (fun _ => ?_)
  unfold mx_31
  refine ite_g (fun _ => st_31 hX hi I (s31 (X.2 (i + 1)) (X.2 (i + 2)) (X.2 (i + 3)))) (fun _ => ?_)
  unfold mx_32
  refine ite_g (fun _ => st_32 hX hi I s32) (fun _ => ?_)
  unfold mx_33
  refine ite_g (fun _ => st_33 hX hi I (s33 (X.2 (i + 1)) (X.2 (i + 2)))) (fun _ => ?_)
  unfold mx_34
  refine ite_g (fun _ => st_34 hX hi I (s34 (X.2 (i + 1)) (X.2 (i + 2)))) (fun _ => ?_)
  unfold mx_35
  refine ite_g (fun _ => st_35 hX hi I s35) (fun _ => ?_)
  unfold mx_36
  refine ite_g (fun _ => st_36 hX hi I (s36)) (fun _ => ?_)
  unfold mx_37
  refine ite_g (fun _ => st_37 hX hi I (s37 (X.2 (i + 1)))) (fun _ => ?_)
  exact st_38 I
end STv
end ST
