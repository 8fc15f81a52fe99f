noncomputable def f_Manners_init (this : Nat) (M : Mem) : Option (Mem) :=
  (pI M 4 this 0 10).bind fun M1 => (pI M1 4 this 1 2).bind fun M2 => (pI M2 4 this 2 5).bind fun M3 => some M3
abbrev rm_Manners_init : Room := { frames := 1, cells := 0, slots := 0, locals := 30 }
noncomputable def f_Lands_init (this : Nat) (M : Mem) : Option (Mem) :=
  (f_Manners_init (m_sz M) (m_new M (14, 0))).bind fun z1 => (pR z1 0 this 0 (m_sz M)).bind fun M2 => (nwI M2 24 24).bind fun z3 => (pR z3.2 0 this 3 z3.1).bind fun M4 => (nwI M4 24 24).bind fun z5 => (pR z5.2 0 this 4 z5.1).bind fun M6 => (nwI M6 24 24).bind fun z7 => (pR z7.2 0 this 5 z7.1).bind fun M8 => some M8
abbrev rm_Lands_init : Room := { frames := 2, cells := 4, slots := 75, locals := 50 }
noncomputable def f_Log_init (this : Nat) (M : Mem) : Option (Mem) :=
  (nwI M 480 480).bind fun z1 => (pR z1.2 3 this 2 z1.1).bind fun M2 => some M2
abbrev rm_Log_init : Room := { frames := 1, cells := 1, slots := 480, locals := 30 }
noncomputable def f_Arrays_fill_5 (N : Nat) (a0 : Nat) (a1 : Int32) : Nat → Int32 → Int32 → Mem → Option (Mem)
  | 0, _, _, _ => none
  | n + 1, x2, x3, M => if x3 ≤ x2 then (some M) else ((ast M a0 x2 a1).bind fun M2 => f_Arrays_fill_5 N a0 a1 n (x2 + 1) x3 M2)
noncomputable def f_Arrays_fill (N : Nat) (a0 : Nat) (a1 : Int32) (M : Mem) : Option (Mem) :=
  (aln M a0).bind fun v1 => f_Arrays_fill_5 N a0 a1 N 0 v1 M
abbrev rm_Arrays_fill : Room := { frames := 0, cells := 0, slots := 0, locals := 0 }
noncomputable def f_Person_init (N : Nat) (this : Nat) (M : Mem) : Option (Mem) :=
  (pI M 5 this 6 (-1)).bind fun M1 => (pI M1 5 this 7 (-1)).bind fun M2 => (nwI M2 10 10).bind fun z3 => (pR z3.2 5 this 8 z3.1).bind fun M4 => (nwI M4 10 10).bind fun z5 => (pR z5.2 5 this 9 z5.1).bind fun M6 => (gR M6 5 this 9).bind fun v7 => (f_Arrays_fill N v7 (-1) M6).bind fun z8 => some z8
abbrev rm_Person_init : Room := { frames := 1, cells := 2, slots := 20, locals := 30 }
noncomputable def f_Town_init (N : Nat) (this : Nat) (M : Mem) : Option (Mem) :=
  (f_Lands_init (m_sz M) (m_new M (10, 0))).bind fun z1 => (pR z1 7 this 0 (m_sz M)).bind fun M2 => (nwR M2 2 10 10).bind fun z3 => (pR z3.2 7 this 1 z3.1).bind fun M4 => (nwI M4 24 24).bind fun z5 => (pR z5.2 7 this 3 z5.1).bind fun M6 => (nwI M6 24 24).bind fun z7 => (pR z7.2 7 this 4 z7.1).bind fun M8 => (pI M8 7 this 8 1).bind fun M9 => (f_Log_init (m_sz M9) (m_new M9 (13, 0))).bind fun z10 => (pR z10 7 this 14 (m_sz M9)).bind fun M11 => (gR M11 7 this 1).bind fun v12 => (f_Person_init N (m_sz M11) (m_new M11 (15, 0))).bind fun z13 => (ars z13 2 v12 0 (m_sz M11)).bind fun M14 => (gR M14 7 this 1).bind fun v15 => (f_Person_init N (m_sz M14) (m_new M14 (15, 0))).bind fun z16 => (ars z16 2 v15 1 (m_sz M14)).bind fun M17 => (gR M17 7 this 1).bind fun v18 => (f_Person_init N (m_sz M17) (m_new M17 (15, 0))).bind fun z19 => (ars z19 2 v18 2 (m_sz M17)).bind fun M20 => (gR M20 7 this 1).bind fun v21 => (f_Person_init N (m_sz M20) (m_new M20 (15, 0))).bind fun z22 => (ars z22 2 v21 3 (m_sz M20)).bind fun M23 => (gR M23 7 this 1).bind fun v24 => (f_Person_init N (m_sz M23) (m_new M23 (15, 0))).bind fun z25 => (ars z25 2 v24 4 (m_sz M23)).bind fun M26 => (gR M26 7 this 1).bind fun v27 => (f_Person_init N (m_sz M26) (m_new M26 (15, 0))).bind fun z28 => (ars z28 2 v27 5 (m_sz M26)).bind fun M29 => (gR M29 7 this 1).bind fun v30 => (f_Person_init N (m_sz M29) (m_new M29 (15, 0))).bind fun z31 => (ars z31 2 v30 6 (m_sz M29)).bind fun M32 => (gR M32 7 this 1).bind fun v33 => (f_Person_init N (m_sz M32) (m_new M32 (15, 0))).bind fun z34 => (ars z34 2 v33 7 (m_sz M32)).bind fun M35 => (gR M35 7 this 1).bind fun v36 => (f_Person_init N (m_sz M35) (m_new M35 (15, 0))).bind fun z37 => (ars z37 2 v36 8 (m_sz M35)).bind fun M38 => (gR M38 7 this 1).bind fun v39 => (f_Person_init N (m_sz M38) (m_new M38 (15, 0))).bind fun z40 => (ars z40 2 v39 9 (m_sz M38)).bind fun M41 => some M41
abbrev rm_Town_init : Room := { frames := 3, cells := 40, slots := 922, locals := 70 }
noncomputable def f_Years_init (this : Nat) (M : Mem) : Option (Mem) :=
  (nwI M 10 10).bind fun z1 => (pR z1.2 9 this 1 z1.1).bind fun M2 => (nwI M2 10 10).bind fun z3 => (pR z3.2 9 this 2 z3.1).bind fun M4 => (nwI M4 10 10).bind fun z5 => (pR z5.2 9 this 3 z5.1).bind fun M6 => (nwI M6 10 10).bind fun z7 => (pR z7.2 9 this 4 z7.1).bind fun M8 => (nwI M8 32 32).bind fun z9 => (pR z9.2 9 this 5 z9.1).bind fun M10 => some M10
abbrev rm_Years_init : Room := { frames := 1, cells := 5, slots := 72, locals := 30 }
noncomputable def f_Seating_init (this : Nat) (M : Mem) : Option (Mem) :=
  (nwI M 8 8).bind fun z1 => (pR z1.2 6 this 2 z1.1).bind fun M2 => (nwI M2 8 8).bind fun z3 => (pR z3.2 6 this 4 z3.1).bind fun M4 => (nwI M4 8 8).bind fun z5 => (pR z5.2 6 this 5 z5.1).bind fun M6 => some M6
abbrev rm_Seating_init : Room := { frames := 1, cells := 3, slots := 24, locals := 30 }
noncomputable def f_CT_init (N : Nat) (this : Nat) (M : Mem) : Option (Mem) :=
  (nwI M 400 400).bind fun z1 => (pR z1.2 10 this 0 z1.1).bind fun M2 => (pI M2 10 this 2 (-1)).bind fun M3 => (f_Town_init N (m_sz M3) (m_new M3 (17, 0))).bind fun z4 => (pR z4 10 this 3 (m_sz M3)).bind fun M5 => (f_Town_init N (m_sz M5) (m_new M5 (17, 0))).bind fun z6 => (pR z6 10 this 4 (m_sz M5)).bind fun M7 => (nwR M7 3 12 12).bind fun z8 => (pR z8.2 10 this 6 z8.1).bind fun M9 => (f_Town_init N (m_sz M9) (m_new M9 (17, 0))).bind fun z10 => (pR z10 10 this 8 (m_sz M9)).bind fun M11 => (f_Years_init (m_sz M11) (m_new M11 (19, 0))).bind fun z12 => (pR z12 10 this 9 (m_sz M11)).bind fun M13 => (f_Seating_init (m_sz M13) (m_new M13 (16, 0))).bind fun z14 => (pR z14 10 this 10 (m_sz M13)).bind fun M15 => (gR M15 10 this 6).bind fun v16 => (f_Town_init N (m_sz M15) (m_new M15 (17, 0))).bind fun z17 => (ars z17 3 v16 0 (m_sz M15)).bind fun M18 => (gR M18 10 this 6).bind fun v19 => (f_Town_init N (m_sz M18) (m_new M18 (17, 0))).bind fun z20 => (ars z20 3 v19 1 (m_sz M18)).bind fun M21 => (gR M21 10 this 6).bind fun v22 => (f_Town_init N (m_sz M21) (m_new M21 (17, 0))).bind fun z23 => (ars z23 3 v22 2 (m_sz M21)).bind fun M24 => (gR M24 10 this 6).bind fun v25 => (f_Town_init N (m_sz M24) (m_new M24 (17, 0))).bind fun z26 => (ars z26 3 v25 3 (m_sz M24)).bind fun M27 => (gR M27 10 this 6).bind fun v28 => (f_Town_init N (m_sz M27) (m_new M27 (17, 0))).bind fun z29 => (ars z29 3 v28 4 (m_sz M27)).bind fun M30 => (gR M30 10 this 6).bind fun v31 => (f_Town_init N (m_sz M30) (m_new M30 (17, 0))).bind fun z32 => (ars z32 3 v31 5 (m_sz M30)).bind fun M33 => (gR M33 10 this 6).bind fun v34 => (f_Town_init N (m_sz M33) (m_new M33 (17, 0))).bind fun z35 => (ars z35 3 v34 6 (m_sz M33)).bind fun M36 => (gR M36 10 this 6).bind fun v37 => (f_Town_init N (m_sz M36) (m_new M36 (17, 0))).bind fun z38 => (ars z38 3 v37 7 (m_sz M36)).bind fun M39 => (gR M39 10 this 6).bind fun v40 => (f_Town_init N (m_sz M39) (m_new M39 (17, 0))).bind fun z41 => (ars z41 3 v40 8 (m_sz M39)).bind fun M42 => (gR M42 10 this 6).bind fun v43 => (f_Town_init N (m_sz M42) (m_new M42 (17, 0))).bind fun z44 => (ars z44 3 v43 9 (m_sz M42)).bind fun M45 => (gR M45 10 this 6).bind fun v46 => (f_Town_init N (m_sz M45) (m_new M45 (17, 0))).bind fun z47 => (ars z47 3 v46 10 (m_sz M45)).bind fun M48 => (gR M48 10 this 6).bind fun v49 => (f_Town_init N (m_sz M48) (m_new M48 (17, 0))).bind fun z50 => (ars z50 3 v49 11 (m_sz M48)).bind fun M51 => some M51
abbrev rm_CT_init : Room := { frames := 4, cells := 627, slots := 14575, locals := 91 }
noncomputable def f_CT_feedNumber_3 (N : Nat) (this : Nat) (a0 : Int32) : Nat → Int32 → Mem → Option (Mem)
  | 0, _, _ => none
  | n + 1, x2, M => if x2 < 0 then (some M) else ((gI M 10 this 1).bind fun v1 => if 400 ≤ v1 then (some M) else ((gR M 10 this 0).bind fun v2 => (gI M 10 this 1).bind fun v3 => (ast M v2 v3 ((ushr a0 x2) &&& 255)).bind fun M4 => (gI M4 10 this 1).bind fun v5 => (pI M4 10 this 1 (v5 + 1)).bind fun M6 => f_CT_feedNumber_3 N this a0 n (x2 + (-8)) M6))
noncomputable def f_CT_feedNumber (N : Nat) (this : Nat) (a0 : Int32) (M : Mem) : Option (Mem) :=
  f_CT_feedNumber_3 N this a0 N 24 M
abbrev rm_CT_feedNumber : Room := { frames := 0, cells := 0, slots := 0, locals := 0 }
noncomputable def f_CT_feed (N : Nat) (this : Nat) (a0 : Int32) (a1 : Int32) (a2 : Int32) (a3 : Int32) (a4 : Int32) (M : Mem) : Option (Int32 × Mem) :=
  (gI M 10 this 1).bind fun v1 => if v1 ≤ 380 then ((ck M 10 this).bind fun _ => (f_CT_feedNumber N this a0 M).bind fun z2 => (ck z2 10 this).bind fun _ => (f_CT_feedNumber N this a1 z2).bind fun z3 => (ck z3 10 this).bind fun _ => (f_CT_feedNumber N this a2 z3).bind fun z4 => (ck z4 10 this).bind fun _ => (f_CT_feedNumber N this a3 z4).bind fun z5 => (ck z5 10 this).bind fun _ => (f_CT_feedNumber N this a4 z5).bind fun z6 => (gI z6 10 this 1).bind fun v7 => some (v7, z6)) else (some ((-1), M))
abbrev rm_CT_feed : Room := { frames := 1, cells := 0, slots := 0, locals := 22 }
noncomputable def f_CT_end (this : Nat) (a0 : Int32) (M : Mem) : Option (Int32 × Mem) :=
  if a0 < 0 then (some (0, M)) else ((gI M 10 this 1).bind fun v1 => if a0 ≤ v1 then ((pI M 10 this 1 a0).bind fun M2 => some (1, M2)) else (some (0, M)))
abbrev rm_CT_end : Room := { frames := 0, cells := 0, slots := 0, locals := 0 }
noncomputable def f_CT_fault (this : Nat) (M : Mem) : Option (Int32) :=
  (gI M 10 this 2).bind fun v1 => some v1
abbrev rm_CT_fault : Room := { frames := 0, cells := 0, slots := 0, locals := 0 }
noncomputable def f_Manners_kindOf (a0 : Int32) : Option (Int32) :=
  some (a0 >>> (3 &&& 31))
abbrev rm_Manners_kindOf : Room := { frames := 0, cells := 0, slots := 0, locals := 0 }
noncomputable def f_Manners_countOf (a0 : Int32) : Option (Int32) :=
  some (((a0 >>> (1 &&& 31)) &&& 3) + 1)
abbrev rm_Manners_countOf : Room := { frames := 0, cells := 0, slots := 0, locals := 0 }
noncomputable def f_Math_abs (a0 : Int32) : Option (Int32) :=
  if 0 ≤ a0 then (some a0) else (some (-a0))
abbrev rm_Math_abs : Room := { frames := 0, cells := 0, slots := 0, locals := 0 }
noncomputable def f_Manners_sideOf (a0 : Int32) : Option (Int32) :=
  some (a0 &&& 1)
abbrev rm_Manners_sideOf : Room := { frames := 0, cells := 0, slots := 0, locals := 0 }
noncomputable def f_Manners_costOf_64 (this : Nat) (a0 : Int32) (a1 : Int32) (M : Mem) (y0 : Int32) (y1 : Int32) : Option (Int32) :=
  some (y0 + y1)
noncomputable def f_Manners_costOf (this : Nat) (a0 : Int32) (a1 : Int32) (M : Mem) : Option (Int32) :=
  (f_Manners_kindOf a0).bind fun z1 => (f_Manners_kindOf a1).bind fun z2 => if z1 = z2 then ((f_Manners_kindOf a0).bind fun z3 => if z3 = 2 then ((f_Manners_countOf a0).bind fun z4 => (f_Manners_countOf a1).bind fun z5 => (f_Math_abs (z4 - z5)).bind fun z6 => (gI M 4 this 1).bind fun v7 => (f_Manners_sideOf a0).bind fun z8 => (f_Manners_sideOf a1).bind fun z9 => if z8 = z9 then (f_Manners_costOf_64 this a0 a1 M (v7 * z6) 0) else ((gI M 4 this 2).bind fun v10 => f_Manners_costOf_64 this a0 a1 M (v7 * z6) v10)) else (some 0)) else ((gI M 4 this 0).bind fun v11 => some v11)
abbrev rm_Manners_costOf : Room := { frames := 1, cells := 0, slots := 0, locals := 20 }
noncomputable def f_Math_max (a0 : Int32) (a1 : Int32) : Option (Int32) :=
  if a0 < a1 then (some a1) else (some a0)
abbrev rm_Math_max : Room := { frames := 0, cells := 0, slots := 0, locals := 0 }
noncomputable def f_Lands_greatestCostOf_4 (N : Nat) (this : Nat) (a0 : Int32) (M : Mem) : Nat → Int32 → Int32 → Option (Int32)
  | 0, _, _ => none
  | n + 1, x2, x3 => (gI M 0 this 2).bind fun v1 => if v1 ≤ x3 then (some x2) else (if 24 ≤ x3 then (some x2) else ((gR M 0 this 0).bind fun v2 => (gR M 0 this 4).bind fun v3 => (ald M v3 x3).bind fun v4 => (ck M 4 v2).bind fun _ => (f_Manners_costOf v2 a0 v4 M).bind fun z5 => (f_Math_max x2 z5).bind fun z6 => f_Lands_greatestCostOf_4 N this a0 M n z6 (x3 + 1)))
noncomputable def f_Lands_greatestCostOf (N : Nat) (this : Nat) (a0 : Int32) (M : Mem) : Option (Int32) :=
  f_Lands_greatestCostOf_4 N this a0 M N 0 0
abbrev rm_Lands_greatestCostOf : Room := { frames := 2, cells := 0, slots := 0, locals := 43 }
noncomputable def f_Lands_safestOfAll_10 (N : Nat) (this : Nat) (M : Mem) : Nat → Int32 → Int32 → Int32 → Option (Int32)
  | 0, _, _, _ => none
  | n + 1, x1, x2, x3 => if 32 ≤ x3 then (some x1) else ((ck M 0 this).bind fun _ => (f_Lands_greatestCostOf N this x3 M).bind fun z2 => if x2 ≤ z2 then (f_Lands_safestOfAll_10 N this M n x1 x2 (x3 + 1)) else (f_Lands_safestOfAll_10 N this M n x3 z2 (x3 + 1)))
noncomputable def f_Lands_safestOfAll (N : Nat) (this : Nat) (M : Mem) : Option (Int32) :=
  (ck M 0 this).bind fun _ => (f_Lands_greatestCostOf N this 0 M).bind fun z1 => f_Lands_safestOfAll_10 N this M N 0 z1 1
abbrev rm_Lands_safestOfAll : Room := { frames := 3, cells := 0, slots := 0, locals := 66 }
noncomputable def f_CT_safest (N : Nat) (this : Nat) (a0 : Int32) (M : Mem) : Option (Int32) :=
  (gR M 10 this 3).bind fun v1 => (gR M 7 v1 0).bind fun v2 => (ck M 0 v2).bind fun _ => (f_Lands_safestOfAll N v2 M).bind fun z3 => if a0 = 0 then (some z3) else ((gR M 10 this 3).bind fun v4 => (gR M 7 v4 0).bind fun v5 => (ck M 0 v5).bind fun _ => (f_Lands_greatestCostOf N v5 z3 M).bind fun z6 => some z6)
abbrev rm_CT_safest : Room := { frames := 4, cells := 0, slots := 0, locals := 90 }
noncomputable def f_Lands_expectedOf_5 (N : Nat) (this : Nat) (a0 : Int32) (a1 : Int32) (M : Mem) : Nat → Int32 → Int32 → Option (Int32)
  | 0, _, _ => none
  | n + 1, x3, x4 => (gI M 0 this 2).bind fun v1 => if v1 ≤ x4 then (some x3) else (if 24 ≤ x4 then (some x3) else ((gR M 0 this 3).bind fun v2 => (ald M v2 x4).bind fun v3 => if v3 = a0 then ((gR M 0 this 5).bind fun v4 => (ald M v4 x4).bind fun v5 => (gR M 0 this 0).bind fun v6 => (gR M 0 this 4).bind fun v7 => (ald M v7 x4).bind fun v8 => (ck M 4 v6).bind fun _ => (f_Manners_costOf v6 a1 v8 M).bind fun z9 => f_Lands_expectedOf_5 N this a0 a1 M n (x3 + (v5 * z9)) (x4 + 1)) else (f_Lands_expectedOf_5 N this a0 a1 M n x3 (x4 + 1))))
noncomputable def f_Lands_expectedOf (N : Nat) (this : Nat) (a0 : Int32) (a1 : Int32) (M : Mem) : Option (Int32) :=
  f_Lands_expectedOf_5 N this a0 a1 M N 0 0
abbrev rm_Lands_expectedOf : Room := { frames := 2, cells := 0, slots := 0, locals := 43 }
noncomputable def f_Town_expectedByAll_4 (N : Nat) (this : Nat) (a0 : Int32) (M : Mem) : Nat → Int32 → Int32 → Option (Int32)
  | 0, _, _ => none
  | n + 1, x2, x3 => (gI M 7 this 2).bind fun v1 => if v1 ≤ x3 then (some x2) else ((gR M 7 this 0).bind fun v2 => (gR M 7 this 1).bind fun v3 => (ard M 2 v3 x3).bind fun v4 => (gI M 5 v4 0).bind fun v5 => (ck M 0 v2).bind fun _ => (f_Lands_expectedOf N v2 v5 a0 M).bind fun z6 => f_Town_expectedByAll_4 N this a0 M n (x2 + z6) (x3 + 1))
noncomputable def f_Town_expectedByAll (N : Nat) (this : Nat) (a0 : Int32) (M : Mem) : Option (Int32) :=
  f_Town_expectedByAll_4 N this a0 M N 0 0
abbrev rm_Town_expectedByAll : Room := { frames := 3, cells := 0, slots := 0, locals := 67 }
noncomputable def f_Math_min (a0 : Int32) (a1 : Int32) : Option (Int32) :=
  if a1 < a0 then (some a1) else (some a0)
abbrev rm_Math_min : Room := { frames := 0, cells := 0, slots := 0, locals := 0 }
noncomputable def f_Lands_bestIn_12 (N : Nat) (this : Nat) (a0 : Int32) (M : Mem) : Nat → Int32 → Int32 → Int32 → Option (Int32)
  | 0, _, _, _ => none
  | n + 1, x2, x3, x4 => if 32 ≤ x4 then (some x2) else ((ck M 0 this).bind fun _ => (f_Lands_expectedOf N this a0 x4 M).bind fun z2 => if x3 ≤ z2 then (f_Lands_bestIn_12 N this a0 M n x2 x3 (x4 + 1)) else (f_Lands_bestIn_12 N this a0 M n x4 z2 (x4 + 1)))
noncomputable def f_Lands_bestIn (N : Nat) (this : Nat) (a0 : Int32) (M : Mem) : Option (Int32) :=
  (ck M 0 this).bind fun _ => (f_Lands_expectedOf N this a0 0 M).bind fun z1 => f_Lands_bestIn_12 N this a0 M N 0 z1 1
abbrev rm_Lands_bestIn : Room := { frames := 3, cells := 0, slots := 0, locals := 67 }
noncomputable def f_CT_worth_35 (N : Nat) (this : Nat) (M : Mem) : Nat → Int32 → Int32 → Int32 → Option (Int32)
  | 0, _, _, _ => none
  | n + 1, x1, x2, x3 => (gR M 10 this 3).bind fun v4 => (gI M 7 v4 2).bind fun v5 => if v5 ≤ x3 then (some (x1 - x2)) else ((gR M 10 this 3).bind fun v6 => (gR M 7 v6 1).bind fun v7 => (ard M 2 v7 x3).bind fun v8 => (gI M 5 v8 0).bind fun v9 => (gR M 10 this 3).bind fun v10 => (gR M 7 v10 0).bind fun v11 => (gR M 10 this 3).bind fun v12 => (gR M 7 v12 0).bind fun v13 => (ck M 0 v13).bind fun _ => (f_Lands_bestIn N v13 v9 M).bind fun z14 => (ck M 0 v11).bind fun _ => (f_Lands_expectedOf N v11 v9 z14 M).bind fun z15 => f_CT_worth_35 N this M n x1 (x2 + z15) (x3 + 1))
noncomputable def f_CT_worth_6 (N : Nat) (this : Nat) (M : Mem) : Nat → Int32 → Int32 → Option (Int32)
  | 0, _, _ => none
  | n + 1, x1, x2 => if 32 ≤ x2 then (f_CT_worth_35 N this M N x1 0 0) else ((gR M 10 this 3).bind fun v1 => (ck M 7 v1).bind fun _ => (f_Town_expectedByAll N v1 x2 M).bind fun z2 => (f_Math_min x1 z2).bind fun z3 => f_CT_worth_6 N this M n z3 (x2 + 1))
noncomputable def f_CT_worth (N : Nat) (this : Nat) (M : Mem) : Option (Int32) :=
  f_CT_worth_6 N this M N 1000000000 0
abbrev rm_CT_worth : Room := { frames := 4, cells := 0, slots := 0, locals := 92 }
noncomputable def f_Town_everybody (this : Nat) (M : Mem) : Option (Int32) :=
  (gI M 7 this 2).bind fun v1 => some ((1 <<< (v1 &&& 31)) - 1)
abbrev rm_Town_everybody : Room := { frames := 0, cells := 0, slots := 0, locals := 0 }
noncomputable def f_Integer_bitCount (a0 : Int32) : Option (Int32) :=
  some ((((((((a0 - ((ushr a0 1) &&& 1431655765)) &&& 858993459) + ((ushr (a0 - ((ushr a0 1) &&& 1431655765)) 2) &&& 858993459)) + (ushr (((a0 - ((ushr a0 1) &&& 1431655765)) &&& 858993459) + ((ushr (a0 - ((ushr a0 1) &&& 1431655765)) 2) &&& 858993459)) 4)) &&& 252645135) + (ushr (((((a0 - ((ushr a0 1) &&& 1431655765)) &&& 858993459) + ((ushr (a0 - ((ushr a0 1) &&& 1431655765)) 2) &&& 858993459)) + (ushr (((a0 - ((ushr a0 1) &&& 1431655765)) &&& 858993459) + ((ushr (a0 - ((ushr a0 1) &&& 1431655765)) 2) &&& 858993459)) 4)) &&& 252645135) 8)) + (ushr ((((((a0 - ((ushr a0 1) &&& 1431655765)) &&& 858993459) + ((ushr (a0 - ((ushr a0 1) &&& 1431655765)) 2) &&& 858993459)) + (ushr (((a0 - ((ushr a0 1) &&& 1431655765)) &&& 858993459) + ((ushr (a0 - ((ushr a0 1) &&& 1431655765)) 2) &&& 858993459)) 4)) &&& 252645135) + (ushr (((((a0 - ((ushr a0 1) &&& 1431655765)) &&& 858993459) + ((ushr (a0 - ((ushr a0 1) &&& 1431655765)) 2) &&& 858993459)) + (ushr (((a0 - ((ushr a0 1) &&& 1431655765)) &&& 858993459) + ((ushr (a0 - ((ushr a0 1) &&& 1431655765)) 2) &&& 858993459)) 4)) &&& 252645135) 8)) 16)) &&& 63)
abbrev rm_Integer_bitCount : Room := { frames := 0, cells := 0, slots := 0, locals := 0 }
noncomputable def f_CT_isIn (a0 : Int32) (a1 : Int32) : Option (Int32) :=
  if ((a0 >>> (a1 &&& 31)) &&& 1) = 1 then (some 1) else (some 0)
abbrev rm_CT_isIn : Room := { frames := 0, cells := 0, slots := 0, locals := 0 }
noncomputable def f_Town_costOfOwns (this : Nat) (a0 : Int32) (a1 : Int32) (M : Mem) : Option (Int32) :=
  (gR M 7 this 0).bind fun v1 => (gR M 0 v1 0).bind fun v2 => (gR M 7 this 1).bind fun v3 => (ard M 2 v3 a0).bind fun v4 => (gI M 5 v4 1).bind fun v5 => (gR M 7 this 1).bind fun v6 => (ard M 2 v6 a1).bind fun v7 => (gI M 5 v7 1).bind fun v8 => (ck M 4 v2).bind fun _ => (f_Manners_costOf v2 v5 v8 M).bind fun z9 => some z9
abbrev rm_Town_costOfOwns : Room := { frames := 2, cells := 0, slots := 0, locals := 43 }
noncomputable def f_Seating_closeRing_36 (this : Nat) (a0 : Int32) (y0 : Int32) (M : Mem) : Option (Mem) :=
  (gI M 6 this 0).bind fun v9 => if v9 ≤ (a0 + y0) then (some M) else ((pI M 6 this 0 (a0 + y0)).bind fun M10 => (gR M10 6 this 4).bind fun v11 => (gR M10 6 this 5).bind fun v12 => (acp M10 v11 0 v12 0 8).bind fun M13 => some M13)
noncomputable def f_Seating_closeRing (this : Nat) (a0 : Int32) (M : Mem) : Option (Mem) :=
  (gI M 6 this 3).bind fun v1 => if v1 ≤ 2 then (f_Seating_closeRing_36 this a0 0 M) else ((gR M 6 this 1).bind fun v2 => (gR M 6 this 4).bind fun v3 => (gI M 6 this 3).bind fun v4 => (ald M v3 (v4 - 1)).bind fun v5 => (gR M 6 this 4).bind fun v6 => (ald M v6 0).bind fun v7 => (ck M 7 v2).bind fun _ => (f_Town_costOfOwns v2 v5 v7 M).bind fun z8 => f_Seating_closeRing_36 this a0 z8 M)
abbrev rm_Seating_closeRing : Room := { frames := 3, cells := 0, slots := 0, locals := 100 }
noncomputable def f_Seating_seatNext_31 (N : Nat) (fr : Nat → Int32 → Int32 → Int32 → Mem → Option (Mem)) (a0 : Nat) (a1 : Int32) (a2 : Int32) (a3 : Int32) : Nat → Int32 → Mem → Option (Mem)
  | 0, _, _ => none
  | n + 1, x4, M => (gI M 6 a0 3).bind fun v4 => if v4 ≤ x4 then (some M) else ((f_CT_isIn a2 x4).bind fun z5 => if z5 = 0 then ((gR M 6 a0 4).bind fun v6 => (gR M 6 a0 2).bind fun v7 => (ald M v7 x4).bind fun v8 => (ast M v6 a1 v8).bind fun M9 => (gR M9 6 a0 1).bind fun v10 => (gR M9 6 a0 4).bind fun v11 => (ald M9 v11 (a1 - 1)).bind fun v12 => (gR M9 6 a0 2).bind fun v13 => (ald M9 v13 x4).bind fun v14 => (ck M9 7 v10).bind fun _ => (f_Town_costOfOwns v10 v12 v14 M9).bind fun z15 => (fr a0 (a1 + 1) (a2 ||| (1 <<< (x4 &&& 31))) (a3 + z15) M9).bind fun z16 => f_Seating_seatNext_31 N (fr) a0 a1 a2 a3 n (x4 + 1) z16) else (f_Seating_seatNext_31 N (fr) a0 a1 a2 a3 n (x4 + 1) M))
noncomputable def f_Seating_seatNext (N : Nat) : Nat → Nat → Int32 → Int32 → Int32 → Mem → Option (Mem)
  | 0, _, _, _, _, _ => none
  | d + 1, a0, a1, a2, a3, M => if a1 < 1 then (some M) else ((gI M 6 a0 0).bind fun v1 => if a3 < v1 then ((gI M 6 a0 3).bind fun v2 => if a1 < v2 then (f_Seating_seatNext_31 N (f_Seating_seatNext N d) a0 a1 a2 a3 N 1 M) else ((ck M 6 a0).bind fun _ => (f_Seating_closeRing a0 a3 M).bind fun z3 => some z3)) else (some M))
abbrev rm_Seating_seatNext (d : Nat) : Room := { frames := 60 + 12 * d + 0, cells := 0, slots := 0, locals := 3000 + 400 * d + 0 }
noncomputable def f_Seating_seatAll_12 (N : Nat) (this : Nat) (a0 : Nat) (a1 : Int32) : Nat → Int32 → Mem → Option (Mem)
  | 0, _, _ => none
  | n + 1, x3, M => if 10 ≤ x3 then ((pI M 6 this 0 0).bind fun M3 => (gI M3 6 this 3).bind fun v4 => if v4 ≤ 0 then (some M3) else ((pI M3 6 this 0 1000000000).bind fun M5 => (gR M5 6 this 4).bind fun v6 => (gR M5 6 this 2).bind fun v7 => (ald M5 v7 0).bind fun v8 => (ast M5 v6 0 v8).bind fun M9 => (f_Seating_seatNext N 10 this 1 1 0 M9).bind fun z10 => some z10)) else ((f_CT_isIn a1 x3).bind fun z11 => if z11 = 0 then (f_Seating_seatAll_12 N this a0 a1 n (x3 + 1) M) else ((gI M 6 this 3).bind fun v12 => if 8 ≤ v12 then (f_Seating_seatAll_12 N this a0 a1 n (x3 + 1) M) else ((gR M 6 this 2).bind fun v13 => (gI M 6 this 3).bind fun v14 => (ast M v13 v14 x3).bind fun M15 => (gI M15 6 this 3).bind fun v16 => (pI M15 6 this 3 (v16 + 1)).bind fun M17 => f_Seating_seatAll_12 N this a0 a1 n (x3 + 1) M17)))
noncomputable def f_Seating_seatAll (N : Nat) (this : Nat) (a0 : Nat) (a1 : Int32) (M : Mem) : Option (Mem) :=
  (pR M 6 this 1 a0).bind fun M1 => (pI M1 6 this 3 0).bind fun M2 => f_Seating_seatAll_12 N this a0 a1 N 0 M2
abbrev rm_Seating_seatAll : Room := { frames := 181, cells := 0, slots := 0, locals := 7025 }
noncomputable def f_Seating_guestAt (this : Nat) (a0 : Int32) (M : Mem) : Option (Int32) :=
  if a0 < 0 then (some (-1)) else ((gI M 6 this 3).bind fun v1 => if v1 ≤ a0 then (some (-1)) else ((gR M 6 this 5).bind fun v2 => (ald M v2 a0).bind fun v3 => some v3))
abbrev rm_Seating_guestAt : Room := { frames := 0, cells := 0, slots := 0, locals := 0 }
noncomputable def f_CT_table (N : Nat) (this : Nat) (a0 : Int32) (a1 : Int32) (M : Mem) : Option (Int32 × Mem) :=
  (gR M 10 this 3).bind fun v1 => (ck M 7 v1).bind fun _ => (f_Town_everybody v1 M).bind fun z2 => (f_Integer_bitCount (a0 &&& z2)).bind fun z3 => if z3 ≤ 8 then ((gR M 10 this 10).bind fun v4 => (gR M 10 this 3).bind fun v5 => (ck M 6 v4).bind fun _ => (f_Seating_seatAll N v4 v5 (a0 &&& z2) M).bind fun z6 => if a1 = (-1) then ((gR z6 10 this 10).bind fun v9 => (gI z6 6 v9 0).bind fun v10 => some (v10, z6)) else ((gR z6 10 this 10).bind fun v7 => (ck z6 6 v7).bind fun _ => (f_Seating_guestAt v7 a1 z6).bind fun z8 => some (z8, z6))) else (some ((-3), M))
abbrev rm_CT_table : Room := { frames := 182, cells := 0, slots := 0, locals := 7048 }
noncomputable def f_Town_peopleTied_4 (N : Nat) (this : Nat) (M : Mem) : Nat → Int32 → Int32 → Option (Int32)
  | 0, _, _ => none
  | n + 1, x1, x2 => (gI M 7 this 2).bind fun v1 => if v1 ≤ x2 then (some x1) else ((gR M 7 this 1).bind fun v2 => (ard M 2 v2 x2).bind fun v3 => (gI M 5 v3 5).bind fun v4 => f_Town_peopleTied_4 N this M n (x1 ||| v4) (x2 + 1))
noncomputable def f_Town_peopleTied (N : Nat) (this : Nat) (M : Mem) : Option (Int32) :=
  f_Town_peopleTied_4 N this M N 0 0
abbrev rm_Town_peopleTied : Room := { frames := 0, cells := 0, slots := 0, locals := 0 }
noncomputable def f_CT_mostPairs_51 (N : Nat) (fr : Nat → Int32 → Int32 → Mem → Option (Int32)) (a0 : Nat) (a1 : Int32) (a2 : Int32) (M : Mem) : Nat → Int32 → Int32 → Int32 → Option (Int32)
  | 0, _, _, _ => none
  | n + 1, x3, x4, x5 => (gI M 7 a0 2).bind fun v7 => if v7 ≤ x5 then (some x3) else ((f_CT_isIn x4 x5).bind fun z8 => if z8 = 0 then (f_CT_mostPairs_51 N (fr) a0 a1 a2 M n x3 x4 (x5 + 1)) else ((fr a0 (a1 + 1) (a2 &&& ((1 <<< (x5 &&& 31)) ^^^ (-1))) M).bind fun z9 => (f_Math_max x3 (1 + z9)).bind fun z10 => f_CT_mostPairs_51 N (fr) a0 a1 a2 M n z10 x4 (x5 + 1)))
noncomputable def f_CT_mostPairs (N : Nat) : Nat → Nat → Int32 → Int32 → Mem → Option (Int32)
  | 0, _, _, _, _ => none
  | d + 1, a0, a1, a2, M => if a1 < 0 then (some 0) else ((gI M 7 a0 2).bind fun v1 => if a1 < v1 then ((f_CT_mostPairs N d a0 (a1 + 1) a2 M).bind fun z2 => (f_CT_isIn a2 a1).bind fun z3 => if z3 = 0 then (some z2) else ((gR M 7 a0 1).bind fun v4 => (ard M 2 v4 a1).bind fun v5 => (gI M 5 v5 5).bind fun v6 => f_CT_mostPairs_51 N (f_CT_mostPairs N d) a0 a1 a2 M N z2 (v6 &&& a2) (a1 + 1))) else (some 0))
abbrev rm_CT_mostPairs (d : Nat) : Room := { frames := 60 + 12 * d + 0, cells := 0, slots := 0, locals := 3000 + 400 * d + 0 }
noncomputable def f_CT_pairs_27 (N : Nat) (this : Nat) (a0 : Int32) (M : Mem) : Nat → Int32 → Int32 → Int32 → Option (Int32)
  | 0, _, _, _ => none
  | n + 1, x2, x3, x4 => (gR M 10 this 3).bind fun v5 => (gI M 7 v5 5).bind fun v6 => if v6 ≤ x4 then (some x2) else ((gR M 10 this 3).bind fun v7 => (gR M 7 v7 3).bind fun v8 => (ald M v8 x4).bind fun v9 => (gR M 10 this 3).bind fun v10 => (gR M 7 v10 4).bind fun v11 => (ald M v11 x4).bind fun v12 => if (x2 &&& ((1 <<< (v9 &&& 31)) ||| (1 <<< (v12 &&& 31)))) = ((1 <<< (v9 &&& 31)) ||| (1 <<< (v12 &&& 31))) then ((gR M 10 this 3).bind fun v13 => (f_CT_mostPairs N 12 v13 0 (x2 &&& (((1 <<< (v9 &&& 31)) ||| (1 <<< (v12 &&& 31))) ^^^ (-1))) M).bind fun z14 => if z14 = (x3 - 1) then (f_CT_pairs_27 N this a0 M n (x2 &&& (((1 <<< (v9 &&& 31)) ||| (1 <<< (v12 &&& 31))) ^^^ (-1))) (x3 + (-1)) (x4 + 1)) else (f_CT_pairs_27 N this a0 M n x2 x3 (x4 + 1))) else (f_CT_pairs_27 N this a0 M n x2 x3 (x4 + 1)))
noncomputable def f_CT_pairs (N : Nat) (this : Nat) (a0 : Int32) (M : Mem) : Option (Int32) :=
  (gR M 10 this 3).bind fun v1 => (ck M 7 v1).bind fun _ => (f_Town_peopleTied N v1 M).bind fun z2 => (gR M 10 this 3).bind fun v3 => (f_CT_mostPairs N 12 v3 0 z2 M).bind fun z4 => if a0 = 0 then (some z4) else (f_CT_pairs_27 N this a0 M N z2 z4 0)
abbrev rm_CT_pairs : Room := { frames := 205, cells := 0, slots := 0, locals := 7825 }
noncomputable def f_Years_startFrom_10 (N : Nat) (this : Nat) (a0 : Nat) : Nat → Int32 → Mem → Option (Mem)
  | 0, _, _ => none
  | n + 1, x2, M => (gI M 9 this 0).bind fun v3 => if v3 ≤ x2 then (some M) else ((gR M 9 this 1).bind fun v4 => (gR M 7 a0 1).bind fun v5 => (ard M 2 v5 x2).bind fun v6 => (gI M 5 v6 5).bind fun v7 => (ast M v4 x2 (v7 ||| (1 <<< (x2 &&& 31)))).bind fun M8 => (gR M8 9 this 2).bind fun v9 => (gR M8 7 a0 1).bind fun v10 => (ard M8 2 v10 x2).bind fun v11 => (gI M8 5 v11 1).bind fun v12 => (ast M8 v9 x2 v12).bind fun M13 => (gR M13 9 this 3).bind fun v14 => (ast M13 v14 x2 (-1)).bind fun M15 => f_Years_startFrom_10 N this a0 n (x2 + 1) M15)
noncomputable def f_Years_startFrom (N : Nat) (this : Nat) (a0 : Nat) (M : Mem) : Option (Mem) :=
  (gI M 7 a0 2).bind fun v1 => (pI M 9 this 0 v1).bind fun M2 => f_Years_startFrom_10 N this a0 N 0 M2
abbrev rm_Years_startFrom : Room := { frames := 0, cells := 0, slots := 0, locals := 0 }
noncomputable def f_Years_mostAround_166 (N : Nat) (this : Nat) (a0 : Int32) (x3 : Int32) (M : Mem) : Option (Int32 × Mem) :=
  (gR M 9 this 5).bind fun v24 => (f_Arrays_fill N v24 0 M).bind fun z25 => some (x3, z25)
noncomputable def f_Years_mostAround_129 (N : Nat) (this : Nat) (a0 : Int32) (k89 : Int32 → Int32 → Int32 → Int32 → Mem → Option (Int32 × Mem)) (x2 : Int32) (x3 : Int32) (x4 : Int32) (x5 : Int32) (y0 : Int32) (M : Mem) : Option (Int32 × Mem) :=
  (gR M 9 this 5).bind fun v26 => (gR M 9 this 2).bind fun v27 => (ald M v27 x5).bind fun v28 => (ald M v26 v28).bind fun v29 => if v29 = x2 then (if y0 = 0 then (k89 x2 x3 x4 (x5 + 1) M) else ((gR M 9 this 2).bind fun v30 => (ald M v30 x5).bind fun v31 => k89 x2 v31 x4 (x5 + 1) M)) else (k89 x2 x3 x4 (x5 + 1) M)
noncomputable def f_Years_mostAround_124 (N : Nat) (this : Nat) (a0 : Int32) (k89 : Int32 → Int32 → Int32 → Int32 → Mem → Option (Int32 × Mem)) (x2 : Int32) (x3 : Int32) (x4 : Int32) (x5 : Int32) (M : Mem) : Option (Int32 × Mem) :=
  f_Years_mostAround_129 N this a0 k89 x2 x3 x4 x5 1 M
noncomputable def f_Years_mostAround_89 (N : Nat) (this : Nat) (a0 : Int32) : Nat → Int32 → Int32 → Int32 → Int32 → Mem → Option (Int32 × Mem)
  | 0, _, _, _, _, _ => none
  | n + 1, x2, x3, x4, x5, M => (gI M 9 this 0).bind fun v19 => if v19 ≤ x5 then (f_Years_mostAround_166 N this a0 x3 M) else (if x4 = 0 then ((gR M 9 this 5).bind fun v20 => (ald M v20 x3).bind fun v21 => if v21 < x2 then (f_Years_mostAround_124 N this a0 (f_Years_mostAround_89 N this a0 n) x2 x3 x4 x5 M) else ((gR M 9 this 2).bind fun v22 => (ald M v22 x5).bind fun v23 => if x3 ≤ v23 then (f_Years_mostAround_129 N this a0 (f_Years_mostAround_89 N this a0 n) x2 x3 x4 x5 0 M) else (f_Years_mostAround_124 N this a0 (f_Years_mostAround_89 N this a0 n) x2 x3 x4 x5 M))) else (f_Years_mostAround_166 N this a0 x3 M))
noncomputable def f_Years_mostAround_84 (N : Nat) (this : Nat) (a0 : Int32) (x2 : Int32) (x3 : Int32) (y0 : Int32) (M : Mem) : Option (Int32 × Mem) :=
  f_Years_mostAround_89 N this a0 N x2 x3 y0 0 M
noncomputable def f_Years_mostAround_4 (N : Nat) (this : Nat) (a0 : Int32) : Nat → Int32 → Int32 → Mem → Option (Int32 × Mem)
  | 0, _, _, _ => none
  | n + 1, x2, x3, M => (gI M 9 this 0).bind fun v1 => if v1 ≤ x3 then ((gR M 9 this 2).bind fun v2 => (ald M v2 a0).bind fun v3 => (gR M 9 this 5).bind fun v4 => (ald M v4 v3).bind fun v5 => if v5 = x2 then (f_Years_mostAround_84 N this a0 x2 v3 1 M) else (f_Years_mostAround_84 N this a0 x2 v3 0 M)) else ((gR M 9 this 1).bind fun v6 => (ald M v6 a0).bind fun v7 => (f_CT_isIn v7 x3).bind fun z8 => if z8 = 0 then (f_Years_mostAround_4 N this a0 n x2 (x3 + 1) M) else ((gR M 9 this 5).bind fun v9 => (gR M 9 this 2).bind fun v10 => (ald M v10 x3).bind fun v11 => (ald M v9 v11).bind fun v12 => (ast M v9 v11 (v12 + 1)).bind fun M13 => (gR M13 9 this 5).bind fun v14 => (gR M13 9 this 2).bind fun v15 => (ald M13 v15 x3).bind fun v16 => (ald M13 v14 v16).bind fun v17 => (f_Math_max x2 v17).bind fun z18 => f_Years_mostAround_4 N this a0 n z18 (x3 + 1) M13))
noncomputable def f_Years_mostAround (N : Nat) (this : Nat) (a0 : Int32) (M : Mem) : Option (Int32 × Mem) :=
  f_Years_mostAround_4 N this a0 N 0 0 M
abbrev rm_Years_mostAround : Room := { frames := 1, cells := 0, slots := 0, locals := 23 }
noncomputable def f_Years_passYear_44 (N : Nat) (this : Nat) (k4 : Int32 → Int32 → Mem → Option (Int32 × Mem)) (x2 : Int32) (y0 : Int32) (y1 : Int32) (M : Mem) : Option (Int32 × Mem) :=
  k4 (y0 ||| y1) (x2 + 1) M
noncomputable def f_Years_passYear_4 (N : Nat) (this : Nat) : Nat → Int32 → Int32 → Mem → Option (Int32 × Mem)
  | 0, _, _, _ => none
  | n + 1, x1, x2, M => (gI M 9 this 0).bind fun v1 => if v1 ≤ x2 then ((gR M 9 this 3).bind fun v2 => (gR M 9 this 2).bind fun v3 => (pR M 9 this 3 v3).bind fun M4 => (gR M4 9 this 4).bind fun v5 => (pR M4 9 this 2 v5).bind fun M6 => (pR M6 9 this 4 v2).bind fun M7 => (zg x1).bind fun z8 => some (z8, M7)) else ((gR M 9 this 4).bind fun v9 => (ck M 9 this).bind fun _ => (f_Years_mostAround N this x2 M).bind fun z10 => (ast z10.2 v9 x2 z10.1).bind fun M11 => (gR M11 9 this 4).bind fun v12 => (ald M11 v12 x2).bind fun v13 => (gR M11 9 this 2).bind fun v14 => (ald M11 v14 x2).bind fun v15 => if v13 = v15 then (f_Years_passYear_44 N this (f_Years_passYear_4 N this n) x2 x1 0 M11) else (f_Years_passYear_44 N this (f_Years_passYear_4 N this n) x2 x1 1 M11))
noncomputable def f_Years_passYear (N : Nat) (this : Nat) (M : Mem) : Option (Int32 × Mem) :=
  f_Years_passYear_4 N this N 0 0 M
abbrev rm_Years_passYear : Room := { frames := 2, cells := 0, slots := 0, locals := 49 }
noncomputable def f_CT_still_13 (N : Nat) (this : Nat) : Nat → Int32 → Mem → Option (Int32 × Mem)
  | 0, _, _ => none
  | n + 1, x1, M => if 60 < x1 then (some ((-1), M)) else ((gR M 10 this 9).bind fun v4 => (ck M 9 v4).bind fun _ => (f_Years_passYear N v4 M).bind fun z5 => if z5.1 = 0 then (some (x1, z5.2)) else (f_CT_still_13 N this n (x1 + 1) z5.2))
noncomputable def f_CT_still (N : Nat) (this : Nat) (M : Mem) : Option (Int32 × Mem) :=
  (gR M 10 this 9).bind fun v1 => (gR M 10 this 3).bind fun v2 => (ck M 9 v1).bind fun _ => (f_Years_startFrom N v1 v2 M).bind fun z3 => f_CT_still_13 N this N 0 z3
abbrev rm_CT_still : Room := { frames := 3, cells := 0, slots := 0, locals := 71 }
noncomputable def f_Math_floorMod (a0 : Int32) (a1 : Int32) : Option (Int32) :=
  (nz a1).bind fun _ => if 0 ≤ (a0 ^^^ a1) then (some (a0 - a0 / a1 * a1)) else (if (a0 - a0 / a1 * a1) = 0 then (some (a0 - a0 / a1 * a1)) else (some ((a0 - a0 / a1 * a1) + a1)))
abbrev rm_Math_floorMod : Room := { frames := 0, cells := 0, slots := 0, locals := 0 }
noncomputable def f_Log_cellOf (this : Nat) (a0 : Int32) (a1 : Int32) (M : Mem) : Option (Int32) :=
  if a0 < 0 then (some (-1)) else ((gI M 3 this 0).bind fun v1 => if a0 < v1 then ((gI M 3 this 1).bind fun v2 => (f_Math_floorMod (v2 - a0) 60).bind fun z3 => (gR M 3 this 2).bind fun v4 => (ald M v4 ((z3 * 8) + a1)).bind fun v5 => some v5) else (some (-1)))
abbrev rm_Log_cellOf : Room := { frames := 1, cells := 0, slots := 0, locals := 22 }
noncomputable def f_Log_timeBefore_4 (N : Nat) (this : Nat) (a0 : Int32) (M : Mem) : Nat → Int32 → Option (Int32)
  | 0, _ => none
  | n + 1, x2 => (gI M 3 this 0).bind fun v1 => if v1 ≤ x2 then (some (-1)) else ((ck M 3 this).bind fun _ => (f_Log_cellOf this x2 1 M).bind fun z2 => (ck M 3 this).bind fun _ => (f_Log_cellOf this a0 1 M).bind fun z3 => if z2 = z3 then ((ck M 3 this).bind fun _ => (f_Log_cellOf this x2 2 M).bind fun z4 => (ck M 3 this).bind fun _ => (f_Log_cellOf this a0 2 M).bind fun z5 => if z4 = z5 then (some x2) else (f_Log_timeBefore_4 N this a0 M n (x2 + 1))) else (f_Log_timeBefore_4 N this a0 M n (x2 + 1)))
noncomputable def f_Log_timeBefore (N : Nat) (this : Nat) (a0 : Int32) (M : Mem) : Option (Int32) :=
  f_Log_timeBefore_4 N this a0 M N (a0 + 1)
abbrev rm_Log_timeBefore : Room := { frames := 2, cells := 0, slots := 0, locals := 45 }
noncomputable def f_Log_beganUnlike (this : Nat) (a0 : Int32) (a1 : Int32) (a2 : Int32) (M : Mem) : Option (Int32) :=
  if a1 = (-1) then (some 0) else ((ck M 3 this).bind fun _ => (f_Log_cellOf this a0 a2 M).bind fun z1 => (ck M 3 this).bind fun _ => (f_Log_cellOf this a1 a2 M).bind fun z2 => if z1 = z2 then (some 0) else (some 1))
abbrev rm_Log_beganUnlike : Room := { frames := 2, cells := 0, slots := 0, locals := 45 }
noncomputable def f_CT_changed_75 (N : Nat) (this : Nat) (a0 : Int32) (M : Mem) (k7 : Int32 → Int32 → Int32 → Option (Int32)) (x2 : Int32) (x3 : Int32) (x4 : Int32) (x5 : Int32) : Option (Int32) :=
  (gR M 10 this 3).bind fun v13 => (gR M 7 v13 14).bind fun v14 => (ck M 3 v14).bind fun _ => (f_Log_beganUnlike v14 x4 x5 4 M).bind fun z15 => if z15 = 0 then (k7 x2 x3 (x4 + 1)) else ((gR M 10 this 3).bind fun v16 => (gR M 7 v16 14).bind fun v17 => (ck M 3 v17).bind fun _ => (f_Log_cellOf v17 x4 2 M).bind fun z18 => k7 (x2 ||| (1 <<< (z18 &&& 31))) (x3 + 1) (x4 + 1))
noncomputable def f_CT_changed_7 (N : Nat) (this : Nat) (a0 : Int32) (M : Mem) : Nat → Int32 → Int32 → Int32 → Option (Int32)
  | 0, _, _, _ => none
  | n + 1, x2, x3, x4 => (gR M 10 this 3).bind fun v1 => (gR M 7 v1 14).bind fun v2 => (gI M 3 v2 0).bind fun v3 => if v3 ≤ x4 then (if a0 = 0 then (some x2) else (some x3)) else ((gR M 10 this 3).bind fun v4 => (gR M 7 v4 14).bind fun v5 => (ck M 3 v5).bind fun _ => (f_Log_timeBefore N v5 x4 M).bind fun z6 => (gR M 10 this 3).bind fun v7 => (gR M 7 v7 14).bind fun v8 => (ck M 3 v8).bind fun _ => (f_Log_beganUnlike v8 x4 z6 3 M).bind fun z9 => if z9 = 0 then (f_CT_changed_75 N this a0 M (f_CT_changed_7 N this a0 M n) x2 x3 x4 z6) else ((gR M 10 this 3).bind fun v10 => (gR M 7 v10 14).bind fun v11 => (ck M 3 v11).bind fun _ => (f_Log_cellOf v11 x4 1 M).bind fun z12 => f_CT_changed_75 N this a0 M (f_CT_changed_7 N this a0 M n) (x2 ||| (1 <<< (z12 &&& 31))) (x3 + 1) x4 z6))
noncomputable def f_CT_changed (N : Nat) (this : Nat) (a0 : Int32) (M : Mem) : Option (Int32) :=
  f_CT_changed_7 N this a0 M N 0 0 0
abbrev rm_CT_changed : Room := { frames := 3, cells := 0, slots := 0, locals := 68 }
noncomputable def f_CT_seed (this : Nat) (a0 : Int32) (M : Mem) : Option (Int32 × Mem) :=
  (gR M 10 this 3).bind fun v1 => (gI M 7 v1 8).bind fun v2 => (gR M 10 this 3).bind fun v3 => (pI M 7 v3 8 a0).bind fun M4 => some (v2, M4)
abbrev rm_CT_seed : Room := { frames := 0, cells := 0, slots := 0, locals := 0 }
noncomputable def f_Manners_copyFrom (this : Nat) (a0 : Nat) (M : Mem) : Option (Mem) :=
  (gI M 4 a0 0).bind fun v1 => (pI M 4 this 0 v1).bind fun M2 => (gI M2 4 a0 1).bind fun v3 => (pI M2 4 this 1 v3).bind fun M4 => (gI M4 4 a0 2).bind fun v5 => (pI M4 4 this 2 v5).bind fun M6 => some M6
abbrev rm_Manners_copyFrom : Room := { frames := 0, cells := 0, slots := 0, locals := 0 }
noncomputable def f_Lands_copyFrom (this : Nat) (a0 : Nat) (M : Mem) : Option (Mem) :=
  (gR M 0 this 0).bind fun v1 => (gR M 0 a0 0).bind fun v2 => (ck M 4 v1).bind fun _ => (f_Manners_copyFrom v1 v2 M).bind fun z3 => (gI z3 0 a0 1).bind fun v4 => (pI z3 0 this 1 v4).bind fun M5 => (gI M5 0 a0 2).bind fun v6 => (pI M5 0 this 2 v6).bind fun M7 => (gR M7 0 a0 3).bind fun v8 => (gR M7 0 this 3).bind fun v9 => (acp M7 v8 0 v9 0 24).bind fun M10 => (gR M10 0 a0 4).bind fun v11 => (gR M10 0 this 4).bind fun v12 => (acp M10 v11 0 v12 0 24).bind fun M13 => (gR M13 0 a0 5).bind fun v14 => (gR M13 0 this 5).bind fun v15 => (acp M13 v14 0 v15 0 24).bind fun M16 => some M16
abbrev rm_Lands_copyFrom : Room := { frames := 1, cells := 0, slots := 0, locals := 100 }
noncomputable def f_Person_copyFrom (this : Nat) (a0 : Nat) (M : Mem) : Option (Mem) :=
  (gI M 5 a0 0).bind fun v1 => (pI M 5 this 0 v1).bind fun M2 => (gI M2 5 a0 1).bind fun v3 => (pI M2 5 this 1 v3).bind fun M4 => (gI M4 5 a0 2).bind fun v5 => (pI M4 5 this 2 v5).bind fun M6 => (gI M6 5 a0 3).bind fun v7 => (pI M6 5 this 3 v7).bind fun M8 => (gI M8 5 a0 4).bind fun v9 => (pZ M8 5 this 4 v9).bind fun M10 => (gI M10 5 a0 5).bind fun v11 => (pI M10 5 this 5 v11).bind fun M12 => (gI M12 5 a0 6).bind fun v13 => (pI M12 5 this 6 v13).bind fun M14 => (gI M14 5 a0 7).bind fun v15 => (pI M14 5 this 7 v15).bind fun M16 => (gR M16 5 a0 8).bind fun v17 => (gR M16 5 this 8).bind fun v18 => (acp M16 v17 0 v18 0 10).bind fun M19 => (gR M19 5 a0 9).bind fun v20 => (gR M19 5 this 9).bind fun v21 => (acp M19 v20 0 v21 0 10).bind fun M22 => some M22
abbrev rm_Person_copyFrom : Room := { frames := 1, cells := 0, slots := 0, locals := 100 }
noncomputable def f_Log_copyFrom (this : Nat) (a0 : Nat) (M : Mem) : Option (Mem) :=
  (gI M 3 a0 0).bind fun v1 => (pI M 3 this 0 v1).bind fun M2 => (gI M2 3 a0 1).bind fun v3 => (pI M2 3 this 1 v3).bind fun M4 => (gR M4 3 a0 2).bind fun v5 => (gR M4 3 this 2).bind fun v6 => (acp M4 v5 0 v6 0 480).bind fun M7 => some M7
abbrev rm_Log_copyFrom : Room := { frames := 1, cells := 0, slots := 0, locals := 100 }
noncomputable def f_Town_copyFrom_13 (N : Nat) (this : Nat) (a0 : Nat) : Nat → Int32 → Mem → Option (Mem)
  | 0, _, _ => none
  | n + 1, x2, M => if 10 ≤ x2 then ((gI M 7 a0 2).bind fun v4 => (pI M 7 this 2 v4).bind fun M5 => (gR M5 7 a0 3).bind fun v6 => (gR M5 7 this 3).bind fun v7 => (acp M5 v6 0 v7 0 24).bind fun M8 => (gR M8 7 a0 4).bind fun v9 => (gR M8 7 this 4).bind fun v10 => (acp M8 v9 0 v10 0 24).bind fun M11 => (gI M11 7 a0 5).bind fun v12 => (pI M11 7 this 5 v12).bind fun M13 => (gN M13 7 a0 6).bind fun v14 => (pN M13 7 this 6 v14).bind fun M15 => (gI M15 7 a0 7).bind fun v16 => (pI M15 7 this 7 v16).bind fun M17 => (gI M17 7 a0 8).bind fun v18 => (pI M17 7 this 8 v18).bind fun M19 => (gI M19 7 a0 9).bind fun v20 => (pI M19 7 this 9 v20).bind fun M21 => (gI M21 7 a0 10).bind fun v22 => (pI M21 7 this 10 v22).bind fun M23 => (gI M23 7 a0 11).bind fun v24 => (pI M23 7 this 11 v24).bind fun M25 => (gI M25 7 a0 12).bind fun v26 => (pI M25 7 this 12 v26).bind fun M27 => (gI M27 7 a0 13).bind fun v28 => (pI M27 7 this 13 v28).bind fun M29 => (gR M29 7 this 14).bind fun v30 => (gR M29 7 a0 14).bind fun v31 => (ck M29 3 v30).bind fun _ => (f_Log_copyFrom v30 v31 M29).bind fun z32 => some z32) else ((gR M 7 this 1).bind fun v33 => (ard M 2 v33 x2).bind fun v34 => (gR M 7 a0 1).bind fun v35 => (ard M 2 v35 x2).bind fun v36 => (ck M 5 v34).bind fun _ => (f_Person_copyFrom v34 v36 M).bind fun z37 => f_Town_copyFrom_13 N this a0 n (x2 + 1) z37)
noncomputable def f_Town_copyFrom (N : Nat) (this : Nat) (a0 : Nat) (M : Mem) : Option (Mem) :=
  (gR M 7 this 0).bind fun v1 => (gR M 7 a0 0).bind fun v2 => (ck M 0 v1).bind fun _ => (f_Lands_copyFrom v1 v2 M).bind fun z3 => f_Town_copyFrom_13 N this a0 N 0 z3
abbrev rm_Town_copyFrom : Room := { frames := 2, cells := 0, slots := 0, locals := 121 }
noncomputable def f_CT_undo (N : Nat) (this : Nat) (M : Mem) : Option (Int32 × Mem) :=
  (gI M 10 this 7).bind fun v1 => if 0 < v1 then ((gI M 10 this 7).bind fun v2 => (pI M 10 this 7 (v2 - 1)).bind fun M3 => (gR M3 10 this 3).bind fun v4 => (gR M3 10 this 6).bind fun v5 => (gI M3 10 this 7).bind fun v6 => (ard M3 3 v5 v6).bind fun v7 => (ck M3 7 v4).bind fun _ => (f_Town_copyFrom N v4 v7 M3).bind fun z8 => some (1, z8)) else (some (0, M))
abbrev rm_CT_undo : Room := { frames := 3, cells := 0, slots := 0, locals := 143 }
noncomputable def f_CT_image (N : Nat) (this : Nat) (M : Mem) : Option (Mem) :=
  (gR M 10 this 4).bind fun v1 => (gR M 10 this 3).bind fun v2 => (ck M 7 v1).bind fun _ => (f_Town_copyFrom N v1 v2 M).bind fun z3 => (pZ z3 10 this 5 1).bind fun M4 => some M4
abbrev rm_CT_image : Room := { frames := 3, cells := 0, slots := 0, locals := 143 }
noncomputable def f_CT_back (N : Nat) (this : Nat) (M : Mem) : Option (Int32 × Mem) :=
  (gI M 10 this 5).bind fun v1 => if v1 = 0 then (some (0, M)) else ((gR M 10 this 3).bind fun v2 => (gR M 10 this 4).bind fun v3 => (ck M 7 v2).bind fun _ => (f_Town_copyFrom N v2 v3 M).bind fun z4 => (pI z4 10 this 7 0).bind fun M5 => some (1, M5))
abbrev rm_CT_back : Room := { frames := 3, cells := 0, slots := 0, locals := 143 }
noncomputable def f_Town_peopleWithCold_32 (N : Nat) (this : Nat) (M : Mem) (k4 : Int32 → Int32 → Option (Int32)) (x2 : Int32) (y0 : Int32) (y1 : Int32) : Option (Int32) :=
  k4 (y0 ||| y1) (x2 + 1)
noncomputable def f_Town_peopleWithCold_4 (N : Nat) (this : Nat) (M : Mem) : Nat → Int32 → Int32 → Option (Int32)
  | 0, _, _ => none
  | n + 1, x1, x2 => (gI M 7 this 2).bind fun v1 => if v1 ≤ x2 then (some x1) else ((gR M 7 this 1).bind fun v2 => (ard M 2 v2 x2).bind fun v3 => (gI M 5 v3 4).bind fun v4 => if v4 = 0 then (f_Town_peopleWithCold_32 N this M (f_Town_peopleWithCold_4 N this M n) x2 x1 0) else (f_Town_peopleWithCold_32 N this M (f_Town_peopleWithCold_4 N this M n) x2 x1 (1 <<< (x2 &&& 31))))
noncomputable def f_Town_peopleWithCold (N : Nat) (this : Nat) (M : Mem) : Option (Int32) :=
  f_Town_peopleWithCold_4 N this M N 0 0
abbrev rm_Town_peopleWithCold : Room := { frames := 0, cells := 0, slots := 0, locals := 0 }
noncomputable def f_CT_count (N : Nat) (this : Nat) (a0 : Int32) (M : Mem) : Option (Int32) :=
  if a0 = 0 then ((gR M 10 this 3).bind fun v1 => (gR M 7 v1 0).bind fun v2 => (gI M 0 v2 1).bind fun v3 => some v3) else (if a0 = 1 then ((gR M 10 this 3).bind fun v4 => (gR M 7 v4 0).bind fun v5 => (gI M 0 v5 2).bind fun v6 => some v6) else (if a0 = 2 then ((gR M 10 this 3).bind fun v7 => (gI M 7 v7 2).bind fun v8 => some v8) else (if a0 = 3 then ((gR M 10 this 3).bind fun v9 => (gI M 7 v9 5).bind fun v10 => some v10) else (if a0 = 4 then ((gR M 10 this 3).bind fun v11 => (gI M 7 v11 7).bind fun v12 => some v12) else (if a0 = 5 then ((gR M 10 this 3).bind fun v13 => (gN M 7 v13 6).bind fun v14 => if Option.isSome v14 = true then ((gR M 10 this 3).bind fun v15 => (gR M 7 v15 6).bind fun v16 => (gI M 1 v16 0).bind fun v17 => some v17) else (some (-1))) else (if a0 = 6 then ((gR M 10 this 3).bind fun v18 => (gI M 7 v18 9).bind fun v19 => some v19) else (if a0 = 7 then ((gR M 10 this 3).bind fun v20 => (gI M 7 v20 10).bind fun v21 => some v21) else (if a0 = 8 then ((gR M 10 this 3).bind fun v22 => (gI M 7 v22 11).bind fun v23 => some v23) else (if a0 = 9 then ((gR M 10 this 3).bind fun v24 => (gI M 7 v24 12).bind fun v25 => some v25) else (if a0 = 10 then ((gR M 10 this 3).bind fun v26 => (gI M 7 v26 13).bind fun v27 => some v27) else (if a0 = 11 then ((gR M 10 this 3).bind fun v28 => (ck M 7 v28).bind fun _ => (f_Town_peopleWithCold N v28 M).bind fun z29 => some z29) else (if a0 = 12 then ((gR M 10 this 3).bind fun v30 => (gR M 7 v30 14).bind fun v31 => (gI M 3 v31 0).bind fun v32 => some v32) else (if a0 = 13 then ((gI M 10 this 7).bind fun v33 => some v33) else (if a0 = 14 then ((gR M 10 this 3).bind fun v34 => (gR M 7 v34 0).bind fun v35 => (gR M 0 v35 0).bind fun v36 => (gI M 4 v36 0).bind fun v37 => some v37) else (if a0 = 15 then ((gR M 10 this 3).bind fun v38 => (gR M 7 v38 0).bind fun v39 => (gR M 0 v39 0).bind fun v40 => (gI M 4 v40 1).bind fun v41 => some v41) else (if a0 = 16 then ((gR M 10 this 3).bind fun v42 => (gR M 7 v42 0).bind fun v43 => (gR M 0 v43 0).bind fun v44 => (gI M 4 v44 2).bind fun v45 => some v45) else (some (-1))))))))))))))))))
abbrev rm_CT_count : Room := { frames := 1, cells := 0, slots := 0, locals := 22 }
noncomputable def f_CT_useTapeUp (this : Nat) (M : Mem) : Option (Int32 × Mem) :=
  (gI M 10 this 1).bind fun v1 => (pI M 10 this 1 0).bind fun M2 => some (v1, M2)
abbrev rm_CT_useTapeUp : Room := { frames := 0, cells := 0, slots := 0, locals := 0 }
noncomputable def f_TxR_init_8 (this : Nat) (a0 : Nat) (a1 : Int32) (M : Mem) : Option (Mem) :=
  (pI M 8 this 0 (-1)).bind fun M1 => (pR M1 8 this 1 a0).bind fun M2 => (aln M2 a0).bind fun v3 => (f_Math_min a1 v3).bind fun z4 => (pI M2 8 this 2 z4).bind fun M5 => some M5
abbrev rm_TxR_init_8 : Room := { frames := 1, cells := 0, slots := 0, locals := 30 }
noncomputable def f_TR_init (this : Nat) (a0 : Nat) (a1 : Int32) (a2 : Nat) (M : Mem) : Option (Mem) :=
  (f_TxR_init_8 this a0 a1 M).bind fun z1 => (pR z1 8 this 6 a2).bind fun M2 => some M2
abbrev rm_TR_init : Room := { frames := 2, cells := 0, slots := 0, locals := 52 }
noncomputable def f_TxR_goOn_8_177 (N : Nat) (this : Nat) (M : Mem) : Option (Mem) :=
  (gI M 8 this 5).bind fun v26 => (gI M 8 this 4).bind fun v27 => if v26 = v27 then ((gI M 8 this 5).bind fun v28 => (gI M 8 this 2).bind fun v29 => if v29 ≤ v28 then (some M) else ((gI M 8 this 5).bind fun v30 => (pI M 8 this 5 (v30 + 1)).bind fun M31 => some M31)) else (some M)
noncomputable def f_TxR_goOn_8_125 (N : Nat) (this : Nat) : Nat → Mem → Option (Mem)
  | 0, _ => none
  | n + 1, M => (gI M 8 this 5).bind fun v32 => (gI M 8 this 2).bind fun v33 => if v33 ≤ v32 then (f_TxR_goOn_8_177 N this M) else ((gR M 8 this 1).bind fun v34 => (gI M 8 this 5).bind fun v35 => (ald M v34 v35).bind fun v36 => if v36 < 48 then (f_TxR_goOn_8_177 N this M) else ((gR M 8 this 1).bind fun v37 => (gI M 8 this 5).bind fun v38 => (ald M v37 v38).bind fun v39 => if 57 < v39 then (f_TxR_goOn_8_177 N this M) else ((gI M 8 this 5).bind fun v40 => (pI M 8 this 5 (v40 + 1)).bind fun M41 => f_TxR_goOn_8_125 N this n M41)))
noncomputable def f_TxR_goOn_8_114 (N : Nat) (this : Nat) (M : Mem) : Option (Mem) :=
  (gI M 8 this 5).bind fun v24 => (gI M 8 this 4).bind fun v25 => if v24 = v25 then (f_TxR_goOn_8_125 N this N M) else (f_TxR_goOn_8_177 N this M)
noncomputable def f_TxR_goOn_8_62 (N : Nat) (this : Nat) : Nat → Mem → Option (Mem)
  | 0, _ => none
  | n + 1, M => (gI M 8 this 5).bind fun v14 => (gI M 8 this 2).bind fun v15 => if v15 ≤ v14 then (f_TxR_goOn_8_114 N this M) else ((gR M 8 this 1).bind fun v16 => (gI M 8 this 5).bind fun v17 => (ald M v16 v17).bind fun v18 => if v18 < 97 then (f_TxR_goOn_8_114 N this M) else ((gR M 8 this 1).bind fun v19 => (gI M 8 this 5).bind fun v20 => (ald M v19 v20).bind fun v21 => if 122 < v21 then (f_TxR_goOn_8_114 N this M) else ((gI M 8 this 5).bind fun v22 => (pI M 8 this 5 (v22 + 1)).bind fun M23 => f_TxR_goOn_8_62 N this n M23)))
noncomputable def f_TxR_goOn_8_54 (N : Nat) (this : Nat) (M : Mem) : Option (Mem) :=
  (gI M 8 this 4).bind fun v12 => (pI M 8 this 5 v12).bind fun M13 => f_TxR_goOn_8_62 N this N M13
noncomputable def f_TxR_goOn_8_16 (N : Nat) (this : Nat) : Nat → Mem → Option (Mem)
  | 0, _ => none
  | n + 1, M => (gI M 8 this 4).bind fun v5 => (gI M 8 this 2).bind fun v6 => if v6 ≤ v5 then (f_TxR_goOn_8_54 N this M) else ((gR M 8 this 1).bind fun v7 => (gI M 8 this 4).bind fun v8 => (ald M v7 v8).bind fun v9 => if v9 = 32 then ((gI M 8 this 4).bind fun v10 => (pI M 8 this 4 (v10 + 1)).bind fun M11 => f_TxR_goOn_8_16 N this n M11) else (f_TxR_goOn_8_54 N this M))
noncomputable def f_TxR_goOn_8 (N : Nat) (this : Nat) (M : Mem) : Option (Mem) :=
  (gI M 8 this 4).bind fun v1 => (pI M 8 this 3 v1).bind fun M2 => (gI M2 8 this 5).bind fun v3 => (pI M2 8 this 4 v3).bind fun M4 => f_TxR_goOn_8_16 N this N M4
abbrev rm_TxR_goOn_8 : Room := { frames := 0, cells := 0, slots := 0, locals := 0 }
noncomputable def f_TxR_takeWord_8_76 (N : Nat) (this : Nat) (a0 : Nat) (M : Mem) : Option (Int32 × Mem) :=
  (ck M 8 this).bind fun _ => (f_TxR_goOn_8 N this M).bind fun z12 => some (1, z12)
noncomputable def f_TxR_takeWord_8_28 (N : Nat) (this : Nat) (a0 : Nat) : Nat → Int32 → Mem → Option (Int32 × Mem)
  | 0, _, _ => none
  | n + 1, x2, M => (sLen a0).bind fun v5 => if v5 ≤ x2 then (f_TxR_takeWord_8_76 N this a0 M) else ((gI M 8 this 4).bind fun v6 => (gI M 8 this 2).bind fun v7 => if v7 ≤ (v6 + x2) then (f_TxR_takeWord_8_76 N this a0 M) else ((gR M 8 this 1).bind fun v8 => (gI M 8 this 4).bind fun v9 => (ald M v8 (v9 + x2)).bind fun v10 => (sAt a0 x2).bind fun v11 => if v10 = v11 then (f_TxR_takeWord_8_28 N this a0 n (x2 + 1) M) else (some (0, M))))
noncomputable def f_TxR_takeWord_8 (N : Nat) (this : Nat) (a0 : Nat) (M : Mem) : Option (Int32 × Mem) :=
  (gI M 8 this 0).bind fun v1 => if v1 = (-1) then ((gI M 8 this 5).bind fun v2 => (gI M 8 this 4).bind fun v3 => (sLen a0).bind fun v4 => if (v2 - v3) = v4 then (f_TxR_takeWord_8_28 N this a0 N 0 M) else (some (0, M))) else (some (0, M))
abbrev rm_TxR_takeWord_8 : Room := { frames := 8, cells := 0, slots := 0, locals := 400 }
noncomputable def f_TxR_takenIsWrong_8 (this : Nat) (M : Mem) : Option (Mem) :=
  (gI M 8 this 0).bind fun v1 => if v1 = (-1) then ((gI M 8 this 3).bind fun v2 => (pI M 8 this 0 v2).bind fun M3 => some M3) else (some M)
abbrev rm_TxR_takenIsWrong_8 : Room := { frames := 0, cells := 0, slots := 0, locals := 0 }
noncomputable def f_TR_readLand (this : Nat) (M : Mem) : Option (Mem) :=
  (gR M 8 this 6).bind fun v1 => (gR M 7 v1 0).bind fun v2 => (gI M 0 v2 1).bind fun v3 => if v3 < 6 then ((gR M 8 this 6).bind fun v4 => (gR M 7 v4 0).bind fun v5 => (gI M 0 v5 1).bind fun v6 => (pI M 0 v5 1 (v6 + 1)).bind fun M7 => some M7) else ((ck M 8 this).bind fun _ => (f_TxR_takenIsWrong_8 this M).bind fun z8 => some z8)
abbrev rm_TR_readLand : Room := { frames := 1, cells := 0, slots := 0, locals := 20 }
noncomputable def f_TxR_isNumberNext_8 (this : Nat) (M : Mem) : Option (Int32) :=
  (gI M 8 this 4).bind fun v1 => (gI M 8 this 2).bind fun v2 => if v2 ≤ v1 then (some 0) else ((gR M 8 this 1).bind fun v3 => (gI M 8 this 4).bind fun v4 => (ald M v3 v4).bind fun v5 => if v5 < 48 then (some 0) else ((gR M 8 this 1).bind fun v6 => (gI M 8 this 4).bind fun v7 => (ald M v6 v7).bind fun v8 => if 57 < v8 then (some 0) else (some 1)))
abbrev rm_TxR_isNumberNext_8 : Room := { frames := 0, cells := 0, slots := 0, locals := 0 }
noncomputable def f_TxR_nextIsWrong_8 (this : Nat) (M : Mem) : Option (Mem) :=
  (gI M 8 this 0).bind fun v1 => if v1 = (-1) then ((gI M 8 this 4).bind fun v2 => (pI M 8 this 0 v2).bind fun M3 => some M3) else (some M)
abbrev rm_TxR_nextIsWrong_8 : Room := { frames := 0, cells := 0, slots := 0, locals := 0 }
noncomputable def f_TxR_readNumber_8_95 (N : Nat) (this : Nat) (a0 : Int32) (a1 : Int32) (M : Mem) : Option (Int32 × Mem) :=
  (ck M 8 this).bind fun _ => (f_TxR_nextIsWrong_8 this M).bind fun z11 => some ((-1), z11)
noncomputable def f_TxR_readNumber_8_77 (N : Nat) (this : Nat) (a0 : Int32) (a1 : Int32) (x3 : Int32) (M : Mem) : Option (Int32 × Mem) :=
  (gI M 8 this 0).bind fun v9 => if v9 = (-1) then (if x3 < a0 then (f_TxR_readNumber_8_95 N this a0 a1 M) else (if x3 ≤ a1 then ((ck M 8 this).bind fun _ => (f_TxR_goOn_8 N this M).bind fun z10 => some (x3, z10)) else (f_TxR_readNumber_8_95 N this a0 a1 M))) else (f_TxR_readNumber_8_95 N this a0 a1 M)
noncomputable def f_TxR_readNumber_8_32 (N : Nat) (this : Nat) (a0 : Int32) (a1 : Int32) : Nat → Int32 → Int32 → Mem → Option (Int32 × Mem)
  | 0, _, _, _ => none
  | n + 1, x3, x4, M => if x3 = (-1) then (f_TxR_readNumber_8_77 N this a0 a1 x3 M) else ((gI M 8 this 5).bind fun v5 => if v5 ≤ x4 then (f_TxR_readNumber_8_77 N this a0 a1 x3 M) else ((gI M 8 this 2).bind fun v6 => if v6 ≤ x4 then (f_TxR_readNumber_8_77 N this a0 a1 x3 M) else ((gR M 8 this 1).bind fun v7 => (ald M v7 x4).bind fun v8 => f_TxR_readNumber_8_32 N this a0 a1 n (((10 * x3) + v8) - 48) (x4 + 1) M)))
noncomputable def f_TxR_readNumber_8_25 (N : Nat) (this : Nat) (a0 : Int32) (a1 : Int32) (y0 : Int32) (M : Mem) : Option (Int32 × Mem) :=
  (gI M 8 this 4).bind fun v4 => f_TxR_readNumber_8_32 N this a0 a1 N y0 v4 M
noncomputable def f_TxR_readNumber_8_24 (N : Nat) (this : Nat) (a0 : Int32) (a1 : Int32) (M : Mem) : Option (Int32 × Mem) :=
  f_TxR_readNumber_8_25 N this a0 a1 (-1) M
noncomputable def f_TxR_readNumber_8 (N : Nat) (this : Nat) (a0 : Int32) (a1 : Int32) (M : Mem) : Option (Int32 × Mem) :=
  (ck M 8 this).bind fun _ => (f_TxR_isNumberNext_8 this M).bind fun z1 => if z1 = 0 then (f_TxR_readNumber_8_24 N this a0 a1 M) else ((gI M 8 this 5).bind fun v2 => (gI M 8 this 4).bind fun v3 => if 3 < (v2 - v3) then (f_TxR_readNumber_8_24 N this a0 a1 M) else (f_TxR_readNumber_8_25 N this a0 a1 0 M))
abbrev rm_TxR_readNumber_8 : Room := { frames := 1, cells := 0, slots := 0, locals := 20 }
noncomputable def f_Manners_codeOf (a0 : Int32) (a1 : Int32) (a2 : Int32) : Option (Int32) :=
  some (((8 * a0) + (2 * (a1 - 1))) + a2)
abbrev rm_Manners_codeOf : Room := { frames := 0, cells := 0, slots := 0, locals := 0 }
noncomputable def f_TxR_readWord_8 (N : Nat) (this : Nat) (a0 : Nat) (M : Mem) : Option (Mem) :=
  (ck M 8 this).bind fun _ => (f_TxR_takeWord_8 N this a0 M).bind fun z1 => if z1.1 = 0 then ((ck z1.2 8 this).bind fun _ => (f_TxR_nextIsWrong_8 this z1.2).bind fun z2 => some z2) else (some z1.2)
abbrev rm_TxR_readWord_8 : Room := { frames := 9, cells := 0, slots := 0, locals := 422 }
noncomputable def f_TxR_readGreeting_8_101 (N : Nat) (this : Nat) (y0 : Int32) (y1 : Int32) (y2 : Int32) (M : Mem) : Option (Int32 × Mem) :=
  (f_Manners_codeOf y0 y1 y2).bind fun z12 => some (z12, M)
noncomputable def f_TxR_readGreeting_8_78 (N : Nat) (this : Nat) (x1 : Int32) (x2 : Int32) (M : Mem) : Option (Int32 × Mem) :=
  (gI M 8 this 0).bind fun v11 => if v11 = (-1) then (if x2 = 0 then (f_TxR_readGreeting_8_101 N this 2 x1 1 M) else (f_TxR_readGreeting_8_101 N this 2 x1 0 M)) else (some ((-1), M))
noncomputable def f_TxR_readGreeting_8 (N : Nat) (this : Nat) (M : Mem) : Option (Int32 × Mem) :=
  (ck M 8 this).bind fun _ => (f_TxR_takeWord_8 N this 0 M).bind fun z1 => if z1.1 = 0 then ((ck z1.2 8 this).bind fun _ => (f_TxR_takeWord_8 N this 1 z1.2).bind fun z2 => if z2.1 = 0 then ((ck z2.2 8 this).bind fun _ => (f_TxR_takeWord_8 N this 2 z2.2).bind fun z3 => if z3.1 = 0 then ((ck z3.2 8 this).bind fun _ => (f_TxR_readWord_8 N this 3 z3.2).bind fun z4 => (ck z4 8 this).bind fun _ => (f_TxR_readNumber_8 N this 1 4 z4).bind fun z5 => (ck z5.2 8 this).bind fun _ => (f_TxR_takeWord_8 N this 4 z5.2).bind fun z6 => if z6.1 = 0 then ((ck z6.2 8 this).bind fun _ => (f_TxR_readWord_8 N this 5 z6.2).bind fun z7 => f_TxR_readGreeting_8_78 N this z5.1 z6.1 z7) else (f_TxR_readGreeting_8_78 N this z5.1 z6.1 z6.2)) else ((f_Manners_codeOf 3 1 0).bind fun z8 => some (z8, z3.2))) else ((f_Manners_codeOf 1 1 0).bind fun z9 => some (z9, z2.2))) else ((f_Manners_codeOf 0 1 0).bind fun z10 => some (z10, z1.2))
abbrev rm_TxR_readGreeting_8 : Room := { frames := 10, cells := 0, slots := 0, locals := 443 }
noncomputable def f_TxR_isWrong_8 (this : Nat) (M : Mem) : Option (Int32) :=
  (gI M 8 this 0).bind fun v1 => if v1 = (-1) then (some 0) else (some 1)
abbrev rm_TxR_isWrong_8 : Room := { frames := 0, cells := 0, slots := 0, locals := 0 }
noncomputable def f_Lands_addHabit (this : Nat) (a0 : Int32) (a1 : Int32) (a2 : Int32) (M : Mem) : Option (Mem) :=
  (gI M 0 this 2).bind fun v1 => if 24 ≤ v1 then (some M) else ((gR M 0 this 3).bind fun v2 => (gI M 0 this 2).bind fun v3 => (ast M v2 v3 a0).bind fun M4 => (gR M4 0 this 4).bind fun v5 => (gI M4 0 this 2).bind fun v6 => (ast M4 v5 v6 a1).bind fun M7 => (gR M7 0 this 5).bind fun v8 => (gI M7 0 this 2).bind fun v9 => (ast M7 v8 v9 a2).bind fun M10 => (gI M10 0 this 2).bind fun v11 => (pI M10 0 this 2 (v11 + 1)).bind fun M12 => some M12)
abbrev rm_Lands_addHabit : Room := { frames := 0, cells := 0, slots := 0, locals := 0 }
noncomputable def f_TR_readHabit_19 (N : Nat) (this : Nat) (M : Mem) : Option (Mem) :=
  (gR M 8 this 6).bind fun v5 => (gR M 7 v5 0).bind fun v6 => (gI M 0 v6 1).bind fun v7 => (ck M 8 this).bind fun _ => (f_TxR_readNumber_8 N this 0 (v7 - 1) M).bind fun z8 => (ck z8.2 8 this).bind fun _ => (f_TxR_readGreeting_8 N this z8.2).bind fun z9 => (ck z9.2 8 this).bind fun _ => (f_TxR_readWord_8 N this 20 z9.2).bind fun z10 => (ck z10 8 this).bind fun _ => (f_TxR_readNumber_8 N this 1 9 z10).bind fun z11 => (ck z11.2 8 this).bind fun _ => (f_TxR_isWrong_8 this z11.2).bind fun z12 => if z12 = 0 then ((gR z11.2 8 this 6).bind fun v13 => (gR z11.2 7 v13 0).bind fun v14 => (ck z11.2 0 v14).bind fun _ => (f_Lands_addHabit v14 z8.1 z9.1 z11.1 z11.2).bind fun z15 => some z15) else (some z11.2)
noncomputable def f_TR_readHabit (N : Nat) (this : Nat) (M : Mem) : Option (Mem) :=
  (gR M 8 this 6).bind fun v1 => (gR M 7 v1 0).bind fun v2 => (gI M 0 v2 2).bind fun v3 => if v3 < 24 then (f_TR_readHabit_19 N this M) else ((ck M 8 this).bind fun _ => (f_TxR_takenIsWrong_8 this M).bind fun z4 => f_TR_readHabit_19 N this z4)
abbrev rm_TR_readHabit : Room := { frames := 11, cells := 0, slots := 0, locals := 465 }
noncomputable def f_Town_addPerson (this : Nat) (a0 : Int32) (a1 : Int32) (a2 : Int32) (a3 : Int32) (M : Mem) : Option (Mem) :=
  (gI M 7 this 2).bind fun v1 => if 10 ≤ v1 then (some M) else ((gR M 7 this 1).bind fun v2 => (gI M 7 this 2).bind fun v3 => (ard M 2 v2 v3).bind fun v4 => (pI M 5 v4 0 a0).bind fun M5 => (pI M5 5 v4 1 a1).bind fun M6 => (pI M6 5 v4 2 a2).bind fun M7 => (pI M7 5 v4 3 a3).bind fun M8 => (gI M8 7 this 2).bind fun v9 => (pI M8 7 this 2 (v9 + 1)).bind fun M10 => some M10)
abbrev rm_Town_addPerson : Room := { frames := 0, cells := 0, slots := 0, locals := 0 }
noncomputable def f_TR_readPerson_16 (N : Nat) (this : Nat) (M : Mem) : Option (Mem) :=
  (gR M 8 this 6).bind fun v4 => (gR M 7 v4 0).bind fun v5 => (gI M 0 v5 1).bind fun v6 => (ck M 8 this).bind fun _ => (f_TxR_readNumber_8 N this 0 (v6 - 1) M).bind fun z7 => (ck z7.2 8 this).bind fun _ => (f_TxR_readGreeting_8 N this z7.2).bind fun z8 => (ck z8.2 8 this).bind fun _ => (f_TxR_readWord_8 N this 22 z8.2).bind fun z9 => (ck z9 8 this).bind fun _ => (f_TxR_readNumber_8 N this 0 9 z9).bind fun z10 => (ck z10.2 8 this).bind fun _ => (f_TxR_readWord_8 N this 23 z10.2).bind fun z11 => (ck z11 8 this).bind fun _ => (f_TxR_readNumber_8 N this 0 100 z11).bind fun z12 => (ck z12.2 8 this).bind fun _ => (f_TxR_isWrong_8 this z12.2).bind fun z13 => if z13 = 0 then ((gR z12.2 8 this 6).bind fun v14 => (ck z12.2 7 v14).bind fun _ => (f_Town_addPerson v14 z7.1 z8.1 z10.1 z12.1 z12.2).bind fun z15 => some z15) else (some z12.2)
noncomputable def f_TR_readPerson (N : Nat) (this : Nat) (M : Mem) : Option (Mem) :=
  (gR M 8 this 6).bind fun v1 => (gI M 7 v1 2).bind fun v2 => if v2 < 10 then (f_TR_readPerson_16 N this M) else ((ck M 8 this).bind fun _ => (f_TxR_takenIsWrong_8 this M).bind fun z3 => f_TR_readPerson_16 N this z3)
abbrev rm_TR_readPerson : Room := { frames := 11, cells := 0, slots := 0, locals := 465 }
noncomputable def f_TR_readCold (N : Nat) (this : Nat) (M : Mem) : Option (Mem) :=
  (gR M 8 this 6).bind fun v1 => (gI M 7 v1 2).bind fun v2 => (ck M 8 this).bind fun _ => (f_TxR_readNumber_8 N this 0 (v2 - 1) M).bind fun z3 => (ck z3.2 8 this).bind fun _ => (f_TxR_isWrong_8 this z3.2).bind fun z4 => if z4 = 0 then ((gR z3.2 8 this 6).bind fun v5 => (gR z3.2 7 v5 1).bind fun v6 => (ard z3.2 2 v6 z3.1).bind fun v7 => (pZ z3.2 5 v7 4 1).bind fun M8 => some M8) else (some z3.2)
abbrev rm_TR_readCold : Room := { frames := 2, cells := 0, slots := 0, locals := 44 }
noncomputable def f_Town_areTied (this : Nat) (a0 : Int32) (a1 : Int32) (M : Mem) : Option (Int32) :=
  (gR M 7 this 1).bind fun v1 => (ard M 2 v1 a0).bind fun v2 => (gI M 5 v2 5).bind fun v3 => (f_CT_isIn v3 a1).bind fun z4 => (zg z4).bind fun z5 => some z5
abbrev rm_Town_areTied : Room := { frames := 1, cells := 0, slots := 0, locals := 21 }
noncomputable def f_Town_addTie (this : Nat) (a0 : Int32) (a1 : Int32) (M : Mem) : Option (Mem) :=
  (gI M 7 this 5).bind fun v1 => if 24 ≤ v1 then (some M) else ((gR M 7 this 3).bind fun v2 => (gI M 7 this 5).bind fun v3 => (ast M v2 v3 a0).bind fun M4 => (gR M4 7 this 4).bind fun v5 => (gI M4 7 this 5).bind fun v6 => (ast M4 v5 v6 a1).bind fun M7 => (gI M7 7 this 5).bind fun v8 => (pI M7 7 this 5 (v8 + 1)).bind fun M9 => (gR M9 7 this 1).bind fun v10 => (ard M9 2 v10 a0).bind fun v11 => (gI M9 5 v11 5).bind fun v12 => (pI M9 5 v11 5 (v12 ||| (1 <<< (a1 &&& 31)))).bind fun M13 => (gR M13 7 this 1).bind fun v14 => (ard M13 2 v14 a1).bind fun v15 => (gI M13 5 v15 5).bind fun v16 => (pI M13 5 v15 5 (v16 ||| (1 <<< (a0 &&& 31)))).bind fun M17 => some M17)
abbrev rm_Town_addTie : Room := { frames := 0, cells := 0, slots := 0, locals := 0 }
noncomputable def f_TR_readTie_71 (N : Nat) (this : Nat) (M : Mem) : Option (Mem) :=
  (ck M 8 this).bind fun _ => (f_TxR_takenIsWrong_8 this M).bind fun z15 => some z15
noncomputable def f_TR_readTie_16 (N : Nat) (this : Nat) (M : Mem) : Option (Mem) :=
  (gR M 8 this 6).bind fun v4 => (gI M 7 v4 2).bind fun v5 => (ck M 8 this).bind fun _ => (f_TxR_readNumber_8 N this 0 (v5 - 1) M).bind fun z6 => (gR z6.2 8 this 6).bind fun v7 => (gI z6.2 7 v7 2).bind fun v8 => (ck z6.2 8 this).bind fun _ => (f_TxR_readNumber_8 N this 0 (v8 - 1) z6.2).bind fun z9 => (ck z9.2 8 this).bind fun _ => (f_TxR_isWrong_8 this z9.2).bind fun z10 => if z10 = 0 then (if z6.1 = z9.1 then (f_TR_readTie_71 N this z9.2) else ((gR z9.2 8 this 6).bind fun v11 => (ck z9.2 7 v11).bind fun _ => (f_Town_areTied v11 z6.1 z9.1 z9.2).bind fun z12 => if z12 = 0 then ((gR z9.2 8 this 6).bind fun v13 => (ck z9.2 7 v13).bind fun _ => (f_Town_addTie v13 z6.1 z9.1 z9.2).bind fun z14 => some z14) else (f_TR_readTie_71 N this z9.2))) else (some z9.2)
noncomputable def f_TR_readTie (N : Nat) (this : Nat) (M : Mem) : Option (Mem) :=
  (gR M 8 this 6).bind fun v1 => (gI M 7 v1 5).bind fun v2 => if v2 < 24 then (f_TR_readTie_16 N this M) else ((ck M 8 this).bind fun _ => (f_TxR_takenIsWrong_8 this M).bind fun z3 => f_TR_readTie_16 N this z3)
abbrev rm_TR_readTie : Room := { frames := 2, cells := 0, slots := 0, locals := 44 }
noncomputable def f_TR_readPrice_40 (N : Nat) (this : Nat) (x1 : Int32) (x2 : Int32) (M : Mem) : Option (Mem) :=
  (ck M 8 this).bind fun _ => (f_TxR_readNumber_8 N this 0 99 M).bind fun z4 => if x1 = 0 then (if x2 = 0 then ((gR z4.2 8 this 6).bind fun v5 => (gR z4.2 7 v5 0).bind fun v6 => (gR z4.2 0 v6 0).bind fun v7 => (pI z4.2 4 v7 2 z4.1).bind fun M8 => some M8) else ((gR z4.2 8 this 6).bind fun v9 => (gR z4.2 7 v9 0).bind fun v10 => (gR z4.2 0 v10 0).bind fun v11 => (pI z4.2 4 v11 1 z4.1).bind fun M12 => some M12)) else ((gR z4.2 8 this 6).bind fun v13 => (gR z4.2 7 v13 0).bind fun v14 => (gR z4.2 0 v14 0).bind fun v15 => (pI z4.2 4 v15 0 z4.1).bind fun M16 => some M16)
noncomputable def f_TR_readPrice_25 (N : Nat) (this : Nat) (x1 : Int32) (y0 : Int32) (M : Mem) : Option (Mem) :=
  if x1 = 0 then (if y0 = 0 then ((ck M 8 this).bind fun _ => (f_TxR_readWord_8 N this 28 M).bind fun z3 => f_TR_readPrice_40 N this x1 y0 z3) else (f_TR_readPrice_40 N this x1 y0 M)) else (f_TR_readPrice_40 N this x1 y0 M)
noncomputable def f_TR_readPrice_24 (N : Nat) (this : Nat) (x1 : Int32) (M : Mem) : Option (Mem) :=
  f_TR_readPrice_25 N this x1 0 M
noncomputable def f_TR_readPrice (N : Nat) (this : Nat) (M : Mem) : Option (Mem) :=
  (ck M 8 this).bind fun _ => (f_TxR_takeWord_8 N this 26 M).bind fun z1 => if z1.1 = 0 then ((ck z1.2 8 this).bind fun _ => (f_TxR_takeWord_8 N this 27 z1.2).bind fun z2 => if z2.1 = 0 then (f_TR_readPrice_24 N this z1.1 z2.2) else (f_TR_readPrice_25 N this z1.1 1 z2.2)) else (f_TR_readPrice_24 N this z1.1 z1.2)
abbrev rm_TR_readPrice : Room := { frames := 10, cells := 0, slots := 0, locals := 443 }
noncomputable def f_TR_readLine (N : Nat) (this : Nat) (M : Mem) : Option (Mem) :=
  (ck M 8 this).bind fun _ => (f_TxR_takeWord_8 N this 18 M).bind fun z1 => if z1.1 = 0 then ((ck z1.2 8 this).bind fun _ => (f_TxR_takeWord_8 N this 19 z1.2).bind fun z2 => if z2.1 = 0 then ((ck z2.2 8 this).bind fun _ => (f_TxR_takeWord_8 N this 21 z2.2).bind fun z3 => if z3.1 = 0 then ((ck z3.2 8 this).bind fun _ => (f_TxR_takeWord_8 N this 24 z3.2).bind fun z4 => if z4.1 = 0 then ((ck z4.2 8 this).bind fun _ => (f_TxR_takeWord_8 N this 25 z4.2).bind fun z5 => if z5.1 = 0 then ((ck z5.2 8 this).bind fun _ => (f_TR_readPrice N this z5.2).bind fun z6 => some z6) else ((ck z5.2 8 this).bind fun _ => (f_TR_readTie N this z5.2).bind fun z7 => some z7)) else ((ck z4.2 8 this).bind fun _ => (f_TR_readCold N this z4.2).bind fun z8 => some z8)) else ((ck z3.2 8 this).bind fun _ => (f_TR_readPerson N this z3.2).bind fun z9 => some z9)) else ((ck z2.2 8 this).bind fun _ => (f_TR_readHabit N this z2.2).bind fun z10 => some z10)) else ((ck z1.2 8 this).bind fun _ => (f_TR_readLand this z1.2).bind fun z11 => some z11)
abbrev rm_TR_readLine : Room := { frames := 12, cells := 0, slots := 0, locals := 489 }
noncomputable def f_TxR_takeSign_8_37 (N : Nat) (this : Nat) (a0 : Int32) (y0 : Int32) (M : Mem) : Option (Int32 × Mem) :=
  if y0 = 0 then ((zg y0).bind fun z7 => some (z7, M)) else ((ck M 8 this).bind fun _ => (f_TxR_goOn_8 N this M).bind fun z8 => (zg y0).bind fun z9 => some (z9, z8))
noncomputable def f_TxR_takeSign_8_36 (N : Nat) (this : Nat) (a0 : Int32) (M : Mem) : Option (Int32 × Mem) :=
  f_TxR_takeSign_8_37 N this a0 0 M
noncomputable def f_TxR_takeSign_8 (N : Nat) (this : Nat) (a0 : Int32) (M : Mem) : Option (Int32 × Mem) :=
  (gI M 8 this 0).bind fun v1 => if v1 = (-1) then ((gI M 8 this 4).bind fun v2 => (gI M 8 this 2).bind fun v3 => if v3 ≤ v2 then (f_TxR_takeSign_8_36 N this a0 M) else ((gR M 8 this 1).bind fun v4 => (gI M 8 this 4).bind fun v5 => (ald M v4 v5).bind fun v6 => if v6 = a0 then (f_TxR_takeSign_8_37 N this a0 1 M) else (f_TxR_takeSign_8_36 N this a0 M))) else (f_TxR_takeSign_8_36 N this a0 M)
abbrev rm_TxR_takeSign_8 : Room := { frames := 1, cells := 0, slots := 0, locals := 20 }
noncomputable def f_TxR_readSign_8 (N : Nat) (this : Nat) (a0 : Int32) (M : Mem) : Option (Mem) :=
  (ck M 8 this).bind fun _ => (f_TxR_takeSign_8 N this a0 M).bind fun z1 => if z1.1 = 0 then ((ck z1.2 8 this).bind fun _ => (f_TxR_nextIsWrong_8 this z1.2).bind fun z2 => some z2) else (some z1.2)
abbrev rm_TxR_readSign_8 : Room := { frames := 2, cells := 0, slots := 0, locals := 42 }
noncomputable def f_TxR_readLines_8_85 (N : Nat) (this : Nat) (a0 : Int32) (M : Mem) : Option (Int32 × Mem) :=
  (gI M 8 this 0).bind fun v10 => if v10 = (-1) then (some (1, M)) else (some (0, M))
noncomputable def f_TxR_readLines_8_77 (N : Nat) (this : Nat) (a0 : Int32) (x2 : Int32) (M : Mem) : Option (Int32 × Mem) :=
  if x2 = 0 then (f_TxR_readLines_8_85 N this a0 M) else ((ck M 8 this).bind fun _ => (f_TxR_nextIsWrong_8 this M).bind fun z8 => f_TxR_readLines_8_85 N this a0 z8)
noncomputable def f_TxR_readLines_8_60 (N : Nat) (this : Nat) (a0 : Int32) (k23 : Int32 → Int32 → Mem → Option (Int32 × Mem)) (x3 : Int32) (y0 : Int32) (M : Mem) : Option (Int32 × Mem) :=
  if y0 = 0 then (k23 y0 (x3 + 1) M) else ((ck M 8 this).bind fun _ => (f_TxR_readSign_8 N this 59 M).bind fun z9 => k23 y0 (x3 + 1) z9)
noncomputable def f_TxR_readLines_8_23 (N : Nat) (this : Nat) (a0 : Int32) : Nat → Int32 → Int32 → Mem → Option (Int32 × Mem)
  | 0, _, _, _ => none
  | n + 1, x2, x3, M => if a0 ≤ x3 then (f_TxR_readLines_8_77 N this a0 x2 M) else (if x2 = 0 then (f_TxR_readLines_8_77 N this a0 x2 M) else ((gI M 8 this 0).bind fun v4 => if v4 = (-1) then ((ck M 8 this).bind fun _ => (f_TR_readLine N this M).bind fun z5 => (gI z5 8 this 4).bind fun v6 => (gI z5 8 this 2).bind fun v7 => if v7 ≤ v6 then (f_TxR_readLines_8_60 N this a0 (f_TxR_readLines_8_23 N this a0 n) x3 0 z5) else (f_TxR_readLines_8_60 N this a0 (f_TxR_readLines_8_23 N this a0 n) x3 1 z5)) else (f_TxR_readLines_8_77 N this a0 x2 M)))
noncomputable def f_TxR_readLines_8_20 (N : Nat) (this : Nat) (a0 : Int32) (y0 : Int32) (M : Mem) : Option (Int32 × Mem) :=
  f_TxR_readLines_8_23 N this a0 N y0 0 M
noncomputable def f_TxR_readLines_8 (N : Nat) (this : Nat) (a0 : Int32) (M : Mem) : Option (Int32 × Mem) :=
  (ck M 8 this).bind fun _ => (f_TxR_goOn_8 N this M).bind fun z1 => (gI z1 8 this 4).bind fun v2 => (gI z1 8 this 2).bind fun v3 => if v3 ≤ v2 then (f_TxR_readLines_8_20 N this a0 0 z1) else (f_TxR_readLines_8_20 N this a0 1 z1)
abbrev rm_TxR_readLines_8 : Room := { frames := 13, cells := 0, slots := 0, locals := 509 }
noncomputable def f_CT_town (N : Nat) (this : Nat) (M : Mem) : Option ((Int32 ⊕ String) × Mem) :=
  (ck M 10 this).bind fun _ => (f_CT_useTapeUp this M).bind fun z1 => (gR z1.2 10 this 8).bind fun v2 => (gR z1.2 10 this 3).bind fun v3 => (ck z1.2 7 v2).bind fun _ => (f_Town_copyFrom N v2 v3 z1.2).bind fun z4 => (gR (m_new z4 (18, 0)) 10 this 0).bind fun v5 => (gR (m_new z4 (18, 0)) 10 this 8).bind fun v6 => (f_TR_init (m_sz z4) v5 z1.1 v6 (m_new z4 (18, 0))).bind fun z7 => (ck z7 8 (m_sz z4)).bind fun _ => (f_TxR_readLines_8 N (m_sz z4) 14 z7).bind fun z8 => (gI z8.2 8 (m_sz z4) 0).bind fun v9 => (pI z8.2 10 this 2 v9).bind fun M10 => if z8.1 = 0 then (some (.inr "java/lang/IllegalArgumentException", m_new M10 (0, 0))) else ((gR M10 10 this 3).bind fun v11 => (gI M10 7 v11 7).bind fun v12 => if v12 < 12 then ((gR M10 10 this 8).bind fun v13 => (gI M10 7 v13 7).bind fun v14 => (pI M10 7 v13 7 (v14 + 1)).bind fun M15 => (gR M15 10 this 3).bind fun v16 => (gR M15 10 this 8).bind fun v17 => (ck M15 7 v16).bind fun _ => (f_Town_copyFrom N v16 v17 M15).bind fun z18 => (pI z18 10 this 7 0).bind fun M19 => (gR M19 10 this 3).bind fun v20 => (gI M19 7 v20 7).bind fun v21 => some (.inl v21, M19)) else (some (.inr "java/lang/UnsupportedOperationException", m_new M10 (0, 0))))
abbrev rm_CT_town : Room := { frames := 14, cells := 2, slots := 13, locals := 532 }
noncomputable def f_TxR_init_2 (this : Nat) (a0 : Nat) (a1 : Int32) (M : Mem) : Option (Mem) :=
  (pI M 2 this 0 (-1)).bind fun M1 => (pR M1 2 this 1 a0).bind fun M2 => (aln M2 a0).bind fun v3 => (f_Math_min a1 v3).bind fun z4 => (pI M2 2 this 2 z4).bind fun M5 => some M5
abbrev rm_TxR_init_2 : Room := { frames := 1, cells := 0, slots := 0, locals := 30 }
noncomputable def f_TxR_goOn_2_177 (N : Nat) (this : Nat) (M : Mem) : Option (Mem) :=
  (gI M 2 this 5).bind fun v26 => (gI M 2 this 4).bind fun v27 => if v26 = v27 then ((gI M 2 this 5).bind fun v28 => (gI M 2 this 2).bind fun v29 => if v29 ≤ v28 then (some M) else ((gI M 2 this 5).bind fun v30 => (pI M 2 this 5 (v30 + 1)).bind fun M31 => some M31)) else (some M)
noncomputable def f_TxR_goOn_2_125 (N : Nat) (this : Nat) : Nat → Mem → Option (Mem)
  | 0, _ => none
  | n + 1, M => (gI M 2 this 5).bind fun v32 => (gI M 2 this 2).bind fun v33 => if v33 ≤ v32 then (f_TxR_goOn_2_177 N this M) else ((gR M 2 this 1).bind fun v34 => (gI M 2 this 5).bind fun v35 => (ald M v34 v35).bind fun v36 => if v36 < 48 then (f_TxR_goOn_2_177 N this M) else ((gR M 2 this 1).bind fun v37 => (gI M 2 this 5).bind fun v38 => (ald M v37 v38).bind fun v39 => if 57 < v39 then (f_TxR_goOn_2_177 N this M) else ((gI M 2 this 5).bind fun v40 => (pI M 2 this 5 (v40 + 1)).bind fun M41 => f_TxR_goOn_2_125 N this n M41)))
noncomputable def f_TxR_goOn_2_114 (N : Nat) (this : Nat) (M : Mem) : Option (Mem) :=
  (gI M 2 this 5).bind fun v24 => (gI M 2 this 4).bind fun v25 => if v24 = v25 then (f_TxR_goOn_2_125 N this N M) else (f_TxR_goOn_2_177 N this M)
noncomputable def f_TxR_goOn_2_62 (N : Nat) (this : Nat) : Nat → Mem → Option (Mem)
  | 0, _ => none
  | n + 1, M => (gI M 2 this 5).bind fun v14 => (gI M 2 this 2).bind fun v15 => if v15 ≤ v14 then (f_TxR_goOn_2_114 N this M) else ((gR M 2 this 1).bind fun v16 => (gI M 2 this 5).bind fun v17 => (ald M v16 v17).bind fun v18 => if v18 < 97 then (f_TxR_goOn_2_114 N this M) else ((gR M 2 this 1).bind fun v19 => (gI M 2 this 5).bind fun v20 => (ald M v19 v20).bind fun v21 => if 122 < v21 then (f_TxR_goOn_2_114 N this M) else ((gI M 2 this 5).bind fun v22 => (pI M 2 this 5 (v22 + 1)).bind fun M23 => f_TxR_goOn_2_62 N this n M23)))
noncomputable def f_TxR_goOn_2_54 (N : Nat) (this : Nat) (M : Mem) : Option (Mem) :=
  (gI M 2 this 4).bind fun v12 => (pI M 2 this 5 v12).bind fun M13 => f_TxR_goOn_2_62 N this N M13
noncomputable def f_TxR_goOn_2_16 (N : Nat) (this : Nat) : Nat → Mem → Option (Mem)
  | 0, _ => none
  | n + 1, M => (gI M 2 this 4).bind fun v5 => (gI M 2 this 2).bind fun v6 => if v6 ≤ v5 then (f_TxR_goOn_2_54 N this M) else ((gR M 2 this 1).bind fun v7 => (gI M 2 this 4).bind fun v8 => (ald M v7 v8).bind fun v9 => if v9 = 32 then ((gI M 2 this 4).bind fun v10 => (pI M 2 this 4 (v10 + 1)).bind fun M11 => f_TxR_goOn_2_16 N this n M11) else (f_TxR_goOn_2_54 N this M))
noncomputable def f_TxR_goOn_2 (N : Nat) (this : Nat) (M : Mem) : Option (Mem) :=
  (gI M 2 this 4).bind fun v1 => (pI M 2 this 3 v1).bind fun M2 => (gI M2 2 this 5).bind fun v3 => (pI M2 2 this 4 v3).bind fun M4 => f_TxR_goOn_2_16 N this N M4
abbrev rm_TxR_goOn_2 : Room := { frames := 0, cells := 0, slots := 0, locals := 0 }
noncomputable def f_TxR_takeWord_2_76 (N : Nat) (this : Nat) (a0 : Nat) (M : Mem) : Option (Int32 × Mem) :=
  (ck M 2 this).bind fun _ => (f_TxR_goOn_2 N this M).bind fun z12 => some (1, z12)
noncomputable def f_TxR_takeWord_2_28 (N : Nat) (this : Nat) (a0 : Nat) : Nat → Int32 → Mem → Option (Int32 × Mem)
  | 0, _, _ => none
  | n + 1, x2, M => (sLen a0).bind fun v5 => if v5 ≤ x2 then (f_TxR_takeWord_2_76 N this a0 M) else ((gI M 2 this 4).bind fun v6 => (gI M 2 this 2).bind fun v7 => if v7 ≤ (v6 + x2) then (f_TxR_takeWord_2_76 N this a0 M) else ((gR M 2 this 1).bind fun v8 => (gI M 2 this 4).bind fun v9 => (ald M v8 (v9 + x2)).bind fun v10 => (sAt a0 x2).bind fun v11 => if v10 = v11 then (f_TxR_takeWord_2_28 N this a0 n (x2 + 1) M) else (some (0, M))))
noncomputable def f_TxR_takeWord_2 (N : Nat) (this : Nat) (a0 : Nat) (M : Mem) : Option (Int32 × Mem) :=
  (gI M 2 this 0).bind fun v1 => if v1 = (-1) then ((gI M 2 this 5).bind fun v2 => (gI M 2 this 4).bind fun v3 => (sLen a0).bind fun v4 => if (v2 - v3) = v4 then (f_TxR_takeWord_2_28 N this a0 N 0 M) else (some (0, M))) else (some (0, M))
abbrev rm_TxR_takeWord_2 : Room := { frames := 8, cells := 0, slots := 0, locals := 400 }
noncomputable def f_TxR_nextIsWrong_2 (this : Nat) (M : Mem) : Option (Mem) :=
  (gI M 2 this 0).bind fun v1 => if v1 = (-1) then ((gI M 2 this 4).bind fun v2 => (pI M 2 this 0 v2).bind fun M3 => some M3) else (some M)
abbrev rm_TxR_nextIsWrong_2 : Room := { frames := 0, cells := 0, slots := 0, locals := 0 }
noncomputable def f_TxR_readWord_2 (N : Nat) (this : Nat) (a0 : Nat) (M : Mem) : Option (Mem) :=
  (ck M 2 this).bind fun _ => (f_TxR_takeWord_2 N this a0 M).bind fun z1 => if z1.1 = 0 then ((ck z1.2 2 this).bind fun _ => (f_TxR_nextIsWrong_2 this z1.2).bind fun z2 => some z2) else (some z1.2)
abbrev rm_TxR_readWord_2 : Room := { frames := 9, cells := 0, slots := 0, locals := 422 }
noncomputable def f_TxR_isNumberNext_2 (this : Nat) (M : Mem) : Option (Int32) :=
  (gI M 2 this 4).bind fun v1 => (gI M 2 this 2).bind fun v2 => if v2 ≤ v1 then (some 0) else ((gR M 2 this 1).bind fun v3 => (gI M 2 this 4).bind fun v4 => (ald M v3 v4).bind fun v5 => if v5 < 48 then (some 0) else ((gR M 2 this 1).bind fun v6 => (gI M 2 this 4).bind fun v7 => (ald M v6 v7).bind fun v8 => if 57 < v8 then (some 0) else (some 1)))
abbrev rm_TxR_isNumberNext_2 : Room := { frames := 0, cells := 0, slots := 0, locals := 0 }
noncomputable def f_TxR_readNumber_2_95 (N : Nat) (this : Nat) (a0 : Int32) (a1 : Int32) (M : Mem) : Option (Int32 × Mem) :=
  (ck M 2 this).bind fun _ => (f_TxR_nextIsWrong_2 this M).bind fun z11 => some ((-1), z11)
noncomputable def f_TxR_readNumber_2_77 (N : Nat) (this : Nat) (a0 : Int32) (a1 : Int32) (x3 : Int32) (M : Mem) : Option (Int32 × Mem) :=
  (gI M 2 this 0).bind fun v9 => if v9 = (-1) then (if x3 < a0 then (f_TxR_readNumber_2_95 N this a0 a1 M) else (if x3 ≤ a1 then ((ck M 2 this).bind fun _ => (f_TxR_goOn_2 N this M).bind fun z10 => some (x3, z10)) else (f_TxR_readNumber_2_95 N this a0 a1 M))) else (f_TxR_readNumber_2_95 N this a0 a1 M)
noncomputable def f_TxR_readNumber_2_32 (N : Nat) (this : Nat) (a0 : Int32) (a1 : Int32) : Nat → Int32 → Int32 → Mem → Option (Int32 × Mem)
  | 0, _, _, _ => none
  | n + 1, x3, x4, M => if x3 = (-1) then (f_TxR_readNumber_2_77 N this a0 a1 x3 M) else ((gI M 2 this 5).bind fun v5 => if v5 ≤ x4 then (f_TxR_readNumber_2_77 N this a0 a1 x3 M) else ((gI M 2 this 2).bind fun v6 => if v6 ≤ x4 then (f_TxR_readNumber_2_77 N this a0 a1 x3 M) else ((gR M 2 this 1).bind fun v7 => (ald M v7 x4).bind fun v8 => f_TxR_readNumber_2_32 N this a0 a1 n (((10 * x3) + v8) - 48) (x4 + 1) M)))
noncomputable def f_TxR_readNumber_2_25 (N : Nat) (this : Nat) (a0 : Int32) (a1 : Int32) (y0 : Int32) (M : Mem) : Option (Int32 × Mem) :=
  (gI M 2 this 4).bind fun v4 => f_TxR_readNumber_2_32 N this a0 a1 N y0 v4 M
noncomputable def f_TxR_readNumber_2_24 (N : Nat) (this : Nat) (a0 : Int32) (a1 : Int32) (M : Mem) : Option (Int32 × Mem) :=
  f_TxR_readNumber_2_25 N this a0 a1 (-1) M
noncomputable def f_TxR_readNumber_2 (N : Nat) (this : Nat) (a0 : Int32) (a1 : Int32) (M : Mem) : Option (Int32 × Mem) :=
  (ck M 2 this).bind fun _ => (f_TxR_isNumberNext_2 this M).bind fun z1 => if z1 = 0 then (f_TxR_readNumber_2_24 N this a0 a1 M) else ((gI M 2 this 5).bind fun v2 => (gI M 2 this 4).bind fun v3 => if 3 < (v2 - v3) then (f_TxR_readNumber_2_24 N this a0 a1 M) else (f_TxR_readNumber_2_25 N this a0 a1 0 M))
abbrev rm_TxR_readNumber_2 : Room := { frames := 1, cells := 0, slots := 0, locals := 20 }
noncomputable def f_TxR_readGreeting_2_101 (N : Nat) (this : Nat) (y0 : Int32) (y1 : Int32) (y2 : Int32) (M : Mem) : Option (Int32 × Mem) :=
  (f_Manners_codeOf y0 y1 y2).bind fun z12 => some (z12, M)
noncomputable def f_TxR_readGreeting_2_78 (N : Nat) (this : Nat) (x1 : Int32) (x2 : Int32) (M : Mem) : Option (Int32 × Mem) :=
  (gI M 2 this 0).bind fun v11 => if v11 = (-1) then (if x2 = 0 then (f_TxR_readGreeting_2_101 N this 2 x1 1 M) else (f_TxR_readGreeting_2_101 N this 2 x1 0 M)) else (some ((-1), M))
noncomputable def f_TxR_readGreeting_2 (N : Nat) (this : Nat) (M : Mem) : Option (Int32 × Mem) :=
  (ck M 2 this).bind fun _ => (f_TxR_takeWord_2 N this 0 M).bind fun z1 => if z1.1 = 0 then ((ck z1.2 2 this).bind fun _ => (f_TxR_takeWord_2 N this 1 z1.2).bind fun z2 => if z2.1 = 0 then ((ck z2.2 2 this).bind fun _ => (f_TxR_takeWord_2 N this 2 z2.2).bind fun z3 => if z3.1 = 0 then ((ck z3.2 2 this).bind fun _ => (f_TxR_readWord_2 N this 3 z3.2).bind fun z4 => (ck z4 2 this).bind fun _ => (f_TxR_readNumber_2 N this 1 4 z4).bind fun z5 => (ck z5.2 2 this).bind fun _ => (f_TxR_takeWord_2 N this 4 z5.2).bind fun z6 => if z6.1 = 0 then ((ck z6.2 2 this).bind fun _ => (f_TxR_readWord_2 N this 5 z6.2).bind fun z7 => f_TxR_readGreeting_2_78 N this z5.1 z6.1 z7) else (f_TxR_readGreeting_2_78 N this z5.1 z6.1 z6.2)) else ((f_Manners_codeOf 3 1 0).bind fun z8 => some (z8, z3.2))) else ((f_Manners_codeOf 1 1 0).bind fun z9 => some (z9, z2.2))) else ((f_Manners_codeOf 0 1 0).bind fun z10 => some (z10, z1.2))
abbrev rm_TxR_readGreeting_2 : Room := { frames := 10, cells := 0, slots := 0, locals := 443 }
noncomputable def f_TxR_takeSign_2_37 (N : Nat) (this : Nat) (a0 : Int32) (y0 : Int32) (M : Mem) : Option (Int32 × Mem) :=
  if y0 = 0 then ((zg y0).bind fun z7 => some (z7, M)) else ((ck M 2 this).bind fun _ => (f_TxR_goOn_2 N this M).bind fun z8 => (zg y0).bind fun z9 => some (z9, z8))
noncomputable def f_TxR_takeSign_2_36 (N : Nat) (this : Nat) (a0 : Int32) (M : Mem) : Option (Int32 × Mem) :=
  f_TxR_takeSign_2_37 N this a0 0 M
noncomputable def f_TxR_takeSign_2 (N : Nat) (this : Nat) (a0 : Int32) (M : Mem) : Option (Int32 × Mem) :=
  (gI M 2 this 0).bind fun v1 => if v1 = (-1) then ((gI M 2 this 4).bind fun v2 => (gI M 2 this 2).bind fun v3 => if v3 ≤ v2 then (f_TxR_takeSign_2_36 N this a0 M) else ((gR M 2 this 1).bind fun v4 => (gI M 2 this 4).bind fun v5 => (ald M v4 v5).bind fun v6 => if v6 = a0 then (f_TxR_takeSign_2_37 N this a0 1 M) else (f_TxR_takeSign_2_36 N this a0 M))) else (f_TxR_takeSign_2_36 N this a0 M)
abbrev rm_TxR_takeSign_2 : Room := { frames := 1, cells := 0, slots := 0, locals := 20 }
noncomputable def f_Law_addStep (this : Nat) (a0 : Int32) (a1 : Int32) (M : Mem) : Option (Mem) :=
  (gI M 1 this 5).bind fun v1 => (gR M 1 this 3).bind fun v2 => (aln M v2).bind fun v3 => if v3 ≤ v1 then (some M) else ((gI M 1 this 5).bind fun v4 => (gR M 1 this 4).bind fun v5 => (aln M v5).bind fun v6 => if v6 ≤ v4 then (some M) else ((gR M 1 this 3).bind fun v7 => (gI M 1 this 5).bind fun v8 => (ast M v7 v8 a0).bind fun M9 => (gR M9 1 this 4).bind fun v10 => (gI M9 1 this 5).bind fun v11 => (ast M9 v10 v11 a1).bind fun M12 => (gI M12 1 this 5).bind fun v13 => (pI M12 1 this 5 (v13 + 1)).bind fun M14 => some M14))
abbrev rm_Law_addStep : Room := { frames := 0, cells := 0, slots := 0, locals := 0 }
noncomputable def f_LR_readPart_102 (N : Nat) (this : Nat) (y0 : Nat) (y1 : Int32) (y2 : Int32) (M : Mem) : Option (Mem) :=
  (ck M 1 y0).bind fun _ => (f_Law_addStep y0 y1 y2 M).bind fun z9 => some z9
noncomputable def f_LR_readPart_80 (N : Nat) (this : Nat) (y0 : Int32) (M : Mem) : Option (Mem) :=
  (gR M 2 this 6).bind fun v7 => if y0 = 0 then ((ck M 2 this).bind fun _ => (f_TxR_readNumber_2 N this 0 999 M).bind fun z8 => f_LR_readPart_102 N this v7 y0 z8.1 z8.2) else (f_LR_readPart_102 N this v7 y0 0 M)
noncomputable def f_LR_readPart (N : Nat) (this : Nat) (M : Mem) : Option (Mem) :=
  (ck M 2 this).bind fun _ => (f_TxR_takeWord_2 N this 10 M).bind fun z1 => if z1.1 = 0 then ((ck z1.2 2 this).bind fun _ => (f_TxR_takeWord_2 N this 11 z1.2).bind fun z2 => if z2.1 = 0 then ((ck z2.2 2 this).bind fun _ => (f_TxR_takeWord_2 N this 12 z2.2).bind fun z3 => if z3.1 = 0 then ((ck z3.2 2 this).bind fun _ => (f_TxR_takeWord_2 N this 13 z3.2).bind fun z4 => if z4.1 = 0 then ((ck z4.2 2 this).bind fun _ => (f_TxR_takeWord_2 N this 14 z4.2).bind fun z5 => if z5.1 = 0 then ((ck z5.2 2 this).bind fun _ => (f_TxR_takeWord_2 N this 15 z5.2).bind fun z6 => if z6.1 = 0 then (f_LR_readPart_80 N this 0 z6.2) else (f_LR_readPart_80 N this 6 z6.2)) else (f_LR_readPart_80 N this 5 z5.2)) else (f_LR_readPart_80 N this 4 z4.2)) else (f_LR_readPart_80 N this 3 z3.2)) else (f_LR_readPart_80 N this 2 z2.2)) else (f_LR_readPart_80 N this 1 z1.2)
abbrev rm_LR_readPart : Room := { frames := 9, cells := 0, slots := 0, locals := 422 }
noncomputable def f_TxR_bytesLeft_2 (this : Nat) (M : Mem) : Option (Int32) :=
  (gI M 2 this 2).bind fun v1 => (gI M 2 this 4).bind fun v2 => some (v1 - v2)
abbrev rm_TxR_bytesLeft_2 : Room := { frames := 0, cells := 0, slots := 0, locals := 0 }
noncomputable def f_LR_readSum_9 (N : Nat) (this : Nat) : Nat → Int32 → Mem → Option (Mem)
  | 0, _, _ => none
  | n + 1, x1, M => if x1 ≤ 0 then (some M) else ((ck M 2 this).bind fun _ => (f_TxR_takeSign_2 N this 43 M).bind fun z3 => if z3.1 = 0 then (some z3.2) else ((ck z3.2 2 this).bind fun _ => (f_LR_readPart N this z3.2).bind fun z4 => (gR z4 2 this 6).bind fun v5 => (ck z4 1 v5).bind fun _ => (f_Law_addStep v5 10 0 z4).bind fun z6 => f_LR_readSum_9 N this n (x1 + (-1)) z6))
noncomputable def f_LR_readSum (N : Nat) (this : Nat) (M : Mem) : Option (Mem) :=
  (ck M 2 this).bind fun _ => (f_LR_readPart N this M).bind fun z1 => (ck z1 2 this).bind fun _ => (f_TxR_bytesLeft_2 this z1).bind fun z2 => f_LR_readSum_9 N this N z2 z1
abbrev rm_LR_readSum : Room := { frames := 10, cells := 0, slots := 0, locals := 443 }
noncomputable def f_TxR_readSign_2 (N : Nat) (this : Nat) (a0 : Int32) (M : Mem) : Option (Mem) :=
  (ck M 2 this).bind fun _ => (f_TxR_takeSign_2 N this a0 M).bind fun z1 => if z1.1 = 0 then ((ck z1.2 2 this).bind fun _ => (f_TxR_nextIsWrong_2 this z1.2).bind fun z2 => some z2) else (some z1.2)
abbrev rm_TxR_readSign_2 : Room := { frames := 2, cells := 0, slots := 0, locals := 42 }
noncomputable def f_LR_readAtom_20 (N : Nat) (dp : Nat → Int32 → Int32 → Mem → Option (Mem)) (this : Nat) (a0 : Int32) (x2 : Int32) (M : Mem) : Option (Mem) :=
  (ck M 2 this).bind fun _ => (dp this x2 (a0 + 1) M).bind fun z12 => some z12
noncomputable def f_LR_readAtom_115 (N : Nat) (dp : Nat → Int32 → Int32 → Mem → Option (Mem)) (this : Nat) (a0 : Int32) (y0 : Nat) (y1 : Int32) (M : Mem) : Option (Mem) :=
  (ck M 1 y0).bind fun _ => (f_Law_addStep y0 y1 0 M).bind fun z15 => some z15
noncomputable def f_LR_readAtom_96 (N : Nat) (dp : Nat → Int32 → Int32 → Mem → Option (Mem)) (this : Nat) (a0 : Int32) (x3 : Int32) (M : Mem) : Option (Mem) :=
  (ck M 2 this).bind fun _ => (f_LR_readSum N this M).bind fun z13 => (gR z13 2 this 6).bind fun v14 => if x3 = 0 then (f_LR_readAtom_115 N dp this a0 v14 12 z13) else (f_LR_readAtom_115 N dp this a0 v14 11 z13)
noncomputable def f_LR_readAtom (N : Nat) (dp : Nat → Int32 → Int32 → Mem → Option (Mem)) (this : Nat) (a0 : Int32) (M : Mem) : Option (Mem) :=
  (ck M 2 this).bind fun _ => (f_TxR_takeWord_2 N this 7 M).bind fun z1 => if z1.1 = 0 then ((ck z1.2 2 this).bind fun _ => (f_TxR_takeSign_2 N this 40 z1.2).bind fun z2 => if z2.1 = 0 then ((ck z2.2 2 this).bind fun _ => (f_TxR_takeWord_2 N this 8 z2.2).bind fun z3 => if z3.1 = 0 then ((ck z3.2 2 this).bind fun _ => (f_TxR_takeWord_2 N this 9 z3.2).bind fun z4 => if z4.1 = 0 then ((ck z4.2 2 this).bind fun _ => (f_LR_readSum N this z4.2).bind fun z5 => (ck z5 2 this).bind fun _ => (f_TxR_takeSign_2 N this 60 z5).bind fun z6 => if z6.1 = 0 then ((ck z6.2 2 this).bind fun _ => (f_TxR_readSign_2 N this 62 z6.2).bind fun z7 => f_LR_readAtom_96 N dp this a0 z6.1 z7) else (f_LR_readAtom_96 N dp this a0 z6.1 z6.2)) else ((gR z4.2 2 this 6).bind fun v8 => (ck z4.2 1 v8).bind fun _ => (f_Law_addStep v8 8 0 z4.2).bind fun z9 => some z9)) else ((gR z3.2 2 this 6).bind fun v10 => (ck z3.2 1 v10).bind fun _ => (f_Law_addStep v10 7 0 z3.2).bind fun z11 => some z11)) else (f_LR_readAtom_20 N dp this a0 z1.1 z2.2)) else (f_LR_readAtom_20 N dp this a0 z1.1 z1.2)
abbrev rm_LR_readDeeper (d : Nat) : Room := { frames := 60 + 12 * d + 0, cells := 0, slots := 0, locals := 3000 + 400 * d + 0 }
abbrev rm_LR_readAtom (d : Nat) : Room := { frames := 60 + 12 * d + 1, cells := 0, slots := 0, locals := 3000 + 400 * d + 60 }
noncomputable def f_LR_readAll_10 (N : Nat) (dp : Nat → Int32 → Int32 → Mem → Option (Mem)) (this : Nat) (a0 : Int32) : Nat → Int32 → Mem → Option (Mem)
  | 0, _, _ => none
  | n + 1, x2, M => if x2 ≤ 0 then (some M) else ((ck M 2 this).bind fun _ => (f_TxR_takeWord_2 N this 16 M).bind fun z3 => if z3.1 = 0 then (some z3.2) else ((ck z3.2 2 this).bind fun _ => (f_LR_readAtom N dp this a0 z3.2).bind fun z4 => (gR z4 2 this 6).bind fun v5 => (ck z4 1 v5).bind fun _ => (f_Law_addStep v5 13 0 z4).bind fun z6 => f_LR_readAll_10 N dp this a0 n (x2 + (-1)) z6))
noncomputable def f_LR_readAll (N : Nat) (dp : Nat → Int32 → Int32 → Mem → Option (Mem)) (this : Nat) (a0 : Int32) (M : Mem) : Option (Mem) :=
  (ck M 2 this).bind fun _ => (f_LR_readAtom N dp this a0 M).bind fun z1 => (ck z1 2 this).bind fun _ => (f_TxR_bytesLeft_2 this z1).bind fun z2 => f_LR_readAll_10 N dp this a0 N z2 z1
abbrev rm_LR_readAll (d : Nat) : Room := { frames := 60 + 12 * d + 2, cells := 0, slots := 0, locals := 3000 + 400 * d + 120 }
