noncomputable def f_R_habitLine_16 (N : Nat) (a0 : Int32) (r : Rho) : Option (Rho) :=
  (rld r 1 3).bind fun v3 => (f_R_figures N 0 (v3 - 1) r).bind fun z4 => (f_R_greeting N z4.2).bind fun z5 => (f_R_must N 62 z5.2).bind fun z6 => (f_R_figures N 1 9 z6).bind fun z7 => if (z7.2.1 12) = (-1) then ((rld z7.2 1 4).bind fun v8 => (rst z7.2 1 (20 + (3 * v8)) z4.1).bind fun r9 => (rst r9 1 ((20 + (3 * v8)) + 1) z5.1).bind fun r10 => (rst r10 1 ((20 + (3 * v8)) + 2) z7.1).bind fun r11 => (rld r11 1 4).bind fun v12 => (rst r11 1 4 (v12 + 1)).bind fun r13 => some r13) else (some z7.2)
noncomputable def f_R_habitLine (N : Nat) (a0 : Int32) (r : Rho) : Option (Rho) :=
  (rld r 1 4).bind fun v1 => if v1 = 24 then ((f_R_wrong a0 r).bind fun z2 => f_R_habitLine_16 N a0 z2) else (f_R_habitLine_16 N a0 r)
abbrev rm_R_habitLine : Room := { frames := 11, cells := 0, slots := 0, locals := 466 }
noncomputable def f_R_has (a0 : Int32) (a1 : Int32) (a2 : Int32) (r : Rho) : Option (Rho) :=
  (rst r 1 ((92 + (8 * a0)) + a1) a2).bind fun r1 => some r1
abbrev rm_R_has : Room := { frames := 0, cells := 0, slots := 0, locals := 0 }
noncomputable def f_R_meets (a0 : Int32) (a1 : Int32) (a2 : Int32) (a3 : Int32) (r : Rho) : Option (Rho) :=
  (rst r 1 ((172 + (10 * a0)) + a1) a2).bind fun r1 => (rst r1 1 ((272 + (10 * a0)) + a1) a3).bind fun r2 => some r2
abbrev rm_R_meets : Room := { frames := 0, cells := 0, slots := 0, locals := 0 }
noncomputable def f_R_personLine_153 (N : Nat) (a0 : Int32) : Nat → Int32 → Int32 → Rho → Option (Rho)
  | 0, _, _, _ => none
  | n + 1, x6, x7, r => if 10 ≤ x7 then ((rld r 1 5).bind fun v19 => (rst r 1 5 (v19 + 1)).bind fun r20 => some r20) else ((f_R_meets x6 x7 0 (-1) r).bind fun z21 => (f_R_meets x7 x6 0 (-1) z21).bind fun z22 => f_R_personLine_153 N a0 n x6 (x7 + 1) z22)
noncomputable def f_R_personLine_16 (N : Nat) (a0 : Int32) (r : Rho) : Option (Rho) :=
  (rld r 1 3).bind fun v3 => (f_R_figures N 0 (v3 - 1) r).bind fun z4 => (f_R_greeting N z4.2).bind fun z5 => (f_R_must N 54 z5.2).bind fun z6 => (f_R_figures N 0 9 z6).bind fun z7 => (f_R_must N 64 z7.2).bind fun z8 => (f_R_figures N 0 100 z8).bind fun z9 => if (z9.2.1 12) = (-1) then ((rld z9.2 1 5).bind fun v10 => (f_R_has v10 0 z4.1 z9.2).bind fun z11 => (f_R_has v10 1 z5.1 z11).bind fun z12 => (f_R_has v10 2 z7.1 z12).bind fun z13 => (f_R_has v10 3 z9.1 z13).bind fun z14 => (f_R_has v10 4 0 z14).bind fun z15 => (f_R_has v10 5 0 z15).bind fun z16 => (f_R_has v10 6 (-1) z16).bind fun z17 => (f_R_has v10 7 (-1) z17).bind fun z18 => f_R_personLine_153 N a0 N v10 0 z18) else (some z9.2)
noncomputable def f_R_personLine (N : Nat) (a0 : Int32) (r : Rho) : Option (Rho) :=
  (rld r 1 5).bind fun v1 => if v1 = 10 then ((f_R_wrong a0 r).bind fun z2 => f_R_personLine_16 N a0 z2) else (f_R_personLine_16 N a0 r)
abbrev rm_R_personLine : Room := { frames := 11, cells := 0, slots := 0, locals := 466 }
noncomputable def f_R_who (a0 : Int32) (r : Rho) : Option (Int32) :=
  (rld r 1 (372 + (2 * a0))).bind fun v1 => some v1
abbrev rm_R_who : Room := { frames := 0, cells := 0, slots := 0, locals := 0 }
noncomputable def f_R_whom (a0 : Int32) (r : Rho) : Option (Int32) :=
  (rld r 1 ((372 + (2 * a0)) + 1)).bind fun v1 => some v1
abbrev rm_R_whom : Room := { frames := 0, cells := 0, slots := 0, locals := 0 }
noncomputable def f_R_areTied_31 (N : Nat) (a0 : Int32) (a1 : Int32) (r : Rho) (k2 : Int32 → Option (Int32)) (x3 : Int32) : Option (Int32) :=
  (f_R_who x3 r).bind fun z4 => if z4 = a1 then ((f_R_whom x3 r).bind fun z5 => if z5 = a0 then (some 1) else (k2 (x3 + 1))) else (k2 (x3 + 1))
noncomputable def f_R_areTied_2 (N : Nat) (a0 : Int32) (a1 : Int32) (r : Rho) : Nat → Int32 → Option (Int32)
  | 0, _ => none
  | n + 1, x3 => (rld r 1 6).bind fun v1 => if v1 ≤ x3 then (some 0) else ((f_R_who x3 r).bind fun z2 => if z2 = a0 then ((f_R_whom x3 r).bind fun z3 => if z3 = a1 then (some 1) else (f_R_areTied_31 N a0 a1 r (f_R_areTied_2 N a0 a1 r n) x3)) else (f_R_areTied_31 N a0 a1 r (f_R_areTied_2 N a0 a1 r n) x3))
noncomputable def f_R_areTied (N : Nat) (a0 : Int32) (a1 : Int32) (r : Rho) : Option (Int32) :=
  f_R_areTied_2 N a0 a1 r N 0
abbrev rm_R_areTied : Room := { frames := 1, cells := 0, slots := 0, locals := 21 }
noncomputable def f_R_binds (a0 : Int32) (a1 : Int32) (r : Rho) : Option (Rho) :=
  (rld r 1 6).bind fun v1 => (rst r 1 (372 + (2 * v1)) a0).bind fun r2 => (rld r2 1 6).bind fun v3 => (rst r2 1 ((372 + (2 * v3)) + 1) a1).bind fun r4 => (rld r4 1 6).bind fun v5 => (rst r4 1 6 (v5 + 1)).bind fun r6 => some r6
abbrev rm_R_binds : Room := { frames := 0, cells := 0, slots := 0, locals := 0 }
noncomputable def f_R_tieLine_80 (N : Nat) (a0 : Int32) (x2 : Int32) (x4 : Int32) (r : Rho) : Option (Rho) :=
  if (r.1 12) = (-1) then ((f_R_binds x2 x4 r).bind fun z9 => some z9) else (some r)
noncomputable def f_R_tieLine_75 (N : Nat) (a0 : Int32) (x2 : Int32) (x3 : Int32) (x4 : Int32) (r : Rho) : Option (Rho) :=
  (f_R_wrong x3 r).bind fun z10 => f_R_tieLine_80 N a0 x2 x4 z10
noncomputable def f_R_tieLine_17 (N : Nat) (a0 : Int32) (r : Rho) : Option (Rho) :=
  (rld r 1 5).bind fun v3 => (f_R_figures N 0 (v3 - 1) r).bind fun z4 => (f_R_place N z4.2).bind fun z5 => (rld z5.2 1 5).bind fun v6 => (f_R_figures N 0 (v6 - 1) z5.2).bind fun z7 => if (z7.2.1 12) = (-1) then (if z4.1 = z7.1 then (f_R_tieLine_75 N a0 z4.1 z5.1 z7.1 z7.2) else ((f_R_areTied N z4.1 z7.1 z7.2).bind fun z8 => if z8 = 0 then (f_R_tieLine_80 N a0 z4.1 z7.1 z7.2) else (f_R_tieLine_75 N a0 z4.1 z5.1 z7.1 z7.2))) else (f_R_tieLine_80 N a0 z4.1 z7.1 z7.2)
noncomputable def f_R_tieLine (N : Nat) (a0 : Int32) (r : Rho) : Option (Rho) :=
  (rld r 1 6).bind fun v1 => if v1 = 24 then ((f_R_wrong a0 r).bind fun z2 => f_R_tieLine_17 N a0 z2) else (f_R_tieLine_17 N a0 r)
abbrev rm_R_tieLine : Room := { frames := 4, cells := 0, slots := 0, locals := 85 }
noncomputable def f_R_tells (N : Nat) (a0 : Int32) (r : Rho) : Option (Rho) :=
  (f_R_figures N 0 99 r).bind fun z1 => if (z1.2.1 12) = (-1) then ((rst z1.2 1 a0 z1.1).bind fun r2 => some r2) else (some z1.2)
abbrev rm_R_tells : Room := { frames := 4, cells := 0, slots := 0, locals := 85 }
noncomputable def f_R_townLine_30 (N : Nat) (r : Rho) : Option (Rho) :=
  if (r.1 12) = (-1) then ((rld r 1 3).bind fun v22 => (rst r 1 3 (v22 + 1)).bind fun r23 => some r23) else (some r)
noncomputable def f_R_townLine (N : Nat) (r : Rho) : Option (Rho) :=
  (f_R_place N r).bind fun z1 => (f_R_has_ N 60 z1.2).bind fun z2 => if z2.1 = 0 then ((f_R_has_ N 61 z2.2).bind fun z3 => if z3.1 = 0 then ((f_R_has_ N 63 z3.2).bind fun z4 => if z4.1 = 0 then ((f_R_has_ N 51 z4.2).bind fun z5 => if z5.1 = 0 then ((f_R_has_ N 65 z5.2).bind fun z6 => if z6.1 = 0 then ((f_R_has_ N 66 z6.2).bind fun z7 => if z7.1 = 0 then ((f_R_has_ N 67 z7.2).bind fun z8 => if z8.1 = 0 then ((f_R_has_ N 68 z8.2).bind fun z9 => if z9.1 = 0 then ((f_R_wrong (z9.2.1 11) z9.2).bind fun z10 => some z10) else ((f_R_tells N 15 z9.2).bind fun z11 => some z11)) else ((f_R_tells N 14 z8.2).bind fun z12 => some z12)) else ((f_R_tells N 13 z7.2).bind fun z13 => some z13)) else ((f_R_tieLine N z1.1 z6.2).bind fun z14 => some z14)) else ((rld z5.2 1 5).bind fun v15 => (f_R_figures N 0 (v15 - 1) z5.2).bind fun z16 => if (z16.2.1 12) = (-1) then ((f_R_has z16.1 4 1 z16.2).bind fun z17 => some z17) else (some z16.2))) else ((f_R_personLine N z1.1 z4.2).bind fun z18 => some z18)) else ((f_R_habitLine N z1.1 z3.2).bind fun z19 => some z19)) else ((rld z2.2 1 3).bind fun v20 => if v20 = 6 then ((f_R_wrong z1.1 z2.2).bind fun z21 => f_R_townLine_30 N z21) else (f_R_townLine_30 N z2.2))
abbrev rm_R_townLine : Room := { frames := 12, cells := 0, slots := 0, locals := 493 }
noncomputable def f_R_read_106 (N : Nat) (a0 : Int32) (k23 : Int32 → Int32 → Rho → Option (Int32 × Rho)) (x3 : Int32) (r : Rho) : Option (Int32 × Rho) :=
  k23 0 x3 r
noncomputable def f_R_read_80 (N : Nat) (a0 : Int32) (k23 : Int32 → Int32 → Rho → Option (Int32 × Rho)) (x2 : Int32) (x3 : Int32) (r : Rho) : Option (Int32 × Rho) :=
  (f_R_skip N r).bind fun z6 => if (z6.1 12) = (-1) then (if (z6.1 11) = (z6.1 10) then (f_R_read_106 N a0 k23 (x3 + 1) z6) else ((f_R_isSign N 59 z6).bind fun z7 => if z7.1 = 0 then ((f_R_wrong (z7.2.1 11) z7.2).bind fun z8 => k23 x2 (x3 + 1) z8) else (k23 x2 (x3 + 1) (r_set z7.2 11 ((z7.2.1 11) + 1))))) else (f_R_read_106 N a0 k23 (x3 + 1) z6)
noncomputable def f_R_read_51 (N : Nat) (a0 : Int32) (k23 : Int32 → Int32 → Rho → Option (Int32 × Rho)) (x2 : Int32) (x3 : Int32) (y0 : Int32) (y1 : Int32) (r : Rho) : Option (Int32 × Rho) :=
  if y0 = y1 then ((f_R_wrong (r.1 11) r).bind fun z5 => f_R_read_80 N a0 k23 x2 x3 z5) else (if a0 = 0 then ((f_R_townLine N r).bind fun z3 => f_R_read_80 N a0 k23 x2 x3 z3) else ((f_R_lawLine N r).bind fun z4 => f_R_read_80 N a0 k23 x2 x3 z4))
noncomputable def f_R_read_23 (N : Nat) (a0 : Int32) : Nat → Int32 → Int32 → Rho → Option (Int32 × Rho)
  | 0, _, _, _ => none
  | n + 1, x2, x3, r => if x2 = 0 then (some (x3, r)) else (if (r.1 12) = (-1) then ((f_R_skip N r).bind fun z2 => if a0 = 0 then (f_R_read_51 N a0 (f_R_read_23 N a0 n) x2 x3 x3 14 z2) else (f_R_read_51 N a0 (f_R_read_23 N a0 n) x2 x3 x3 12 z2)) else (some (x3, r)))
noncomputable def f_R_read_20 (N : Nat) (a0 : Int32) (y0 : Int32) (r : Rho) : Option (Int32 × Rho) :=
  f_R_read_23 N a0 N y0 0 r
noncomputable def f_R_read (N : Nat) (a0 : Int32) (r : Rho) : Option (Int32 × Rho) :=
  (f_R_skip N r).bind fun z1 => if (z1.1 10) ≤ (z1.1 11) then (f_R_read_20 N a0 0 z1) else (f_R_read_20 N a0 1 z1)
abbrev rm_R_read : Room := { frames := 184, cells := 0, slots := 0, locals := 7164 }
noncomputable def f_R_comesBack_2 (N : Nat) : Nat → Int32 → Rho → Option (Rho)
  | 0, _, _ => none
  | n + 1, x1, r => if 900 ≤ x1 then (some r) else ((rld r 4 x1).bind fun v1 => (rst r 1 x1 v1).bind fun r2 => f_R_comesBack_2 N n (x1 + 1) r2)
noncomputable def f_R_comesBack (N : Nat) (r : Rho) : Option (Rho) :=
  f_R_comesBack_2 N N 0 r
abbrev rm_R_comesBack : Room := { frames := 0, cells := 0, slots := 0, locals := 0 }
noncomputable def f_R_town_66 (N : Nat) (y1 : Int32) (r : Rho) : Option (Int32 × Rho) :=
  if ((r_set r 0 y1).1 0) ≤ 0 then ((rld (r_set r 0 y1) 1 0).bind fun v6 => (rst (r_set r 0 y1) 1 0 (v6 + 1)).bind fun r7 => (rld (r_set r7 6 0) 1 0).bind fun v8 => some (v8, r_set r7 6 0)) else ((f_R_comesBack N (r_set r 0 y1)).bind fun z9 => some (0, z9))
noncomputable def f_R_town_2 (N : Nat) : Nat → Int32 → Rho → Option (Int32 × Rho)
  | 0, _, _ => none
  | n + 1, x1, r => if 900 ≤ x1 then ((f_R_begins r).bind fun z1 => (f_R_read N 0 z1).bind fun z2 => if (z2.2.1 12) = (-1) then ((rld z2.2 1 0).bind fun v3 => if v3 = 12 then (f_R_town_66 N 2 z2.2) else (f_R_town_66 N 0 z2.2)) else (f_R_town_66 N 1 z2.2)) else ((rld r 1 x1).bind fun v4 => (rst r 4 x1 v4).bind fun r5 => f_R_town_2 N n (x1 + 1) r5)
noncomputable def f_R_town (N : Nat) (r : Rho) : Option (Int32 × Rho) :=
  f_R_town_2 N N 0 r
abbrev rm_R_town : Room := { frames := 185, cells := 0, slots := 0, locals := 7187 }
noncomputable def f_R_law_55 (N : Nat) : Nat → Int32 → Int32 → Rho → Option (Int32 × Rho)
  | 0, _, _, _ => none
  | n + 1, x1, x2, r => if (r.1 10) ≤ x2 then (some (x1, r_set r 6 0)) else ((rld r 7 x2).bind fun v5 => (rst r 1 (900 + x2) v5).bind fun r6 => f_R_law_55 N n x1 (x2 + 1) r6)
noncomputable def f_R_law_24 (N : Nat) (x1 : Int32) (y1 : Int32) (r : Rho) : Option (Int32 × Rho) :=
  if ((r_set r 0 y1).1 0) ≤ 0 then ((rst (r_set r 0 y1) 1 1 x1).bind fun r3 => (rst r3 1 2 (r3.1 10)).bind fun r4 => f_R_law_55 N N x1 0 r4) else (some (0, r_set r 0 y1))
noncomputable def f_R_law (N : Nat) (r : Rho) : Option (Int32 × Rho) :=
  (f_R_begins r).bind fun z1 => (f_R_read N 1 z1).bind fun z2 => if (z2.2.1 12) = (-1) then (f_R_law_24 N z2.1 0 z2.2) else (f_R_law_24 N z2.1 1 z2.2)
abbrev rm_R_law : Room := { frames := 185, cells := 0, slots := 0, locals := 7187 }
noncomputable def f_R_fault (r : Rho) : Option (Int32 × Rho) :=
  some ((r_set r 0 0).1 12, r_set r 0 0)
abbrev rm_R_fault : Room := { frames := 0, cells := 0, slots := 0, locals := 0 }
noncomputable def f_R_isCode (a0 : Int32) : Option (Int32) :=
  (f_R_isIn a0 0 31).bind fun z1 => (zg z1).bind fun z2 => some z2
abbrev rm_R_isCode : Room := { frames := 1, cells := 0, slots := 0, locals := 22 }
noncomputable def f_R_countOf (a0 : Int32) : Option (Int32) :=
  some (((a0 >>> (1 &&& 31)) &&& 3) + 1)
abbrev rm_R_countOf : Room := { frames := 0, cells := 0, slots := 0, locals := 0 }
noncomputable def f_R_costOf_74 (a0 : Int32) (a1 : Int32) (r : Rho) (y0 : Int32) (y1 : Int32) : Option (Int32) :=
  some (y0 + y1)
noncomputable def f_R_costOf_53 (a0 : Int32) (a1 : Int32) (r : Rho) (y0 : Int32) (y1 : Int32) : Option (Int32) :=
  if (a0 &&& 1) = (a1 &&& 1) then (f_R_costOf_74 a0 a1 r (y0 * y1) 0) else ((rld r 1 15).bind fun v5 => f_R_costOf_74 a0 a1 r (y0 * y1) v5)
noncomputable def f_R_costOf (a0 : Int32) (a1 : Int32) (r : Rho) : Option (Int32) :=
  if (a0 >>> (3 &&& 31)) = (a1 >>> (3 &&& 31)) then (if (a0 >>> (3 &&& 31)) = 2 then ((f_R_countOf a0).bind fun z1 => (f_R_countOf a1).bind fun z2 => (rld r 1 14).bind fun v3 => if 0 ≤ (z1 - z2) then (f_R_costOf_53 a0 a1 r v3 (z1 - z2)) else (f_R_costOf_53 a0 a1 r v3 (-(z1 - z2)))) else (some 0)) else ((rld r 1 13).bind fun v4 => some v4)
abbrev rm_R_costOf : Room := { frames := 1, cells := 0, slots := 0, locals := 20 }
noncomputable def f_R_cost_20 (a0 : Int32) (a1 : Int32) (y1 : Int32) (r : Rho) : Option (Int32 × Rho) :=
  if ((r_set r 0 y1).1 0) ≤ 0 then ((f_R_costOf a0 a1 (r_set r 0 y1)).bind fun z3 => some (z3, r_set r 0 y1)) else (some (0, r_set r 0 y1))
noncomputable def f_R_cost_15 (a0 : Int32) (a1 : Int32) (r : Rho) : Option (Int32 × Rho) :=
  f_R_cost_20 a0 a1 1 r
noncomputable def f_R_cost (a0 : Int32) (a1 : Int32) (r : Rho) : Option (Int32 × Rho) :=
  (f_R_isCode a0).bind fun z1 => if z1 = 0 then (f_R_cost_15 a0 a1 r) else ((f_R_isCode a1).bind fun z2 => if z2 = 0 then (f_R_cost_15 a0 a1 r) else (f_R_cost_20 a0 a1 0 r))
abbrev rm_R_cost : Room := { frames := 2, cells := 0, slots := 0, locals := 43 }
noncomputable def f_R_isLand (a0 : Int32) (r : Rho) : Option (Int32) :=
  (rld r 1 3).bind fun v1 => (f_R_isIn a0 0 (v1 - 1)).bind fun z2 => (zg z2).bind fun z3 => some z3
abbrev rm_R_isLand : Room := { frames := 1, cells := 0, slots := 0, locals := 22 }
noncomputable def f_R_weight_74 (N : Nat) (a0 : Int32) (a1 : Int32) (r : Rho) (k5 : Int32 → Int32 → Option (Int32)) (x4 : Int32) (y0 : Int32) (y1 : Int32) : Option (Int32) :=
  k5 (y0 + y1) (x4 + 1)
noncomputable def f_R_weight_73 (N : Nat) (a0 : Int32) (a1 : Int32) (r : Rho) (k5 : Int32 → Int32 → Option (Int32)) (x4 : Int32) (y0 : Int32) : Option (Int32) :=
  f_R_weight_74 N a0 a1 r k5 x4 y0 0
noncomputable def f_R_weight_56 (N : Nat) (a0 : Int32) (a1 : Int32) (r : Rho) (k5 : Int32 → Int32 → Option (Int32)) (x4 : Int32) (y0 : Int32) : Option (Int32) :=
  (rld r 1 ((20 + (3 * x4)) + 2)).bind fun v4 => f_R_weight_74 N a0 a1 r k5 x4 y0 v4
noncomputable def f_R_weight_5 (N : Nat) (a0 : Int32) (a1 : Int32) (r : Rho) : Nat → Int32 → Int32 → Option (Int32)
  | 0, _, _ => none
  | n + 1, x3, x4 => (rld r 1 4).bind fun v1 => if v1 ≤ x4 then (some x3) else ((rld r 1 (20 + (3 * x4))).bind fun v2 => if v2 = a0 then (if a1 = (-1) then (f_R_weight_56 N a0 a1 r (f_R_weight_5 N a0 a1 r n) x4 x3) else ((rld r 1 ((20 + (3 * x4)) + 1)).bind fun v3 => if v3 = a1 then (f_R_weight_56 N a0 a1 r (f_R_weight_5 N a0 a1 r n) x4 x3) else (f_R_weight_73 N a0 a1 r (f_R_weight_5 N a0 a1 r n) x4 x3))) else (f_R_weight_73 N a0 a1 r (f_R_weight_5 N a0 a1 r n) x4 x3))
noncomputable def f_R_weight (N : Nat) (a0 : Int32) (a1 : Int32) (r : Rho) : Option (Int32) :=
  f_R_weight_5 N a0 a1 r N 0 0
abbrev rm_R_weight : Room := { frames := 0, cells := 0, slots := 0, locals := 0 }
noncomputable def f_R_habit_21 (N : Nat) (a0 : Int32) (a1 : Int32) (y1 : Int32) (r : Rho) : Option (Int32 × Rho) :=
  if ((r_set r 0 y1).1 0) ≤ 0 then ((f_R_weight N a0 a1 (r_set r 0 y1)).bind fun z3 => some (z3, r_set r 0 y1)) else (some (0, r_set r 0 y1))
noncomputable def f_R_habit_16 (N : Nat) (a0 : Int32) (a1 : Int32) (r : Rho) : Option (Int32 × Rho) :=
  f_R_habit_21 N a0 a1 1 r
noncomputable def f_R_habit (N : Nat) (a0 : Int32) (a1 : Int32) (r : Rho) : Option (Int32 × Rho) :=
  (f_R_isLand a0 r).bind fun z1 => if z1 = 0 then (f_R_habit_16 N a0 a1 r) else ((f_R_isCode a1).bind fun z2 => if z2 = 0 then (f_R_habit_16 N a0 a1 r) else (f_R_habit_21 N a0 a1 0 r))
abbrev rm_R_habit : Room := { frames := 2, cells := 0, slots := 0, locals := 43 }
noncomputable def f_R_isPerson (a0 : Int32) (r : Rho) : Option (Int32) :=
  (rld r 1 5).bind fun v1 => (f_R_isIn a0 0 (v1 - 1)).bind fun z2 => (zg z2).bind fun z3 => some z3
abbrev rm_R_isPerson : Room := { frames := 1, cells := 0, slots := 0, locals := 22 }
noncomputable def f_R_of (a0 : Int32) (a1 : Int32) (r : Rho) : Option (Int32) :=
  (rld r 1 ((92 + (8 * a0)) + a1)).bind fun v1 => some v1
abbrev rm_R_of : Room := { frames := 0, cells := 0, slots := 0, locals := 0 }
noncomputable def f_R_tiedTo_31 (N : Nat) (a0 : Int32) (r : Rho) (k4 : Int32 → Int32 → Option (Int32)) (x3 : Int32) (y0 : Int32) (y1 : Int32) : Option (Int32) :=
  k4 (y0 ||| y1) (x3 + 1)
noncomputable def f_R_tiedTo_4 (N : Nat) (a0 : Int32) (r : Rho) : Nat → Int32 → Int32 → Option (Int32)
  | 0, _, _ => none
  | n + 1, x2, x3 => (rld r 1 5).bind fun v1 => if v1 ≤ x3 then (some x2) else ((f_R_areTied N a0 x3 r).bind fun z2 => if z2 = 0 then (f_R_tiedTo_31 N a0 r (f_R_tiedTo_4 N a0 r n) x3 x2 0) else (f_R_tiedTo_31 N a0 r (f_R_tiedTo_4 N a0 r n) x3 x2 (1 <<< (x3 &&& 31))))
noncomputable def f_R_tiedTo (N : Nat) (a0 : Int32) (r : Rho) : Option (Int32) :=
  f_R_tiedTo_4 N a0 r N 0 0
abbrev rm_R_tiedTo : Room := { frames := 2, cells := 0, slots := 0, locals := 44 }
noncomputable def f_R_person_28 (N : Nat) (a0 : Int32) (a1 : Int32) (y1 : Int32) (r : Rho) : Option (Int32 × Rho) :=
  if ((r_set r 0 y1).1 0) ≤ 0 then (if 5 ≤ a1 then (if a1 = 5 then ((f_R_tiedTo N a0 (r_set r 0 y1)).bind fun z4 => some (z4, r_set r 0 y1)) else ((f_R_of a0 5 (r_set r 0 y1)).bind fun z3 => some (z3, r_set r 0 y1))) else ((f_R_of a0 a1 (r_set r 0 y1)).bind fun z5 => some (z5, r_set r 0 y1))) else (some (0, r_set r 0 y1))
noncomputable def f_R_person (N : Nat) (a0 : Int32) (a1 : Int32) (r : Rho) : Option (Int32 × Rho) :=
  (f_R_isPerson a0 r).bind fun z1 => if z1 = 0 then (f_R_person_28 N a0 a1 1 r) else ((f_R_isIn a1 0 6).bind fun z2 => if z2 = 0 then (f_R_person_28 N a0 a1 2 r) else (f_R_person_28 N a0 a1 0 r))
abbrev rm_R_person : Room := { frames := 3, cells := 0, slots := 0, locals := 67 }
noncomputable def f_R_two (a0 : Int32) (a1 : Int32) (r : Rho) : Option (Int32) :=
  (f_R_isPerson a0 r).bind fun z1 => if z1 = 0 then (some 1) else ((f_R_isPerson a1 r).bind fun z2 => if z2 = 0 then (some 1) else (if a0 = a1 then (some 2) else (some 0)))
abbrev rm_R_two : Room := { frames := 2, cells := 0, slots := 0, locals := 43 }
noncomputable def f_R_saw_36 (a0 : Int32) (a1 : Int32) (a2 : Int32) (y1 : Int32) (r : Rho) : Option (Int32 × Rho) :=
  (rld r 1 ((y1 + (10 * a0)) + a1)).bind fun v2 => some (v2, r)
noncomputable def f_R_saw (a0 : Int32) (a1 : Int32) (a2 : Int32) (r : Rho) : Option (Int32 × Rho) :=
  (f_R_two a0 a1 r).bind fun z1 => if ((r_set r 0 z1).1 0) ≤ 0 then (if a2 = 0 then (f_R_saw_36 a0 a1 a2 272 (r_set r 0 z1)) else (f_R_saw_36 a0 a1 a2 172 (r_set r 0 z1))) else (some (0, r_set r 0 z1))
abbrev rm_R_saw : Room := { frames := 3, cells := 0, slots := 0, locals := 65 }
noncomputable def f_R_tie_23 (a0 : Int32) (a1 : Int32) (y1 : Int32) (r : Rho) : Option (Int32 × Rho) :=
  if ((r_set r 0 y1).1 0) ≤ 0 then (if a1 = 0 then ((f_R_who a0 (r_set r 0 y1)).bind fun z3 => some (z3, r_set r 0 y1)) else ((f_R_whom a0 (r_set r 0 y1)).bind fun z4 => some (z4, r_set r 0 y1))) else (some (0, r_set r 0 y1))
noncomputable def f_R_tie (a0 : Int32) (a1 : Int32) (r : Rho) : Option (Int32 × Rho) :=
  (rld r 1 6).bind fun v1 => (f_R_isIn a0 0 (v1 - 1)).bind fun z2 => if z2 = 0 then (f_R_tie_23 a0 a1 1 r) else (f_R_tie_23 a0 a1 0 r)
abbrev rm_R_tie : Room := { frames := 1, cells := 0, slots := 0, locals := 22 }
noncomputable def f_R_beginning_184 (N : Nat) (a0 : Int32) (a1 : Int32) (r : Rho) : Option (Int32 × Rho) :=
  if (r.1 17) = (-1) then ((rld r 1 ((272 + (10 * a0)) + a1)).bind fun v20 => if v20 = (-1) then ((f_R_of a0 1 r).bind fun z21 => some (z21, r)) else (some (v20, r))) else (some (r.1 17, r))
noncomputable def f_R_beginning_118 (N : Nat) (a0 : Int32) (a1 : Int32) (y1 : Int32) (r : Rho) : Option (Int32 × Rho) :=
  (rpZ r 16 y1).bind fun r16 => (rld (r_set r16 17 (-1)) 1 1).bind fun v17 => if v17 ≤ 0 then (f_R_beginning_184 N a0 a1 (r_set r16 17 (-1))) else ((rld (r_set (r_set (r_set r16 17 (-1)) 12 (-1)) 9 900) 1 2).bind fun v18 => (f_R_read N 1 (r_set (r_set (r_set (r_set (r_set (r_set r16 17 (-1)) 12 (-1)) 9 900) 10 v18) 11 0) 13 0)).bind fun z19 => f_R_beginning_184 N a0 a1 (r_set z19.2 12 ((r_set r16 17 (-1)).1 12)))
noncomputable def f_R_beginning_93 (N : Nat) (a0 : Int32) (a1 : Int32) (y1 : Int32) (r : Rho) : Option (Int32 × Rho) :=
  (rpZ r 15 y1).bind fun r13 => (f_R_of a0 4 r13).bind fun z14 => (f_R_of a1 4 r13).bind fun z15 => if (z14 + z15) ≤ 0 then (f_R_beginning_118 N a0 a1 0 r13) else (f_R_beginning_118 N a0 a1 1 r13)
noncomputable def f_R_beginning (N : Nat) (a0 : Int32) (a1 : Int32) (r : Rho) : Option (Int32 × Rho) :=
  (rst r 14 0 a0).bind fun r1 => (rst r1 14 1 a1).bind fun r2 => (f_R_of a0 2 r2).bind fun z3 => (rst r2 14 2 z3).bind fun r4 => (f_R_of a1 2 r4).bind fun z5 => (rst r4 14 3 z5).bind fun r6 => (rld r6 1 ((172 + (10 * a0)) + a1)).bind fun v7 => (rst r6 14 4 v7).bind fun r8 => (rld r8 1 7).bind fun v9 => (rst r8 14 5 v9).bind fun r10 => (f_R_of a0 0 r10).bind fun z11 => (f_R_of a1 0 r10).bind fun z12 => if z11 = z12 then (f_R_beginning_93 N a0 a1 1 r10) else (f_R_beginning_93 N a0 a1 0 r10)
abbrev rm_R_beginning : Room := { frames := 185, cells := 0, slots := 0, locals := 7187 }
noncomputable def f_R_will (N : Nat) (a0 : Int32) (a1 : Int32) (r : Rho) : Option (Int32 × Rho) :=
  (f_R_two a0 a1 r).bind fun z1 => if ((r_set r 0 z1).1 0) ≤ 0 then ((f_R_beginning N a0 a1 (r_set r 0 z1)).bind fun z2 => some (z2.1, z2.2)) else (some (0, r_set r 0 z1))
abbrev rm_R_will : Room := { frames := 186, cells := 0, slots := 0, locals := 7211 }
noncomputable def f_R_remembers_52 (N : Nat) : Nat → Int32 → Rho → Option (Rho)
  | 0, _, _ => none
  | n + 1, x1, r => if 900 ≤ x1 then (some (r_set r 6 ((r.1 6) + 1))) else ((rld r 1 x1).bind fun v3 => (rst r 5 ((900 * (r.1 6)) + x1) v3).bind fun r4 => f_R_remembers_52 N n (x1 + 1) r4)
noncomputable def f_R_remembers_50 (N : Nat) (r : Rho) : Option (Rho) :=
  f_R_remembers_52 N N 0 r
noncomputable def f_R_remembers_11 (N : Nat) : Nat → Int32 → Rho → Option (Rho)
  | 0, _, _ => none
  | n + 1, x1, r => if 9900 ≤ x1 then (f_R_remembers_50 N (r_set r 6 ((r.1 6) - 1))) else ((rld r 5 (x1 + 900)).bind fun v1 => (rst r 5 x1 v1).bind fun r2 => f_R_remembers_11 N n (x1 + 1) r2)
noncomputable def f_R_remembers (N : Nat) (r : Rho) : Option (Rho) :=
  if (r.1 6) = 12 then (f_R_remembers_11 N N 0 r) else (f_R_remembers_50 N r)
abbrev rm_R_remembers : Room := { frames := 0, cells := 0, slots := 0, locals := 0 }
noncomputable def f_R_lesser (a0 : Int32) (a1 : Int32) : Option (Int32) :=
  if a1 ≤ a0 then (some a1) else (some a0)
abbrev rm_R_lesser : Room := { frames := 0, cells := 0, slots := 0, locals := 0 }
noncomputable def f_R_greater (a0 : Int32) (a1 : Int32) : Option (Int32) :=
  if a0 ≤ a1 then (some a1) else (some a0)
abbrev rm_R_greater : Room := { frames := 0, cells := 0, slots := 0, locals := 0 }
noncomputable def f_R_isBent (a0 : Int32) (r : Rho) : Option (Int32 × Rho) :=
  (rld r 1 16).bind fun v1 => (rst r 1 16 ((1103515245 * v1) + 12345)).bind fun r2 => (rld r2 1 16).bind fun v3 => (f_R_of a0 3 r2).bind fun z4 => if z4 ≤ (((ushr v3 16) &&& 32767) - ((ushr v3 16) &&& 32767) / 100 * 100) then (some (0, r2)) else (some (1, r2))
abbrev rm_R_isBent : Room := { frames := 1, cells := 0, slots := 0, locals := 22 }
noncomputable def f_R_sees_53 (a0 : Int32) (a1 : Int32) (a2 : Int32) (r : Rho) : Option (Rho) :=
  (f_R_of a0 6 r).bind fun z6 => (f_R_has a0 7 z6 r).bind fun z7 => (f_R_has a0 6 a2 z7).bind fun z8 => (f_R_of a0 5 z8).bind fun z9 => (f_R_has a0 5 (z9 + 1) z8).bind fun z10 => some z10
noncomputable def f_R_sees (a0 : Int32) (a1 : Int32) (a2 : Int32) (r : Rho) : Option (Rho) :=
  (rld r 1 ((172 + (10 * a0)) + a1)).bind fun v1 => (f_R_meets a0 a1 (v1 + 1) a2 r).bind fun z2 => (f_R_of a0 6 z2).bind fun z3 => if z3 = a2 then ((f_R_of a0 7 z2).bind fun z4 => if z4 = a2 then ((f_R_has a0 1 a2 z2).bind fun z5 => f_R_sees_53 a0 a1 a2 z5) else (f_R_sees_53 a0 a1 a2 z2)) else (f_R_sees_53 a0 a1 a2 z2)
abbrev rm_R_sees : Room := { frames := 1, cells := 0, slots := 0, locals := 24 }
noncomputable def f_R_meeting_301 (N : Nat) (a0 : Int32) (a1 : Int32) : Nat → Int32 → Int32 → Int32 → Int32 → Int32 → Int32 → Int32 → Int32 → Rho → Option (Int32 × Rho)
  | 0, _, _, _, _, _, _, _, _, _ => none
  | n + 1, x3, x4, x5, x6, x7, x10, x11, x12, r => if x12 < 8 then ((rld r 1 7).bind fun v27 => (rst r 1 420 v27).bind fun r28 => (rst r28 1 421 x3).bind fun r29 => (rst r29 1 422 x4).bind fun r30 => (rst r30 1 423 x5).bind fun r31 => (rst r31 1 424 x6).bind fun r32 => (rst r32 1 425 x10).bind fun r33 => (rst r33 1 426 x11).bind fun r34 => (rst r34 1 427 x7).bind fun r35 => (rld r35 1 12).bind fun v36 => (f_R_lesser 60 (v36 + 1)).bind fun z37 => (rst r35 1 12 z37).bind fun r38 => some (x7, r38)) else ((rld r 1 ((420 + x12) - 8)).bind fun v39 => (rst r 1 (420 + x12) v39).bind fun r40 => f_R_meeting_301 N a0 a1 n x3 x4 x5 x6 x7 x10 x11 (x12 + (-1)) r40)
noncomputable def f_R_meeting_271 (N : Nat) (a0 : Int32) (a1 : Int32) (x3 : Int32) (x4 : Int32) (x5 : Int32) (x6 : Int32) (x7 : Int32) (x10 : Int32) (x11 : Int32) (y1 : Int32) (y2 : Int32) (y3 : Int32) (r : Rho) : Option (Int32 × Rho) :=
  (rst r 1 y1 (y2 + y3)).bind fun r21 => (rld r21 1 11).bind fun v22 => (f_R_countOf x10).bind fun z23 => (f_R_countOf x11).bind fun z24 => (f_R_greater z23 z24).bind fun z25 => (rst r21 1 11 (v22 + z25)).bind fun r26 => f_R_meeting_301 N a0 a1 N x3 x4 x5 x6 x7 x10 x11 479 r26
noncomputable def f_R_meeting_229 (N : Nat) (a0 : Int32) (a1 : Int32) (x3 : Int32) (x4 : Int32) (x5 : Int32) (x6 : Int32) (x7 : Int32) (x9 : Int32) (x10 : Int32) (x11 : Int32) (r : Rho) : Option (Int32 × Rho) :=
  (rld r 1 8).bind fun v16 => (rst r 1 8 (v16 + 1)).bind fun r17 => (rld r17 1 9).bind fun v18 => (rst r17 1 9 (v18 + x7)).bind fun r19 => (rld r19 1 10).bind fun v20 => if x9 = (-1) then (f_R_meeting_271 N a0 a1 x3 x4 x5 x6 x7 x10 x11 10 v20 0 r19) else (f_R_meeting_271 N a0 a1 x3 x4 x5 x6 x7 x10 x11 10 v20 1 r19)
noncomputable def f_R_meeting_163 (N : Nat) (a0 : Int32) (a1 : Int32) (x3 : Int32) (x4 : Int32) (x5 : Int32) (x6 : Int32) (x9 : Int32) (x10 : Int32) (x11 : Int32) (y0 : Int32) (r : Rho) : Option (Int32 × Rho) :=
  (f_R_sees x3 x4 x11 r).bind fun z10 => (f_R_sees x4 x3 x10 z10).bind fun z11 => (f_R_of x3 4 z11).bind fun z12 => (f_R_of x4 4 z11).bind fun z13 => if (z12 + z13) ≤ 0 then (f_R_meeting_229 N a0 a1 x3 x4 x5 x6 y0 x9 x10 x11 z11) else (if (x10 >>> (3 &&& 31)) = 0 then (f_R_meeting_229 N a0 a1 x3 x4 x5 x6 y0 x9 x10 x11 z11) else (if (x11 >>> (3 &&& 31)) = 0 then (f_R_meeting_229 N a0 a1 x3 x4 x5 x6 y0 x9 x10 x11 z11) else ((f_R_has x3 4 1 z11).bind fun z14 => (f_R_has x4 4 1 z14).bind fun z15 => f_R_meeting_229 N a0 a1 x3 x4 x5 x6 y0 x9 x10 x11 z15)))
noncomputable def f_R_meeting_146 (N : Nat) (a0 : Int32) (a1 : Int32) (x3 : Int32) (x4 : Int32) (x5 : Int32) (x6 : Int32) (x7 : Int32) (x9 : Int32) (x10 : Int32) (y0 : Int32) (r : Rho) : Option (Int32 × Rho) :=
  if x9 = (-1) then (f_R_meeting_163 N a0 a1 x3 x4 x5 x6 x9 x10 y0 x7 r) else (f_R_meeting_163 N a0 a1 x3 x4 x5 x6 x9 x10 y0 (x7 / 2) r)
noncomputable def f_R_meeting_130 (N : Nat) (a0 : Int32) (a1 : Int32) (x3 : Int32) (x4 : Int32) (x5 : Int32) (x6 : Int32) (x7 : Int32) (x9 : Int32) (y0 : Int32) (r : Rho) : Option (Int32 × Rho) :=
  if x9 = x4 then (f_R_meeting_146 N a0 a1 x3 x4 x5 x6 x7 x9 y0 x5 r) else (f_R_meeting_146 N a0 a1 x3 x4 x5 x6 x7 x9 y0 x6 r)
noncomputable def f_R_meeting_117 (N : Nat) (a0 : Int32) (a1 : Int32) (x3 : Int32) (x4 : Int32) (x5 : Int32) (x6 : Int32) (x7 : Int32) (x9 : Int32) (r : Rho) : Option (Int32 × Rho) :=
  if x9 = x3 then (f_R_meeting_130 N a0 a1 x3 x4 x5 x6 x7 x9 x6 r) else (f_R_meeting_130 N a0 a1 x3 x4 x5 x6 x7 x9 x5 r)
noncomputable def f_R_meeting_89 (N : Nat) (a0 : Int32) (a1 : Int32) (x3 : Int32) (x4 : Int32) (x5 : Int32) (x6 : Int32) (x7 : Int32) (x8 : Int32) (x9 : Int32) (r : Rho) : Option (Int32 × Rho) :=
  if x7 ≤ 0 then (f_R_meeting_117 N a0 a1 x3 x4 x5 x6 x7 x9 r) else ((f_R_isBent ((x3 + x4) - x8) r).bind fun z9 => if z9.1 = 0 then (f_R_meeting_117 N a0 a1 x3 x4 x5 x6 x7 x9 z9.2) else (f_R_meeting_117 N a0 a1 x3 x4 x5 x6 x7 ((x3 + x4) - x8) z9.2))
noncomputable def f_R_meeting_63 (N : Nat) (a0 : Int32) (a1 : Int32) (x3 : Int32) (x4 : Int32) (x5 : Int32) (x6 : Int32) (x7 : Int32) (y0 : Int32) (r : Rho) : Option (Int32 × Rho) :=
  if x7 ≤ 0 then (f_R_meeting_89 N a0 a1 x3 x4 x5 x6 x7 y0 (-1) r) else ((f_R_isBent y0 r).bind fun z8 => if z8.1 = 0 then (f_R_meeting_89 N a0 a1 x3 x4 x5 x6 x7 y0 (-1) z8.2) else (f_R_meeting_117 N a0 a1 x3 x4 x5 x6 x7 y0 z8.2))
noncomputable def f_R_meeting (N : Nat) (a0 : Int32) (a1 : Int32) (r : Rho) : Option (Int32 × Rho) :=
  (f_R_lesser a0 a1).bind fun z1 => (f_R_greater a0 a1).bind fun z2 => (f_R_beginning N z1 z2 r).bind fun z3 => (f_R_beginning N z2 z1 z3.2).bind fun z4 => (f_R_costOf z3.1 z4.1 z4.2).bind fun z5 => (f_R_of z2 2 z4.2).bind fun z6 => (f_R_of z1 2 z4.2).bind fun z7 => if z7 ≤ z6 then (f_R_meeting_63 N a0 a1 z1 z2 z3.1 z4.1 z5 z1 z4.2) else (f_R_meeting_63 N a0 a1 z1 z2 z3.1 z4.1 z5 z2 z4.2)
abbrev rm_R_meeting : Room := { frames := 186, cells := 0, slots := 0, locals := 7211 }
noncomputable def f_R_meet (N : Nat) (a0 : Int32) (a1 : Int32) (r : Rho) : Option (Int32 × Rho) :=
  (f_R_two a0 a1 r).bind fun z1 => if ((r_set r 0 z1).1 0) ≤ 0 then ((f_R_remembers N (r_set r 0 z1)).bind fun z2 => (f_R_meeting N a0 a1 z2).bind fun z3 => some (z3.1, z3.2)) else (some (0, r_set r 0 z1))
abbrev rm_R_meet : Room := { frames := 187, cells := 0, slots := 0, locals := 7243 }
noncomputable def f_R_goes_12 (N : Nat) (a0 : Int32) (k4 : Int32 → Int32 → Rho → Option (Int32 × Rho)) : Nat → Int32 → Int32 → Int32 → Rho → Option (Int32 × Rho)
  | 0, _, _, _, _ => none
  | n + 1, x2, x3, x4, r => (rld r 1 6).bind fun v1 => if v1 ≤ x4 then ((rld r 1 7).bind fun v2 => (rst r 1 7 (v2 + 1)).bind fun r3 => k4 x2 (x3 + 1) r3) else ((f_R_who x4 r).bind fun z4 => (f_R_whom x4 r).bind fun z5 => (f_R_meeting N z4 z5 r).bind fun z6 => f_R_goes_12 N a0 k4 n (x2 + z6.1) x3 (x4 + 1) z6.2)
noncomputable def f_R_goes_4 (N : Nat) (a0 : Int32) : Nat → Int32 → Int32 → Rho → Option (Int32 × Rho)
  | 0, _, _, _ => none
  | n + 1, x2, x3, r => if a0 ≤ x3 then (some (x2, r)) else (f_R_goes_12 N a0 (f_R_goes_4 N a0 n) N x2 x3 0 r)
noncomputable def f_R_goes (N : Nat) (a0 : Int32) (r : Rho) : Option (Int32 × Rho) :=
  f_R_goes_4 N a0 N 0 0 r
abbrev rm_R_goes : Room := { frames := 187, cells := 0, slots := 0, locals := 7243 }
noncomputable def f_R_rounds_16 (N : Nat) (a0 : Int32) (y1 : Int32) (r : Rho) : Option (Int32 × Rho) :=
  if ((r_set r 0 y1).1 0) ≤ 0 then ((f_R_remembers N (r_set r 0 y1)).bind fun z2 => (f_R_goes N a0 z2).bind fun z3 => some (z3.1, z3.2)) else (some (0, r_set r 0 y1))
noncomputable def f_R_rounds (N : Nat) (a0 : Int32) (r : Rho) : Option (Int32 × Rho) :=
  (f_R_isIn a0 1 50).bind fun z1 => if z1 = 0 then (f_R_rounds_16 N a0 1 r) else (f_R_rounds_16 N a0 0 r)
abbrev rm_R_rounds : Room := { frames := 188, cells := 0, slots := 0, locals := 7267 }
noncomputable def f_R_own_21 (N : Nat) (a0 : Int32) (a1 : Int32) (y1 : Int32) (r : Rho) : Option (Int32 × Rho) :=
  if ((r_set r 0 y1).1 0) ≤ 0 then ((f_R_remembers N (r_set r 0 y1)).bind fun z3 => (f_R_of a0 1 z3).bind fun z4 => (f_R_has a0 1 a1 z3).bind fun z5 => some (z4, z5)) else (some (0, r_set r 0 y1))
noncomputable def f_R_own_16 (N : Nat) (a0 : Int32) (a1 : Int32) (r : Rho) : Option (Int32 × Rho) :=
  f_R_own_21 N a0 a1 1 r
noncomputable def f_R_own (N : Nat) (a0 : Int32) (a1 : Int32) (r : Rho) : Option (Int32 × Rho) :=
  (f_R_isPerson a0 r).bind fun z1 => if z1 = 0 then (f_R_own_16 N a0 a1 r) else ((f_R_isCode a1).bind fun z2 => if z2 = 0 then (f_R_own_16 N a0 a1 r) else (f_R_own_21 N a0 a1 0 r))
abbrev rm_R_own : Room := { frames := 2, cells := 0, slots := 0, locals := 43 }
noncomputable def f_R_cold_58 (N : Nat) (a0 : Int32) (a1 : Int32) (x3 : Int32) (y1 : Int32) (y2 : Int32) (y3 : Int32) (r : Rho) : Option (Int32 × Rho) :=
  (f_R_has y1 y2 y3 r).bind fun z4 => (zg x3).bind fun z5 => some (z5, z4)
noncomputable def f_R_cold_45 (N : Nat) (a0 : Int32) (a1 : Int32) (y0 : Int32) (r : Rho) : Option (Int32 × Rho) :=
  if a1 = 0 then (f_R_cold_58 N a0 a1 y0 a0 4 0 r) else (f_R_cold_58 N a0 a1 y0 a0 4 1 r)
noncomputable def f_R_cold_14 (N : Nat) (a0 : Int32) (a1 : Int32) (y1 : Int32) (r : Rho) : Option (Int32 × Rho) :=
  if ((r_set r 0 y1).1 0) ≤ 0 then ((f_R_remembers N (r_set r 0 y1)).bind fun z2 => (f_R_of a0 4 z2).bind fun z3 => if z3 = 1 then (f_R_cold_45 N a0 a1 1 z2) else (f_R_cold_45 N a0 a1 0 z2)) else (some (0, r_set r 0 y1))
noncomputable def f_R_cold (N : Nat) (a0 : Int32) (a1 : Int32) (r : Rho) : Option (Int32 × Rho) :=
  (f_R_isPerson a0 r).bind fun z1 => if z1 = 0 then (f_R_cold_14 N a0 a1 1 r) else (f_R_cold_14 N a0 a1 0 r)
abbrev rm_R_cold : Room := { frames := 2, cells := 0, slots := 0, locals := 43 }
noncomputable def f_R_ties_49 (N : Nat) (a0 : Int32) (a1 : Int32) (y1 : Int32) (r : Rho) : Option (Int32 × Rho) :=
  if ((r_set r 0 y1).1 0) ≤ 0 then ((f_R_remembers N (r_set r 0 y1)).bind fun z5 => (f_R_binds a0 a1 z5).bind fun z6 => (rld z6 1 6).bind fun v7 => some (v7 - 1, z6)) else (some (0, r_set r 0 y1))
noncomputable def f_R_ties (N : Nat) (a0 : Int32) (a1 : Int32) (r : Rho) : Option (Int32 × Rho) :=
  (f_R_two a0 a1 r).bind fun z1 => if z1 ≤ 0 then ((f_R_areTied N a0 a1 r).bind fun z2 => if z2 = 0 then ((rld r 1 6).bind fun v3 => if v3 = 24 then (f_R_ties_49 N a0 a1 4 r) else (f_R_ties_49 N a0 a1 0 r)) else (f_R_ties_49 N a0 a1 3 r)) else ((f_R_two a0 a1 r).bind fun z4 => f_R_ties_49 N a0 a1 z4 r)
abbrev rm_R_ties : Room := { frames := 3, cells := 0, slots := 0, locals := 65 }
noncomputable def f_R_cut_54 (N : Nat) (a0 : Int32) : Nat → Int32 → Rho → Option (Int32 × Rho)
  | 0, _, _ => none
  | n + 1, x2, r => (rld r 1 6).bind fun v6 => if (2 * v6) ≤ x2 then ((rld r 1 6).bind fun v7 => some (v7, r)) else ((rld r 1 ((372 + x2) + 2)).bind fun v8 => (rst r 1 (372 + x2) v8).bind fun r9 => f_R_cut_54 N a0 n (x2 + 1) r9)
noncomputable def f_R_cut_23 (N : Nat) (a0 : Int32) (y1 : Int32) (r : Rho) : Option (Int32 × Rho) :=
  if ((r_set r 0 y1).1 0) ≤ 0 then ((f_R_remembers N (r_set r 0 y1)).bind fun z3 => (rld z3 1 6).bind fun v4 => (rst z3 1 6 (v4 - 1)).bind fun r5 => f_R_cut_54 N a0 N (2 * a0) r5) else (some (0, r_set r 0 y1))
noncomputable def f_R_cut (N : Nat) (a0 : Int32) (r : Rho) : Option (Int32 × Rho) :=
  (rld r 1 6).bind fun v1 => (f_R_isIn a0 0 (v1 - 1)).bind fun z2 => if z2 = 0 then (f_R_cut_23 N a0 1 r) else (f_R_cut_23 N a0 0 r)
abbrev rm_R_cut : Room := { frames := 1, cells := 0, slots := 0, locals := 22 }
noncomputable def f_R_isOf (a0 : Int32) (a1 : Int32) : Option (Int32) :=
  if ((a0 >>> (a1 &&& 31)) &&& 1) = 1 then (some 1) else (some 0)
abbrev rm_R_isOf : Room := { frames := 0, cells := 0, slots := 0, locals := 0 }
noncomputable def f_R_feast_77 (N : Nat) (a0 : Int32) (a1 : Int32) (k34 : Int32 → Int32 → Rho → Option (Int32 × Rho)) (x4 : Int32) (y0 : Int32) (y1 : Int32) (r : Rho) : Option (Int32 × Rho) :=
  (f_R_has x4 1 a1 r).bind fun z6 => k34 (y0 ||| y1) (x4 + 1) z6
noncomputable def f_R_feast_34 (N : Nat) (a0 : Int32) (a1 : Int32) : Nat → Int32 → Int32 → Rho → Option (Int32 × Rho)
  | 0, _, _, _ => none
  | n + 1, x3, x4, r => (rld r 1 5).bind fun v3 => if v3 ≤ x4 then (some (x3, r)) else ((f_R_isOf a0 x4).bind fun z4 => if z4 = 0 then (f_R_feast_34 N a0 a1 n x3 (x4 + 1) r) else ((f_R_of x4 1 r).bind fun z5 => if z5 = a1 then (f_R_feast_77 N a0 a1 (f_R_feast_34 N a0 a1 n) x4 x3 0 r) else (f_R_feast_77 N a0 a1 (f_R_feast_34 N a0 a1 n) x4 x3 (1 <<< (x4 &&& 31)) r)))
noncomputable def f_R_feast_13 (N : Nat) (a0 : Int32) (a1 : Int32) (y1 : Int32) (r : Rho) : Option (Int32 × Rho) :=
  if ((r_set r 0 y1).1 0) ≤ 0 then ((f_R_remembers N (r_set r 0 y1)).bind fun z2 => f_R_feast_34 N a0 a1 N 0 0 z2) else (some (0, r_set r 0 y1))
noncomputable def f_R_feast (N : Nat) (a0 : Int32) (a1 : Int32) (r : Rho) : Option (Int32 × Rho) :=
  (f_R_isCode a1).bind fun z1 => if z1 = 0 then (f_R_feast_13 N a0 a1 1 r) else (f_R_feast_13 N a0 a1 0 r)
abbrev rm_R_feast : Room := { frames := 2, cells := 0, slots := 0, locals := 42 }
noncomputable def f_R_expects_71 (N : Nat) (a0 : Int32) (a1 : Int32) (r : Rho) (k5 : Int32 → Int32 → Option (Int32)) (x4 : Int32) (y0 : Int32) (y1 : Int32) : Option (Int32) :=
  k5 (y0 + y1) (x4 + 1)
noncomputable def f_R_expects_5 (N : Nat) (a0 : Int32) (a1 : Int32) (r : Rho) : Nat → Int32 → Int32 → Option (Int32)
  | 0, _, _ => none
  | n + 1, x3, x4 => (rld r 1 4).bind fun v1 => if v1 ≤ x4 then (some x3) else ((rld r 1 (20 + (3 * x4))).bind fun v2 => if v2 = a0 then ((rld r 1 ((20 + (3 * x4)) + 2)).bind fun v3 => (rld r 1 ((20 + (3 * x4)) + 1)).bind fun v4 => (f_R_costOf a1 v4 r).bind fun z5 => f_R_expects_71 N a0 a1 r (f_R_expects_5 N a0 a1 r n) x4 x3 (v3 * z5)) else (f_R_expects_71 N a0 a1 r (f_R_expects_5 N a0 a1 r n) x4 x3 0))
noncomputable def f_R_expects (N : Nat) (a0 : Int32) (a1 : Int32) (r : Rho) : Option (Int32) :=
  f_R_expects_5 N a0 a1 r N 0 0
abbrev rm_R_expects : Room := { frames := 2, cells := 0, slots := 0, locals := 43 }
noncomputable def f_R_expected_21 (N : Nat) (a0 : Int32) (a1 : Int32) (y1 : Int32) (r : Rho) : Option (Int32 × Rho) :=
  if ((r_set r 0 y1).1 0) ≤ 0 then ((f_R_expects N a0 a1 (r_set r 0 y1)).bind fun z3 => some (z3, r_set r 0 y1)) else (some (0, r_set r 0 y1))
noncomputable def f_R_expected_16 (N : Nat) (a0 : Int32) (a1 : Int32) (r : Rho) : Option (Int32 × Rho) :=
  f_R_expected_21 N a0 a1 1 r
noncomputable def f_R_expected (N : Nat) (a0 : Int32) (a1 : Int32) (r : Rho) : Option (Int32 × Rho) :=
  (f_R_isLand a0 r).bind fun z1 => if z1 = 0 then (f_R_expected_16 N a0 a1 r) else ((f_R_isCode a1).bind fun z2 => if z2 = 0 then (f_R_expected_16 N a0 a1 r) else (f_R_expected_21 N a0 a1 0 r))
abbrev rm_R_expected : Room := { frames := 3, cells := 0, slots := 0, locals := 67 }
noncomputable def f_R_bestOf_4 (N : Nat) (a0 : Int32) (r : Rho) : Nat → Int32 → Int32 → Option (Int32)
  | 0, _, _ => none
  | n + 1, x2, x3 => if 32 ≤ x3 then (some x2) else ((f_R_expects N a0 x3 r).bind fun z1 => (f_R_expects N a0 x2 r).bind fun z2 => if z2 ≤ z1 then (f_R_bestOf_4 N a0 r n x2 (x3 + 1)) else (f_R_bestOf_4 N a0 r n x3 (x3 + 1)))
noncomputable def f_R_bestOf (N : Nat) (a0 : Int32) (r : Rho) : Option (Int32) :=
  f_R_bestOf_4 N a0 r N 0 1
abbrev rm_R_bestOf : Room := { frames := 3, cells := 0, slots := 0, locals := 67 }
noncomputable def f_R_best_14 (N : Nat) (a0 : Int32) (y1 : Int32) (r : Rho) : Option (Int32 × Rho) :=
  if ((r_set r 0 y1).1 0) ≤ 0 then ((f_R_bestOf N a0 (r_set r 0 y1)).bind fun z2 => some (z2, r_set r 0 y1)) else (some (0, r_set r 0 y1))
noncomputable def f_R_best (N : Nat) (a0 : Int32) (r : Rho) : Option (Int32 × Rho) :=
  (f_R_isLand a0 r).bind fun z1 => if z1 = 0 then (f_R_best_14 N a0 1 r) else (f_R_best_14 N a0 0 r)
abbrev rm_R_best : Room := { frames := 4, cells := 0, slots := 0, locals := 90 }
noncomputable def f_R_dearest_4 (N : Nat) (a0 : Int32) (r : Rho) : Nat → Int32 → Int32 → Option (Int32)
  | 0, _, _ => none
  | n + 1, x2, x3 => (rld r 1 4).bind fun v1 => if v1 ≤ x3 then (some x2) else ((rld r 1 ((20 + (3 * x3)) + 1)).bind fun v2 => (f_R_costOf a0 v2 r).bind fun z3 => (f_R_greater x2 z3).bind fun z4 => f_R_dearest_4 N a0 r n z4 (x3 + 1))
noncomputable def f_R_dearest (N : Nat) (a0 : Int32) (r : Rho) : Option (Int32) :=
  f_R_dearest_4 N a0 r N 0 0
abbrev rm_R_dearest : Room := { frames := 2, cells := 0, slots := 0, locals := 43 }
noncomputable def f_R_safest_9 (N : Nat) (a0 : Int32) : Nat → Int32 → Int32 → Rho → Option (Int32 × Rho)
  | 0, _, _, _ => none
  | n + 1, x2, x3, r => if 32 ≤ x3 then (if a0 = 0 then (some (x2, r)) else ((f_R_dearest N x2 r).bind fun z1 => some (z1, r))) else ((f_R_dearest N x3 r).bind fun z2 => (f_R_dearest N x2 r).bind fun z3 => if z3 ≤ z2 then (f_R_safest_9 N a0 n x2 (x3 + 1) r) else (f_R_safest_9 N a0 n x3 (x3 + 1) r))
noncomputable def f_R_safest (N : Nat) (a0 : Int32) (r : Rho) : Option (Int32 × Rho) :=
  f_R_safest_9 N a0 N 0 1 (r_set r 0 0)
abbrev rm_R_safest : Room := { frames := 3, cells := 0, slots := 0, locals := 66 }
noncomputable def f_R_odds_21 (N : Nat) (a0 : Int32) (a1 : Int32) (y1 : Int32) (r : Rho) : Option (Int32 × Rho) :=
  if 0 < ((r_set r 0 y1).1 0) then (some (0, r_set r 0 y1)) else ((f_R_weight N a0 (-1) (r_set r 0 y1)).bind fun z3 => if z3 = 0 then (some (0, r_set r 0 y1)) else ((f_R_weight N a0 a1 (r_set r 0 y1)).bind fun z4 => (f_R_weight N a0 (-1) (r_set r 0 y1)).bind fun z5 => (nz z5).bind fun _ => some ((10000 * z4) / z5, r_set r 0 y1)))
noncomputable def f_R_odds_16 (N : Nat) (a0 : Int32) (a1 : Int32) (r : Rho) : Option (Int32 × Rho) :=
  f_R_odds_21 N a0 a1 1 r
noncomputable def f_R_odds (N : Nat) (a0 : Int32) (a1 : Int32) (r : Rho) : Option (Int32 × Rho) :=
  (f_R_isLand a0 r).bind fun z1 => if z1 = 0 then (f_R_odds_16 N a0 a1 r) else ((f_R_isCode a1).bind fun z2 => if z2 = 0 then (f_R_odds_16 N a0 a1 r) else (f_R_odds_21 N a0 a1 0 r))
abbrev rm_R_odds : Room := { frames := 2, cells := 0, slots := 0, locals := 43 }
noncomputable def f_R_likely_31 (N : Nat) (a0 : Int32) (a1 : Int32) (a2 : Int32) (r : Rho) (k6 : Int64 → Int32 → Option (Int64)) (x6 : Int32) (y0 : Int64) (y2 : Int32) (y3 : Int32) : Option (Int64) :=
  (f_R_weight N y2 y3 r).bind fun z3 => k6 (y0 * (Int32.toInt64 z3)) (x6 + 1)
noncomputable def f_R_likely_6 (N : Nat) (a0 : Int32) (a1 : Int32) (a2 : Int32) (r : Rho) : Nat → Int64 → Int32 → Option (Int64)
  | 0, _, _ => none
  | n + 1, x4, x6 => if a1 ≤ x6 then ((f_R_weight N a0 (-1) r).bind fun z1 => if z1 = 0 then (if a2 = 0 then (some 0) else (some x4)) else (some x4)) else (if a2 = 0 then ((rld r 7 x6).bind fun v2 => f_R_likely_31 N a0 a1 a2 r (f_R_likely_6 N a0 a1 a2 r n) x6 x4 a0 v2) else (f_R_likely_31 N a0 a1 a2 r (f_R_likely_6 N a0 a1 a2 r n) x6 x4 a0 (-1)))
noncomputable def f_R_likely (N : Nat) (a0 : Int32) (a1 : Int32) (a2 : Int32) (r : Rho) : Option (Int64) :=
  f_R_likely_6 N a0 a1 a2 r N 1 0
abbrev rm_R_likely : Room := { frames := 1, cells := 0, slots := 0, locals := 24 }
noncomputable def f_R_from_162 (N : Nat) (a0 : Int32) (k82 : Int32 → Int32 → Int32 → Int32 → Rho → Option (Int32 × Rho)) (x2 : Int32) (x4 : Int32) (x6 : Int32) (r : Rho) : Option (Int32 × Rho) :=
  k82 x2 x4 x6 (x6 + 1) r
noncomputable def f_R_from_82 (N : Nat) (a0 : Int32) : Nat → Int32 → Int32 → Int32 → Int32 → Rho → Option (Int32 × Rho)
  | 0, _, _, _, _, _ => none
  | n + 1, x2, x4, x5, x6, r => (rld r 1 3).bind fun v3 => if v3 ≤ x6 then (if a0 = 0 then (some (x4, r)) else (some (x5, r))) else ((f_R_likely N x6 x2 0 r).bind fun z4 => if (lg_cmp z4 0) = 0 then (f_R_from_82 N a0 n x2 x4 x5 (x6 + 1) r) else (if x5 = (-1) then (f_R_from_162 N a0 (f_R_from_82 N a0 n) x2 (x4 ||| (1 <<< (x6 &&& 31))) x6 r) else ((f_R_likely N x6 x2 0 r).bind fun z5 => (f_R_likely N x5 x2 1 r).bind fun z6 => (f_R_likely N x5 x2 0 r).bind fun z7 => (f_R_likely N x6 x2 1 r).bind fun z8 => if (lg_cmp (z5 * z6) (z7 * z8)) ≤ 0 then (f_R_from_82 N a0 n x2 (x4 ||| (1 <<< (x6 &&& 31))) x5 (x6 + 1) r) else (f_R_from_162 N a0 (f_R_from_82 N a0 n) x2 (x4 ||| (1 <<< (x6 &&& 31))) x6 r))))
noncomputable def f_R_from_61 (N : Nat) (a0 : Int32) (x2 : Int32) (y1 : Int32) (r : Rho) : Option (Int32 × Rho) :=
  if ((r_set r 0 y1).1 0) ≤ 0 then (f_R_from_82 N a0 N x2 0 (-1) 0 (r_set r 0 y1)) else (some (0, r_set r 0 y1))
noncomputable def f_R_from_51 (N : Nat) (a0 : Int32) (x2 : Int32) (x3 : Int32) (r : Rho) : Option (Int32 × Rho) :=
  if x3 = 0 then (f_R_from_61 N a0 x2 1 r) else (f_R_from_61 N a0 x2 0 r)
noncomputable def f_R_from_24 (N : Nat) (a0 : Int32) : Nat → Int32 → Int32 → Int32 → Rho → Option (Int32 × Rho)
  | 0, _, _, _, _ => none
  | n + 1, x2, x3, x4, r => if x2 ≤ x4 then (f_R_from_51 N a0 x2 x3 r) else (if x3 = 0 then (f_R_from_51 N a0 x2 x3 r) else ((rld r 7 x4).bind fun v1 => (f_R_isCode v1).bind fun z2 => f_R_from_24 N a0 n x2 z2 (x4 + 1) r))
noncomputable def f_R_from_20 (N : Nat) (a0 : Int32) (x2 : Int32) (y0 : Int32) (r : Rho) : Option (Int32 × Rho) :=
  f_R_from_24 N a0 N x2 y0 0 r
noncomputable def f_R_from (N : Nat) (a0 : Int32) (r : Rho) : Option (Int32 × Rho) :=
  if 4 < (r.1 8) then (f_R_from_20 N a0 (r.1 8) 0 (r_set r 8 0)) else (f_R_from_20 N a0 (r.1 8) 1 (r_set r 8 0))
abbrev rm_R_from : Room := { frames := 2, cells := 0, slots := 0, locals := 50 }
noncomputable def f_R_peopleOf_30 (N : Nat) (a0 : Int32) (r : Rho) (k4 : Int32 → Int32 → Option (Int32)) (x3 : Int32) (y0 : Int32) (y1 : Int32) : Option (Int32) :=
  k4 (y0 + y1) (x3 + 1)
noncomputable def f_R_peopleOf_4 (N : Nat) (a0 : Int32) (r : Rho) : Nat → Int32 → Int32 → Option (Int32)
  | 0, _, _ => none
  | n + 1, x2, x3 => (rld r 1 5).bind fun v1 => if v1 ≤ x3 then (some x2) else ((f_R_of x3 0 r).bind fun z2 => if z2 = a0 then (f_R_peopleOf_30 N a0 r (f_R_peopleOf_4 N a0 r n) x3 x2 1) else (f_R_peopleOf_30 N a0 r (f_R_peopleOf_4 N a0 r n) x3 x2 0))
noncomputable def f_R_peopleOf (N : Nat) (a0 : Int32) (r : Rho) : Option (Int32) :=
  f_R_peopleOf_4 N a0 r N 0 0
abbrev rm_R_peopleOf : Room := { frames := 1, cells := 0, slots := 0, locals := 22 }
noncomputable def f_R_expectsAll_36 (N : Nat) (a0 : Int32) (r : Rho) (k4 : Int32 → Int32 → Option (Int32)) (x3 : Int32) (y0 : Int32) (y1 : Int32) (y3 : Int32) (y4 : Int32) : Option (Int32) :=
  (f_R_expects N y3 y4 r).bind fun z4 => k4 (y0 + (y1 * z4)) (x3 + 1)
noncomputable def f_R_expectsAll_4 (N : Nat) (a0 : Int32) (r : Rho) : Nat → Int32 → Int32 → Option (Int32)
  | 0, _, _ => none
  | n + 1, x2, x3 => (rld r 1 3).bind fun v1 => if v1 ≤ x3 then (some x2) else ((f_R_peopleOf N x3 r).bind fun z2 => if a0 = (-1) then ((f_R_bestOf N x3 r).bind fun z3 => f_R_expectsAll_36 N a0 r (f_R_expectsAll_4 N a0 r n) x3 x2 z2 x3 z3) else (f_R_expectsAll_36 N a0 r (f_R_expectsAll_4 N a0 r n) x3 x2 z2 x3 a0))
noncomputable def f_R_expectsAll (N : Nat) (a0 : Int32) (r : Rho) : Option (Int32) :=
  f_R_expectsAll_4 N a0 r N 0 0
abbrev rm_R_expectsAll : Room := { frames := 4, cells := 0, slots := 0, locals := 90 }
noncomputable def f_R_worth_13 (N : Nat) : Nat → Int32 → Int32 → Rho → Option (Int32 × Rho)
  | 0, _, _, _ => none
  | n + 1, x1, x2, r => if 32 ≤ x2 then ((f_R_expectsAll N (-1) r).bind fun z2 => some (x1 - z2, r)) else ((f_R_expectsAll N x2 r).bind fun z3 => (f_R_lesser x1 z3).bind fun z4 => f_R_worth_13 N n z4 (x2 + 1) r)
noncomputable def f_R_worth (N : Nat) (r : Rho) : Option (Int32 × Rho) :=
  (f_R_expectsAll N 0 (r_set r 0 0)).bind fun z1 => f_R_worth_13 N N z1 1 (r_set r 0 0)
abbrev rm_R_worth : Room := { frames := 5, cells := 0, slots := 0, locals := 113 }
noncomputable def f_R_pays_60 (a0 : Int32) (a1 : Int32) (a2 : Int32) (a3 : Int32) (r : Rho) (y0 : Int32) (y1 : Int32) : Option (Int32) :=
  some (y0 + y1)
noncomputable def f_R_pays_41 (a0 : Int32) (a1 : Int32) (a2 : Int32) (a3 : Int32) (r : Rho) (x5 : Int32) (y0 : Int32) : Option (Int32) :=
  (f_R_costOf x5 y0 r).bind fun z5 => if a2 = 0 then (f_R_pays_60 a0 a1 a2 a3 r z5 0) else (f_R_pays_60 a0 a1 a2 a3 r z5 1)
noncomputable def f_R_pays_19 (a0 : Int32) (a1 : Int32) (a2 : Int32) (a3 : Int32) (r : Rho) (y0 : Int32) : Option (Int32) :=
  if a3 = 0 then ((f_R_of a1 1 r).bind fun z3 => f_R_pays_41 a0 a1 a2 a3 r y0 z3) else ((f_R_of a0 1 r).bind fun z4 => f_R_pays_41 a0 a1 a2 a3 r y0 z4)
noncomputable def f_R_pays (a0 : Int32) (a1 : Int32) (a2 : Int32) (a3 : Int32) (r : Rho) : Option (Int32) :=
  if a2 = 0 then ((f_R_of a0 1 r).bind fun z1 => f_R_pays_19 a0 a1 a2 a3 r z1) else ((f_R_of a1 1 r).bind fun z2 => f_R_pays_19 a0 a1 a2 a3 r z2)
abbrev rm_R_pays : Room := { frames := 2, cells := 0, slots := 0, locals := 43 }
noncomputable def f_R_rests_90 (N : Nat) (a0 : Int32) (a1 : Int32) (k24 : Int32 → Int32 → Rho → Option (Int32 × Rho)) (x3 : Int32) (x4 : Int32) (x5 : Int32) (x6 : Int32) (y1 : Int32) (y2 : Int32) (y3 : Int32) (r : Rho) : Option (Int32 × Rho) :=
  (f_R_pays y1 y2 y3 x5 r).bind fun z6 => (f_R_pays a1 a0 x6 x5 r).bind fun z7 => if z6 < z7 then (k24 x3 (x4 + 1) r) else (k24 (x3 ||| (1 <<< (x4 &&& 31))) (x4 + 1) r)
noncomputable def f_R_rests_59 (N : Nat) (a0 : Int32) (a1 : Int32) (k24 : Int32 → Int32 → Rho → Option (Int32 × Rho)) (x3 : Int32) (x4 : Int32) (x5 : Int32) (x6 : Int32) (y1 : Int32) (y2 : Int32) (y3 : Int32) (r : Rho) : Option (Int32 × Rho) :=
  (f_R_pays y1 y2 y3 x6 r).bind fun z4 => (f_R_pays a0 a1 x5 x6 r).bind fun z5 => if z4 < z5 then (k24 x3 (x4 + 1) r) else (if x6 = 0 then (f_R_rests_90 N a0 a1 k24 x3 x4 x5 x6 a1 a0 1 r) else (f_R_rests_90 N a0 a1 k24 x3 x4 x5 x6 a1 a0 0 r))
noncomputable def f_R_rests_24 (N : Nat) (a0 : Int32) (a1 : Int32) : Nat → Int32 → Int32 → Rho → Option (Int32 × Rho)
  | 0, _, _, _ => none
  | n + 1, x3, x4, r => if 4 ≤ x4 then (some (x3, r)) else ((f_R_isOf x4 0).bind fun z2 => (f_R_isOf x4 1).bind fun z3 => if z2 = 0 then (f_R_rests_59 N a0 a1 (f_R_rests_24 N a0 a1 n) x3 x4 z2 z3 a0 a1 1 r) else (f_R_rests_59 N a0 a1 (f_R_rests_24 N a0 a1 n) x3 x4 z2 z3 a0 a1 0 r))
noncomputable def f_R_rests (N : Nat) (a0 : Int32) (a1 : Int32) (r : Rho) : Option (Int32 × Rho) :=
  (f_R_two a0 a1 r).bind fun z1 => if ((r_set r 0 z1).1 0) ≤ 0 then (f_R_rests_24 N a0 a1 N 0 0 (r_set r 0 z1)) else (some (0, r_set r 0 z1))
abbrev rm_R_rests : Room := { frames := 3, cells := 0, slots := 0, locals := 69 }
noncomputable def f_R_towards (a0 : Int32) (a1 : Int32) : Option (Int32) :=
  if a1 ≤ a0 then (if a0 ≤ a1 then (some a0) else (some (a0 - 1))) else (some (a0 + 1))
abbrev rm_R_towards : Room := { frames := 0, cells := 0, slots := 0, locals := 0 }
noncomputable def f_R_sake_104 (N : Nat) (a0 : Int32) (a1 : Int32) (a2 : Int32) (k70 : Int32 → Int32 → Int32 → Rho → Option (Int32 × Rho)) (x4 : Int32) (x5 : Int32) (x6 : Int32) (x7 : Int32) (r : Rho) : Option (Int32 × Rho) :=
  (f_R_towards x5 x7).bind fun z9 => k70 x4 z9 (x6 + 1) r
noncomputable def f_R_sake_70 (N : Nat) (a0 : Int32) (a1 : Int32) (a2 : Int32) : Nat → Int32 → Int32 → Int32 → Rho → Option (Int32 × Rho)
  | 0, _, _, _, _ => none
  | n + 1, x4, x5, x6, r => if 8 ≤ x6 then (some ((-1), r)) else (if x4 = x5 then (some (x6, r)) else (if a2 = 0 then ((f_R_towards x4 x5).bind fun z8 => f_R_sake_104 N a0 a1 a2 (f_R_sake_70 N a0 a1 a2 n) z8 x5 x6 x4 r) else (f_R_sake_104 N a0 a1 a2 (f_R_sake_70 N a0 a1 a2 n) x4 x5 x6 x4 r)))
noncomputable def f_R_sake (N : Nat) (a0 : Int32) (a1 : Int32) (a2 : Int32) (r : Rho) : Option (Int32 × Rho) :=
  (f_R_two a0 a1 r).bind fun z1 => if ((r_set r 0 z1).1 0) ≤ 0 then ((f_R_of a0 1 (r_set r 0 z1)).bind fun z2 => if (z2 >>> (3 &&& 31)) = 2 then ((f_R_of a1 1 (r_set r 0 z1)).bind fun z3 => if (z3 >>> (3 &&& 31)) = 2 then ((f_R_of a0 1 (r_set r 0 z1)).bind fun z4 => (f_R_countOf z4).bind fun z5 => (f_R_of a1 1 (r_set r 0 z1)).bind fun z6 => (f_R_countOf z6).bind fun z7 => f_R_sake_70 N a0 a1 a2 N z5 z7 0 (r_set r 0 z1)) else (some ((-1), r_set r 0 z1))) else (some ((-1), r_set r 0 z1))) else (some (0, r_set r 0 z1))
abbrev rm_R_sake : Room := { frames := 3, cells := 0, slots := 0, locals := 65 }
noncomputable def f_R_bits_4 (N : Nat) (a0 : Int32) : Nat → Int32 → Int32 → Option (Int32)
  | 0, _, _ => none
  | n + 1, x1, x2 => if 31 ≤ x2 then (some x1) else (f_R_bits_4 N a0 n (x1 + ((a0 >>> (x2 &&& 31)) &&& 1)) (x2 + 1))
noncomputable def f_R_bits (N : Nat) (a0 : Int32) : Option (Int32) :=
  f_R_bits_4 N a0 N 0 0
abbrev rm_R_bits : Room := { frames := 0, cells := 0, slots := 0, locals := 0 }
noncomputable def f_R_sits_183 (N : Nat) (fr : Int32 → Int32 → Int32 → Int32 → Rho → Option (Rho)) (a0 : Int32) (a1 : Int32) (a2 : Int32) (a3 : Int32) (k105 : Int32 → Rho → Option (Rho)) (x5 : Int32) (y1 : Int32) (y2 : Int32) (y3 : Int32) (y4 : Int32) (y5 : Int32) (r : Rho) : Option (Rho) :=
  (fr y1 y2 y3 (y4 + y5) r).bind fun z13 => if a1 = 0 then (some z13) else (k105 (x5 + 1) z13)
noncomputable def f_R_sits_105 (N : Nat) (fr : Int32 → Int32 → Int32 → Int32 → Rho → Option (Rho)) (a0 : Int32) (a1 : Int32) (a2 : Int32) (a3 : Int32) : Nat → Int32 → Rho → Option (Rho)
  | 0, _, _ => none
  | n + 1, x5, r => (rld r 1 5).bind fun v6 => if v6 ≤ x5 then (some r) else ((f_R_isOf a0 x5).bind fun z7 => if z7 = 0 then (f_R_sits_105 N (fr) a0 a1 a2 a3 n (x5 + 1) r) else ((rst r 22 a1 x5).bind fun r8 => if a1 ≤ 0 then (f_R_sits_183 N (fr) a0 a1 a2 a3 (f_R_sits_105 N (fr) a0 a1 a2 a3 n) x5 (a0 &&& ((1 <<< (x5 &&& 31)) ^^^ (-1))) (a1 + 1) a2 a3 0 r8) else ((rld r8 22 (a1 - 1)).bind fun v9 => (f_R_of v9 1 r8).bind fun z10 => (f_R_of x5 1 r8).bind fun z11 => (f_R_costOf z10 z11 r8).bind fun z12 => f_R_sits_183 N (fr) a0 a1 a2 a3 (f_R_sits_105 N (fr) a0 a1 a2 a3 n) x5 (a0 &&& ((1 <<< (x5 &&& 31)) ^^^ (-1))) (a1 + 1) a2 a3 z12 r8)))
noncomputable def f_R_sits_75 (N : Nat) (fr : Int32 → Int32 → Int32 → Int32 → Rho → Option (Rho)) (a0 : Int32) (a1 : Int32) (a2 : Int32) (a3 : Int32) : Nat → Int32 → Rho → Option (Rho)
  | 0, _, _ => none
  | n + 1, x6, r => if a2 ≤ x6 then (some r) else ((rld r 22 x6).bind fun v14 => (rst r 23 x6 v14).bind fun r15 => f_R_sits_75 N (fr) a0 a1 a2 a3 n (x6 + 1) r15)
noncomputable def f_R_sits_53 (N : Nat) (fr : Int32 → Int32 → Int32 → Int32 → Rho → Option (Rho)) (a0 : Int32) (a1 : Int32) (a2 : Int32) (a3 : Int32) (y0 : Int32) (y1 : Int32) (r : Rho) : Option (Rho) :=
  if (y0 + y1) < (r.1 26) then (f_R_sits_75 N (fr) a0 a1 a2 a3 N 0 (r_set r 26 (y0 + y1))) else (some r)
noncomputable def f_R_sits (N : Nat) : Nat → Int32 → Int32 → Int32 → Int32 → Rho → Option (Rho)
  | 0, _, _, _, _, _ => none
  | d + 1, a0, a1, a2, a3, r => if a3 ≤ (r.1 26) then (if a0 = 0 then (if a2 ≤ 2 then (f_R_sits_53 N (f_R_sits N d) a0 a1 a2 a3 a3 0 r) else ((rld r 22 (a2 - 1)).bind fun v1 => (f_R_of v1 1 r).bind fun z2 => (rld r 22 0).bind fun v3 => (f_R_of v3 1 r).bind fun z4 => (f_R_costOf z2 z4 r).bind fun z5 => f_R_sits_53 N (f_R_sits N d) a0 a1 a2 a3 a3 z5 r)) else (f_R_sits_105 N (f_R_sits N d) a0 a1 a2 a3 N 0 r)) else (some r)
abbrev rm_R_sits (d : Nat) : Room := { frames := 60 + 12 * d + 0, cells := 0, slots := 0, locals := 3000 + 400 * d + 0 }
noncomputable def f_R_table_55 (N : Nat) (a0 : Int32) (a1 : Int32) (x4 : Int32) (r : Rho) : Option (Int32 × Rho) :=
  if a1 = (-1) then (if x4 = 0 then (some (0, r)) else (some (r.1 26, r))) else ((f_R_isIn a1 0 (x4 - 1)).bind fun z4 => if z4 = 0 then (some ((-1), r)) else ((rld r 23 a1).bind fun v5 => some (v5, r)))
noncomputable def f_R_table (N : Nat) (a0 : Int32) (a1 : Int32) (r : Rho) : Option (Int32 × Rho) :=
  (rld (r_set r 0 0) 1 5).bind fun v1 => (f_R_bits N (a0 &&& ((1 <<< (v1 &&& 31)) - 1))).bind fun z2 => if z2 ≤ 8 then (if z2 ≤ 0 then (f_R_table_55 N a0 a1 z2 (r_set (r_set r 0 0) 26 1000000)) else ((f_R_sits N 10 (a0 &&& ((1 <<< (v1 &&& 31)) - 1)) 0 z2 0 (r_set (r_set r 0 0) 26 1000000)).bind fun z3 => f_R_table_55 N a0 a1 z2 z3)) else (some ((-3), r_set r 0 0))
abbrev rm_R_table : Room := { frames := 181, cells := 0, slots := 0, locals := 7026 }
noncomputable def f_R_pairsOf_59 (N : Nat) (fr : Int32 → Rho → Option (Int32 × Rho)) (a0 : Int32) : Nat → Int32 → Int32 → Int32 → Int32 → Rho → Option (Int32 × Rho)
  | 0, _, _, _, _, _ => none
  | n + 1, x2, x3, x4, x5, r => (rld r 1 5).bind fun v5 => if v5 ≤ x5 then ((rst r 24 a0 x4).bind fun r6 => some (x4, r6)) else ((f_R_isOf x3 x5).bind fun z7 => if z7 = 0 then (f_R_pairsOf_59 N (fr) a0 n x2 x3 x4 (x5 + 1) r) else ((f_R_areTied N x2 x5 r).bind fun z8 => if z8 = 0 then (f_R_pairsOf_59 N (fr) a0 n x2 x3 x4 (x5 + 1) r) else ((fr (x3 &&& ((1 <<< (x5 &&& 31)) ^^^ (-1))) r).bind fun z9 => (f_R_greater x4 (1 + z9.1)).bind fun z10 => f_R_pairsOf_59 N (fr) a0 n x2 x3 z10 (x5 + 1) z9.2)))
noncomputable def f_R_pairsOf_25 (N : Nat) (fr : Int32 → Rho → Option (Int32 × Rho)) (a0 : Int32) : Nat → Int32 → Rho → Option (Int32 × Rho)
  | 0, _, _ => none
  | n + 1, x2, r => (f_R_isOf a0 x2).bind fun z3 => if z3 = 0 then (f_R_pairsOf_25 N (fr) a0 n (x2 + 1) r) else ((fr (a0 &&& ((1 <<< (x2 &&& 31)) ^^^ (-1))) r).bind fun z4 => f_R_pairsOf_59 N (fr) a0 N x2 (a0 &&& ((1 <<< (x2 &&& 31)) ^^^ (-1))) z4.1 (x2 + 1) z4.2)
noncomputable def f_R_pairsOf (N : Nat) : Nat → Int32 → Rho → Option (Int32 × Rho)
  | 0, _, _ => none
  | d + 1, a0, r => if a0 = 0 then (some (0, r)) else ((rld r 24 a0).bind fun v1 => if v1 = (-1) then (f_R_pairsOf_25 N (f_R_pairsOf N d) a0 N 0 r) else ((rld r 24 a0).bind fun v2 => some (v2, r)))
abbrev rm_R_pairsOf (d : Nat) : Room := { frames := 60 + 12 * d + 0, cells := 0, slots := 0, locals := 3000 + 400 * d + 0 }
noncomputable def f_R_pairs_53 (N : Nat) (a0 : Int32) : Nat → Int32 → Int32 → Int32 → Rho → Option (Int32 × Rho)
  | 0, _, _, _, _ => none
  | n + 1, x2, x3, x4, r => (rld r 1 6).bind fun v4 => if v4 ≤ x4 then (some (x2 &&& x3, r)) else ((f_R_who x4 r).bind fun z5 => (f_R_whom x4 r).bind fun z6 => if (x2 &&& ((1 <<< (z5 &&& 31)) ||| (1 <<< (z6 &&& 31)))) = ((1 <<< (z5 &&& 31)) ||| (1 <<< (z6 &&& 31))) then ((f_R_pairsOf N 12 (x2 &&& (((1 <<< (z5 &&& 31)) ||| (1 <<< (z6 &&& 31))) ^^^ (-1))) r).bind fun z7 => (f_R_pairsOf N 12 x2 z7.2).bind fun z8 => if (1 + z7.1) = z8.1 then (f_R_pairs_53 N a0 n (x2 &&& (((1 <<< (z5 &&& 31)) ||| (1 <<< (z6 &&& 31))) ^^^ (-1))) (x3 ||| ((1 <<< (z5 &&& 31)) ||| (1 <<< (z6 &&& 31)))) (x4 + 1) z8.2) else (f_R_pairs_53 N a0 n x2 (x3 ||| ((1 <<< (z5 &&& 31)) ||| (1 <<< (z6 &&& 31)))) (x4 + 1) z8.2)) else (f_R_pairs_53 N a0 n x2 (x3 ||| ((1 <<< (z5 &&& 31)) ||| (1 <<< (z6 &&& 31)))) (x4 + 1) r))
noncomputable def f_R_pairs_7 (N : Nat) (a0 : Int32) : Nat → Int32 → Rho → Option (Int32 × Rho)
  | 0, _, _ => none
  | n + 1, x2, r => if 1024 ≤ x2 then ((rld r 1 5).bind fun v1 => if a0 = 0 then ((f_R_pairsOf N 12 ((1 <<< (v1 &&& 31)) - 1) r).bind fun z2 => some (z2.1, z2.2)) else (f_R_pairs_53 N a0 N ((1 <<< (v1 &&& 31)) - 1) 0 0 r)) else ((rst r 24 x2 (-1)).bind fun r3 => f_R_pairs_7 N a0 n (x2 + 1) r3)
noncomputable def f_R_pairs (N : Nat) (a0 : Int32) (r : Rho) : Option (Int32 × Rho) :=
  f_R_pairs_7 N a0 N 0 (r_set r 0 0)
abbrev rm_R_pairs : Room := { frames := 205, cells := 0, slots := 0, locals := 7825 }
noncomputable def f_R_beginner (a0 : Int32) (a1 : Int32) (a2 : Int32) (r : Rho) : Option (Int32) :=
  (f_R_lesser a0 a1).bind fun z1 => (f_R_greater a0 a1).bind fun z2 => if a2 = 0 then ((f_R_of z2 2 r).bind fun z5 => (f_R_of z1 2 r).bind fun z6 => if z5 ≤ z6 then (some z1) else (some z2)) else (if a2 = 1 then ((f_R_of z2 2 r).bind fun z3 => (f_R_of z1 2 r).bind fun z4 => if z4 ≤ z3 then (some z1) else (some z2)) else (some z1))
abbrev rm_R_beginner : Room := { frames := 1, cells := 0, slots := 0, locals := 22 }
noncomputable def f_R_byRule_4 (N : Nat) (a0 : Int32) : Nat → Int32 → Int32 → Rho → Option (Int32 × Rho)
  | 0, _, _, _ => none
  | n + 1, x2, x3, r => (rld r 1 6).bind fun v1 => if v1 ≤ x3 then (some (x2, r)) else ((f_R_who x3 r).bind fun z2 => (f_R_whom x3 r).bind fun z3 => (f_R_beginner z2 z3 a0 r).bind fun z4 => (f_R_who x3 r).bind fun z5 => (f_R_whom x3 r).bind fun z6 => (f_R_beginning N z4 ((z5 + z6) - z4) r).bind fun z7 => (f_R_beginning N ((z5 + z6) - z4) z4 z7.2).bind fun z8 => (f_R_costOf z7.1 z8.1 z8.2).bind fun z9 => (f_R_of ((z5 + z6) - z4) 3 z8.2).bind fun z10 => f_R_byRule_4 N a0 n (x2 + (z9 * (100 - z10))) (x3 + 1) z8.2)
noncomputable def f_R_byRule (N : Nat) (a0 : Int32) (r : Rho) : Option (Int32 × Rho) :=
  f_R_byRule_4 N a0 N 0 0 r
abbrev rm_R_byRule : Room := { frames := 186, cells := 0, slots := 0, locals := 7211 }
noncomputable def f_R_begins__42 (N : Nat) (a0 : Int32) : Nat → Int32 → Int32 → Rho → Option (Int32 × Rho)
  | 0, _, _, _ => none
  | n + 1, x2, x3, r => if 3 ≤ x3 then (some (x2, r)) else ((f_R_byRule N x3 r).bind fun z3 => (f_R_byRule N x2 z3.2).bind fun z4 => if z4.1 ≤ z3.1 then (f_R_begins__42 N a0 n x2 (x3 + 1) z4.2) else (f_R_begins__42 N a0 n x3 (x3 + 1) z4.2))
noncomputable def f_R_begins__15 (N : Nat) (a0 : Int32) (y1 : Int32) (r : Rho) : Option (Int32 × Rho) :=
  if ((r_set r 0 y1).1 0) ≤ 0 then (if a0 = (-1) then (f_R_begins__42 N a0 N 0 1 (r_set r 0 y1)) else ((f_R_byRule N a0 (r_set r 0 y1)).bind fun z2 => some (z2.1, z2.2))) else (some (0, r_set r 0 y1))
noncomputable def f_R_begins_ (N : Nat) (a0 : Int32) (r : Rho) : Option (Int32 × Rho) :=
  (f_R_isIn a0 (-1) 2).bind fun z1 => if z1 = 0 then (f_R_begins__15 N a0 1 r) else (f_R_begins__15 N a0 0 r)
abbrev rm_R_begins_ : Room := { frames := 187, cells := 0, slots := 0, locals := 7236 }
noncomputable def f_R_starts_35 (N : Nat) (a0 : Int32) (a1 : Int32) (k2 : Int32 → Rho → Option (Rho)) (x3 : Int32) (y1 : Int32) (y2 : Int32) (r : Rho) : Option (Rho) :=
  (rst r 18 y1 y2).bind fun r4 => (f_R_tiedTo N x3 r4).bind fun z5 => (rst r4 20 x3 (z5 ||| (1 <<< (x3 &&& 31)))).bind fun r6 => k2 (x3 + 1) r6
noncomputable def f_R_starts_2 (N : Nat) (a0 : Int32) (a1 : Int32) : Nat → Int32 → Rho → Option (Rho)
  | 0, _, _ => none
  | n + 1, x3, r => (rld r 1 5).bind fun v1 => if v1 ≤ x3 then (some r) else ((f_R_isOf a0 x3).bind fun z2 => if z2 = 0 then ((f_R_of x3 1 r).bind fun z3 => f_R_starts_35 N a0 a1 (f_R_starts_2 N a0 a1 n) x3 x3 z3 r) else (f_R_starts_35 N a0 a1 (f_R_starts_2 N a0 a1 n) x3 x3 a1 r))
noncomputable def f_R_starts (N : Nat) (a0 : Int32) (a1 : Int32) (r : Rho) : Option (Rho) :=
  f_R_starts_2 N a0 a1 N 0 r
abbrev rm_R_starts : Room := { frames := 3, cells := 0, slots := 0, locals := 67 }
noncomputable def f_R_takes_72 (N : Nat) (a0 : Int32) : Nat → Int32 → Int32 → Rho → Option (Int32 × Rho)
  | 0, _, _, _ => none
  | n + 1, x2, x3, r => if 32 ≤ x3 then (some (x2, r)) else ((rld r 21 x3).bind fun v8 => (rld r 21 x2).bind fun v9 => if v8 ≤ v9 then (f_R_takes_72 N a0 n x2 (x3 + 1) r) else (f_R_takes_72 N a0 n x3 (x3 + 1) r))
noncomputable def f_R_takes_23 (N : Nat) (a0 : Int32) : Nat → Int32 → Rho → Option (Int32 × Rho)
  | 0, _, _ => none
  | n + 1, x2, r => (rld r 1 5).bind fun v2 => if v2 ≤ x2 then ((rld r 18 a0).bind fun v3 => f_R_takes_72 N a0 N v3 0 r) else ((rld r 18 x2).bind fun v4 => (rld r 21 v4).bind fun v5 => (rld r 20 a0).bind fun v6 => (rst r 21 v4 (v5 + ((v6 >>> (x2 &&& 31)) &&& 1))).bind fun r7 => f_R_takes_23 N a0 n (x2 + 1) r7)
noncomputable def f_R_takes_2 (N : Nat) (a0 : Int32) : Nat → Int32 → Rho → Option (Int32 × Rho)
  | 0, _, _ => none
  | n + 1, x2, r => if 32 ≤ x2 then (f_R_takes_23 N a0 N 0 r) else ((rst r 21 x2 0).bind fun r1 => f_R_takes_2 N a0 n (x2 + 1) r1)
noncomputable def f_R_takes (N : Nat) (a0 : Int32) (r : Rho) : Option (Int32 × Rho) :=
  f_R_takes_2 N a0 N 0 r
abbrev rm_R_takes : Room := { frames := 0, cells := 0, slots := 0, locals := 0 }
noncomputable def f_R_year_67 (N : Nat) (k33 : Int32 → Int32 → Rho → Option (Int32 × Rho)) (x2 : Int32) (y0 : Int32) (r : Rho) : Option (Int32 × Rho) :=
  (rld r 19 x2).bind fun v8 => (rst r 18 x2 v8).bind fun r9 => k33 y0 (x2 + 1) r9
noncomputable def f_R_year_62 (N : Nat) (k33 : Int32 → Int32 → Rho → Option (Int32 × Rho)) (x2 : Int32) (r : Rho) : Option (Int32 × Rho) :=
  f_R_year_67 N k33 x2 1 r
noncomputable def f_R_year_33 (N : Nat) : Nat → Int32 → Int32 → Rho → Option (Int32 × Rho)
  | 0, _, _, _ => none
  | n + 1, x1, x2, r => (rld r 1 5).bind fun v4 => if v4 ≤ x2 then ((zg x1).bind fun z5 => some (z5, r)) else (if x1 = 0 then ((rld r 18 x2).bind fun v6 => (rld r 19 x2).bind fun v7 => if v6 = v7 then (f_R_year_67 N (f_R_year_33 N n) x2 0 r) else (f_R_year_62 N (f_R_year_33 N n) x2 r)) else (f_R_year_62 N (f_R_year_33 N n) x2 r))
noncomputable def f_R_year_4 (N : Nat) : Nat → Int32 → Int32 → Rho → Option (Int32 × Rho)
  | 0, _, _, _ => none
  | n + 1, x1, x2, r => (rld r 1 5).bind fun v1 => if v1 ≤ x2 then (f_R_year_33 N N x1 0 r) else ((f_R_takes N x2 r).bind fun z2 => (rst z2.2 19 x2 z2.1).bind fun r3 => f_R_year_4 N n x1 (x2 + 1) r3)
noncomputable def f_R_year (N : Nat) (r : Rho) : Option (Int32 × Rho) :=
  f_R_year_4 N N 0 0 r
abbrev rm_R_year : Room := { frames := 1, cells := 0, slots := 0, locals := 23 }
noncomputable def f_R_years_4 (N : Nat) (a0 : Int32) : Nat → Int32 → Int32 → Rho → Option (Rho)
  | 0, _, _, _ => none
  | n + 1, x2, x3, r => if a0 ≤ x3 then (some r) else (if x2 = 0 then (some r) else ((f_R_year N r).bind fun z1 => f_R_years_4 N a0 n z1.1 (x3 + 1) z1.2))
noncomputable def f_R_years (N : Nat) (a0 : Int32) (r : Rho) : Option (Rho) :=
  f_R_years_4 N a0 N 1 0 r
abbrev rm_R_years : Room := { frames := 2, cells := 0, slots := 0, locals := 45 }
noncomputable def f_R_counts_55 (N : Nat) (k25 : Int32 → Int32 → Rho → Option (Int32 × Rho)) (x2 : Int32) (y0 : Int32) (y1 : Int32) (r : Rho) : Option (Int32 × Rho) :=
  (rld r 18 x2).bind fun v5 => (rld r 21 v5).bind fun v6 => (rst r 21 v5 (v6 + 1)).bind fun r7 => k25 (y0 + y1) (x2 + 1) r7
noncomputable def f_R_counts_25 (N : Nat) : Nat → Int32 → Int32 → Rho → Option (Int32 × Rho)
  | 0, _, _, _ => none
  | n + 1, x1, x2, r => (rld r 1 5).bind fun v2 => if v2 ≤ x2 then (some (x1, r)) else ((rld r 18 x2).bind fun v3 => (rld r 21 v3).bind fun v4 => if v4 = 0 then (f_R_counts_55 N (f_R_counts_25 N n) x2 x1 1 r) else (f_R_counts_55 N (f_R_counts_25 N n) x2 x1 0 r))
noncomputable def f_R_counts_4 (N : Nat) : Nat → Int32 → Int32 → Rho → Option (Int32 × Rho)
  | 0, _, _, _ => none
  | n + 1, x1, x2, r => if 32 ≤ x2 then (f_R_counts_25 N N x1 0 r) else ((rst r 21 x2 0).bind fun r1 => f_R_counts_4 N n x1 (x2 + 1) r1)
noncomputable def f_R_counts (N : Nat) (r : Rho) : Option (Int32 × Rho) :=
  f_R_counts_4 N N 0 0 r
abbrev rm_R_counts : Room := { frames := 0, cells := 0, slots := 0, locals := 0 }
noncomputable def f_R_after_69 (N : Nat) (a0 : Int32) (a1 : Int32) : Nat → Int32 → Int32 → Int32 → Rho → Option (Int32 × Rho)
  | 0, _, _, _, _ => none
  | n + 1, x3, x4, x5, r => if 32 ≤ x5 then (if a1 = 2 then ((rld r 21 x4).bind fun v6 => some (v6, r)) else (if x3 = 0 then (some ((-1), r)) else (some (x4, r)))) else ((rld r 21 x5).bind fun v7 => (rld r 21 x4).bind fun v8 => if v7 ≤ v8 then (f_R_after_69 N a0 a1 n x3 x4 (x5 + 1) r) else (f_R_after_69 N a0 a1 n x3 x5 (x5 + 1) r))
noncomputable def f_R_after_29 (N : Nat) (a0 : Int32) (a1 : Int32) (y1 : Int32) (r : Rho) : Option (Int32 × Rho) :=
  if ((r_set r 0 y1).1 0) ≤ 0 then ((f_R_starts N 0 0 (r_set r 0 y1)).bind fun z3 => (f_R_years N a0 z3).bind fun z4 => (f_R_counts N z4).bind fun z5 => if a1 = 0 then (some (z5.1, z5.2)) else (f_R_after_69 N a0 a1 N z5.1 0 1 z5.2)) else (some (0, r_set r 0 y1))
noncomputable def f_R_after (N : Nat) (a0 : Int32) (a1 : Int32) (r : Rho) : Option (Int32 × Rho) :=
  (f_R_isIn a0 0 60).bind fun z1 => if z1 = 0 then (f_R_after_29 N a0 a1 1 r) else ((f_R_isIn a1 0 2).bind fun z2 => if z2 = 0 then (f_R_after_29 N a0 a1 2 r) else (f_R_after_29 N a0 a1 0 r))
abbrev rm_R_after : Room := { frames := 4, cells := 0, slots := 0, locals := 90 }
noncomputable def f_R_custom_28 (N : Nat) (a0 : Int32) (a1 : Int32) (y1 : Int32) (r : Rho) : Option (Int32 × Rho) :=
  if ((r_set r 0 y1).1 0) ≤ 0 then ((f_R_starts N 0 0 (r_set r 0 y1)).bind fun z3 => (f_R_years N a1 z3).bind fun z4 => (rld z4 18 a0).bind fun v5 => some (v5, z4)) else (some (0, r_set r 0 y1))
noncomputable def f_R_custom (N : Nat) (a0 : Int32) (a1 : Int32) (r : Rho) : Option (Int32 × Rho) :=
  (f_R_isPerson a0 r).bind fun z1 => if z1 = 0 then (f_R_custom_28 N a0 a1 1 r) else ((f_R_isIn a1 0 60).bind fun z2 => if z2 = 0 then (f_R_custom_28 N a0 a1 2 r) else (f_R_custom_28 N a0 a1 0 r))
abbrev rm_R_custom : Room := { frames := 4, cells := 0, slots := 0, locals := 90 }
noncomputable def f_R_still_13 (N : Nat) : Nat → Int32 → Rho → Option (Int32 × Rho)
  | 0, _, _ => none
  | n + 1, x1, r => if 60 < x1 then (some ((-1), r)) else ((f_R_year N r).bind fun z2 => if z2.1 = 0 then (some (x1, z2.2)) else (f_R_still_13 N n (x1 + 1) z2.2))
noncomputable def f_R_still (N : Nat) (r : Rho) : Option (Int32 × Rho) :=
  (f_R_starts N 0 0 (r_set r 0 0)).bind fun z1 => f_R_still_13 N N 0 z1
abbrev rm_R_still : Room := { frames := 4, cells := 0, slots := 0, locals := 90 }
noncomputable def f_R_wins_14 (N : Nat) (a0 : Int32) (a1 : Int32) (a2 : Int32) : Nat → Int32 → Rho → Option (Int32 × Rho)
  | 0, _, _ => none
  | n + 1, x4, r => (rld r 1 5).bind fun v3 => if v3 ≤ x4 then (some (1, r)) else ((rld r 18 x4).bind fun v4 => if v4 = a1 then (f_R_wins_14 N a0 a1 a2 n (x4 + 1) r) else (some (0, r)))
noncomputable def f_R_wins (N : Nat) (a0 : Int32) (a1 : Int32) (a2 : Int32) (r : Rho) : Option (Int32 × Rho) :=
  (f_R_starts N a0 a1 r).bind fun z1 => (f_R_years N a2 z1).bind fun z2 => f_R_wins_14 N a0 a1 a2 N 0 z2
abbrev rm_R_wins : Room := { frames := 4, cells := 0, slots := 0, locals := 90 }
noncomputable def f_R_told_77 (N : Nat) (a0 : Int32) (a1 : Int32) (k44 : Int32 → Int32 → Rho → Option (Int32 × Rho)) (x3 : Int32) (x4 : Int32) (r : Rho) : Option (Int32 × Rho) :=
  (f_R_wins N x4 a0 a1 r).bind fun z6 => if z6.1 = 0 then (k44 x3 (x4 + 1) z6.2) else (k44 x4 (x4 + 1) z6.2)
noncomputable def f_R_told_44 (N : Nat) (a0 : Int32) (a1 : Int32) : Nat → Int32 → Int32 → Rho → Option (Int32 × Rho)
  | 0, _, _, _ => none
  | n + 1, x3, x4, r => (rld r 1 5).bind fun v3 => if (1 <<< (v3 &&& 31)) ≤ x4 then (some (x3, r)) else (if x3 = (-1) then (f_R_told_77 N a0 a1 (f_R_told_44 N a0 a1 n) x3 x4 r) else ((f_R_bits N x4).bind fun z4 => (f_R_bits N x3).bind fun z5 => if z4 < z5 then (f_R_told_77 N a0 a1 (f_R_told_44 N a0 a1 n) x3 x4 r) else (f_R_told_44 N a0 a1 n x3 (x4 + 1) r)))
noncomputable def f_R_told_27 (N : Nat) (a0 : Int32) (a1 : Int32) (y1 : Int32) (r : Rho) : Option (Int32 × Rho) :=
  if ((r_set r 0 y1).1 0) ≤ 0 then (f_R_told_44 N a0 a1 N (-1) 0 (r_set r 0 y1)) else (some (0, r_set r 0 y1))
noncomputable def f_R_told (N : Nat) (a0 : Int32) (a1 : Int32) (r : Rho) : Option (Int32 × Rho) :=
  (f_R_isCode a0).bind fun z1 => if z1 = 0 then (f_R_told_27 N a0 a1 1 r) else ((f_R_isIn a1 0 60).bind fun z2 => if z2 = 0 then (f_R_told_27 N a0 a1 2 r) else (f_R_told_27 N a0 a1 0 r))
abbrev rm_R_told : Room := { frames := 5, cells := 0, slots := 0, locals := 114 }
noncomputable def f_R_coldsNow_4 (N : Nat) (r : Rho) : Nat → Int32 → Int32 → Option (Int32)
  | 0, _, _ => none
  | n + 1, x1, x2 => (rld r 1 5).bind fun v1 => if v1 ≤ x2 then (some x1) else ((f_R_of x2 4 r).bind fun z2 => f_R_coldsNow_4 N r n (x1 ||| (z2 <<< (x2 &&& 31))) (x2 + 1))
noncomputable def f_R_coldsNow (N : Nat) (r : Rho) : Option (Int32) :=
  f_R_coldsNow_4 N r N 0 0
abbrev rm_R_coldsNow : Room := { frames := 1, cells := 0, slots := 0, locals := 22 }
noncomputable def f_R_passes_17 (N : Nat) (a0 : Int32) (a1 : Int32) (r : Rho) (k8 : Int32 → Int32 → Option (Int32)) : Nat → Int32 → Int32 → Int32 → Option (Int32)
  | 0, _, _, _ => none
  | n + 1, x3, x4, x5 => (rld r 1 6).bind fun v2 => if v2 ≤ x5 then (k8 x3 (x4 + 1)) else ((f_R_who x5 r).bind fun z3 => (f_R_whom x5 r).bind fun z4 => if (a0 &&& ((1 <<< (z3 &&& 31)) ||| (1 <<< (z4 &&& 31)))) = 0 then (if (x3 &&& ((1 <<< (z3 &&& 31)) ||| (1 <<< (z4 &&& 31)))) = 0 then (f_R_passes_17 N a0 a1 r k8 n x3 x4 (x5 + 1)) else (f_R_passes_17 N a0 a1 r k8 n (x3 ||| ((1 <<< (z3 &&& 31)) ||| (1 <<< (z4 &&& 31)))) x4 (x5 + 1))) else (f_R_passes_17 N a0 a1 r k8 n x3 x4 (x5 + 1)))
noncomputable def f_R_passes_8 (N : Nat) (a0 : Int32) (a1 : Int32) (r : Rho) : Nat → Int32 → Int32 → Option (Int32)
  | 0, _, _ => none
  | n + 1, x3, x4 => if a1 ≤ x4 then (some x3) else (f_R_passes_17 N a0 a1 r (f_R_passes_8 N a0 a1 r n) N x3 x4 0)
noncomputable def f_R_passes (N : Nat) (a0 : Int32) (a1 : Int32) (r : Rho) : Option (Int32) :=
  (f_R_coldsNow N r).bind fun z1 => f_R_passes_8 N a0 a1 r N z1 0
abbrev rm_R_passes : Room := { frames := 2, cells := 0, slots := 0, locals := 44 }
noncomputable def f_R_colds_16 (N : Nat) (a0 : Int32) (a1 : Int32) (y1 : Int32) (r : Rho) : Option (Int32 × Rho) :=
  if ((r_set r 0 y1).1 0) ≤ 0 then ((f_R_passes N a0 a1 (r_set r 0 y1)).bind fun z2 => some (z2, r_set r 0 y1)) else (some (0, r_set r 0 y1))
noncomputable def f_R_colds (N : Nat) (a0 : Int32) (a1 : Int32) (r : Rho) : Option (Int32 × Rho) :=
  (f_R_isIn a1 0 20).bind fun z1 => if z1 = 0 then (f_R_colds_16 N a0 a1 1 r) else (f_R_colds_16 N a0 a1 0 r)
abbrev rm_R_colds : Room := { frames := 3, cells := 0, slots := 0, locals := 70 }
noncomputable def f_R_spared_102 (N : Nat) (a0 : Int32) (a1 : Int32) (k59 : Int32 → Int32 → Rho → Option (Int32 × Rho)) (x3 : Int32) (x4 : Int32) (r : Rho) : Option (Int32 × Rho) :=
  (f_R_passes N x4 a1 r).bind fun z8 => (f_R_isOf z8 a0).bind fun z9 => if z9 = 0 then (k59 x4 (x4 + 1) r) else (k59 x3 (x4 + 1) r)
noncomputable def f_R_spared_59 (N : Nat) (a0 : Int32) (a1 : Int32) : Nat → Int32 → Int32 → Rho → Option (Int32 × Rho)
  | 0, _, _, _ => none
  | n + 1, x3, x4, r => (rld r 1 5).bind fun v4 => if (1 <<< (v4 &&& 31)) ≤ x4 then (some (x3, r)) else ((f_R_isOf x4 a0).bind fun z5 => if z5 = 0 then (if x3 = (-2) then (f_R_spared_102 N a0 a1 (f_R_spared_59 N a0 a1 n) x3 x4 r) else ((f_R_bits N x4).bind fun z6 => (f_R_bits N x3).bind fun z7 => if z6 < z7 then (f_R_spared_102 N a0 a1 (f_R_spared_59 N a0 a1 n) x3 x4 r) else (f_R_spared_59 N a0 a1 n x3 (x4 + 1) r))) else (f_R_spared_59 N a0 a1 n x3 (x4 + 1) r))
noncomputable def f_R_spared_28 (N : Nat) (a0 : Int32) (a1 : Int32) (y1 : Int32) (r : Rho) : Option (Int32 × Rho) :=
  if ((r_set r 0 y1).1 0) ≤ 0 then ((f_R_of a0 4 (r_set r 0 y1)).bind fun z3 => if z3 = 1 then (some ((-2), r_set r 0 y1)) else (f_R_spared_59 N a0 a1 N (-2) 0 (r_set r 0 y1))) else (some (0, r_set r 0 y1))
noncomputable def f_R_spared (N : Nat) (a0 : Int32) (a1 : Int32) (r : Rho) : Option (Int32 × Rho) :=
  (f_R_isPerson a0 r).bind fun z1 => if z1 = 0 then (f_R_spared_28 N a0 a1 1 r) else ((f_R_isIn a1 0 20).bind fun z2 => if z2 = 0 then (f_R_spared_28 N a0 a1 2 r) else (f_R_spared_28 N a0 a1 0 r))
abbrev rm_R_spared : Room := { frames := 3, cells := 0, slots := 0, locals := 70 }
noncomputable def f_R_logged (a0 : Int32) (a1 : Int32) (r : Rho) : Option (Int32) :=
  (rld r 1 ((420 + (8 * a0)) + a1)).bind fun v1 => some v1
abbrev rm_R_logged : Room := { frames := 0, cells := 0, slots := 0, locals := 0 }
noncomputable def f_R_changed_130 (N : Nat) (a0 : Int32) (k41 : Int32 → Int32 → Int32 → Rho → Option (Int32 × Rho)) (k49 : Int32 → Int32 → Int32 → Int32 → Rho → Option (Int32 × Rho)) (x2 : Int32) (x3 : Int32) (x4 : Int32) (x5 : Int32) (x7 : Int32) (x8 : Int32) (r : Rho) : Option (Int32 × Rho) :=
  (rst r 25 x7 x8).bind fun r8 => k49 x2 x3 x4 (x5 + 1) r8
noncomputable def f_R_changed_49 (N : Nat) (a0 : Int32) (k41 : Int32 → Int32 → Int32 → Rho → Option (Int32 × Rho)) : Nat → Int32 → Int32 → Int32 → Int32 → Rho → Option (Int32 × Rho)
  | 0, _, _, _, _, _ => none
  | n + 1, x2, x3, x4, x5, r => if 2 ≤ x5 then (k41 x2 x3 (x4 + (-1)) r) else ((f_R_logged x4 (1 + x5) r).bind fun z3 => (f_R_logged x4 (2 - x5) r).bind fun z4 => (f_R_logged x4 (3 + x5) r).bind fun z5 => (rld r 25 ((10 * z3) + z4)).bind fun v6 => if v6 = (-1) then (f_R_changed_130 N a0 k41 (f_R_changed_49 N a0 k41 n) x2 x3 x4 x5 ((10 * z3) + z4) z5 r) else ((rld r 25 ((10 * z3) + z4)).bind fun v7 => if v7 = z5 then (f_R_changed_130 N a0 k41 (f_R_changed_49 N a0 k41 n) x2 x3 x4 x5 ((10 * z3) + z4) z5 r) else (f_R_changed_130 N a0 k41 (f_R_changed_49 N a0 k41 n) (x2 ||| (1 <<< (z3 &&& 31))) (x3 + 1) x4 x5 ((10 * z3) + z4) z5 r)))
noncomputable def f_R_changed_41 (N : Nat) (a0 : Int32) : Nat → Int32 → Int32 → Int32 → Rho → Option (Int32 × Rho)
  | 0, _, _, _, _ => none
  | n + 1, x2, x3, x4, r => if x4 < 0 then (if a0 = 0 then (some (x2, r)) else (some (x3, r))) else (f_R_changed_49 N a0 (f_R_changed_41 N a0 n) N x2 x3 x4 0 r)
noncomputable def f_R_changed_7 (N : Nat) (a0 : Int32) : Nat → Int32 → Rho → Option (Int32 × Rho)
  | 0, _, _ => none
  | n + 1, x2, r => if 100 ≤ x2 then ((rld r 1 12).bind fun v1 => f_R_changed_41 N a0 N 0 0 (v1 - 1) r) else ((rst r 25 x2 (-1)).bind fun r2 => f_R_changed_7 N a0 n (x2 + 1) r2)
noncomputable def f_R_changed (N : Nat) (a0 : Int32) (r : Rho) : Option (Int32 × Rho) :=
  f_R_changed_7 N a0 N 0 (r_set r 0 0)
abbrev rm_R_changed : Room := { frames := 1, cells := 0, slots := 0, locals := 22 }
noncomputable def f_R_tries_64 (N : Nat) (a0 : Int32) (a1 : Int32) (x5 : Int32) (r : Rho) : Option (Int32 × Rho) :=
  (f_R_comesBack N r).bind fun z7 => some (x5, z7)
noncomputable def f_R_tries_45 (N : Nat) (a0 : Int32) (a1 : Int32) (y0 : Int32) (r : Rho) : Option (Int32 × Rho) :=
  if a1 = 2 then ((f_R_starts N 0 0 r).bind fun z5 => (f_R_counts N z5).bind fun z6 => f_R_tries_64 N a0 a1 z6.1 z6.2) else (f_R_tries_64 N a0 a1 y0 r)
noncomputable def f_R_tries (N : Nat) (a0 : Int32) (a1 : Int32) (r : Rho) : Option (Int32 × Rho) :=
  (rld r 1 10).bind fun v1 => (f_R_goes N a0 r).bind fun z2 => if a1 = 0 then (f_R_tries_45 N a0 a1 z2.1 z2.2) else (if a1 = 1 then ((rld z2.2 1 10).bind fun v4 => f_R_tries_45 N a0 a1 (v4 - v1) z2.2) else ((f_R_coldsNow N z2.2).bind fun z3 => f_R_tries_45 N a0 a1 z3 z2.2))
abbrev rm_R_tries : Room := { frames := 188, cells := 0, slots := 0, locals := 7267 }
noncomputable def f_R_trial_43 (N : Nat) (a0 : Int32) (a1 : Int32) : Nat → Int32 → Rho → Option (Int32 × Rho)
  | 0, _, _ => none
  | n + 1, x3, r => if 900 ≤ x3 then ((f_R_tries N a0 a1 r).bind fun z3 => some (z3.1, z3.2)) else ((rld r 1 x3).bind fun v4 => (rst r 4 x3 v4).bind fun r5 => f_R_trial_43 N a0 a1 n (x3 + 1) r5)
noncomputable def f_R_trial_29 (N : Nat) (a0 : Int32) (a1 : Int32) (y1 : Int32) (r : Rho) : Option (Int32 × Rho) :=
  if ((r_set r 0 y1).1 0) ≤ 0 then (f_R_trial_43 N a0 a1 N 0 (r_set r 0 y1)) else (some (0, r_set r 0 y1))
noncomputable def f_R_trial (N : Nat) (a0 : Int32) (a1 : Int32) (r : Rho) : Option (Int32 × Rho) :=
  (f_R_isIn a0 0 20).bind fun z1 => if z1 = 0 then (f_R_trial_29 N a0 a1 1 r) else ((f_R_isIn a1 0 3).bind fun z2 => if z2 = 0 then (f_R_trial_29 N a0 a1 2 r) else (f_R_trial_29 N a0 a1 0 r))
abbrev rm_R_trial : Room := { frames := 189, cells := 0, slots := 0, locals := 7292 }
noncomputable def f_R_span_113 (N : Nat) (a0 : Int32) (a1 : Int32) (k60 : Int32 → Int32 → Rho → Option (Int32 × Rho)) (x4 : Int32) (y0 : Int32) (r : Rho) : Option (Int32 × Rho) :=
  k60 y0 (x4 + 1) r
noncomputable def f_R_span_60 (N : Nat) (a0 : Int32) (a1 : Int32) : Nat → Int32 → Int32 → Rho → Option (Int32 × Rho)
  | 0, _, _, _ => none
  | n + 1, x3, x4, r => if 6 < x4 then (some (x3, r)) else ((rst r 1 16 x4).bind fun r4 => (f_R_tries N a0 0 r4).bind fun z5 => if x3 = (-1) then (f_R_span_113 N a0 a1 (f_R_span_60 N a0 a1 n) x4 z5.1 z5.2) else (if a1 = 0 then ((f_R_lesser x3 z5.1).bind fun z6 => f_R_span_113 N a0 a1 (f_R_span_60 N a0 a1 n) x4 z6 z5.2) else ((f_R_greater x3 z5.1).bind fun z7 => f_R_span_113 N a0 a1 (f_R_span_60 N a0 a1 n) x4 z7 z5.2)))
noncomputable def f_R_span_30 (N : Nat) (a0 : Int32) (a1 : Int32) : Nat → Int32 → Rho → Option (Int32 × Rho)
  | 0, _, _ => none
  | n + 1, x3, r => if 900 ≤ x3 then (f_R_span_60 N a0 a1 N (-1) 1 r) else ((rld r 1 x3).bind fun v2 => (rst r 4 x3 v2).bind fun r3 => f_R_span_30 N a0 a1 n (x3 + 1) r3)
noncomputable def f_R_span_16 (N : Nat) (a0 : Int32) (a1 : Int32) (y1 : Int32) (r : Rho) : Option (Int32 × Rho) :=
  if ((r_set r 0 y1).1 0) ≤ 0 then (f_R_span_30 N a0 a1 N 0 (r_set r 0 y1)) else (some (0, r_set r 0 y1))
noncomputable def f_R_span (N : Nat) (a0 : Int32) (a1 : Int32) (r : Rho) : Option (Int32 × Rho) :=
  (f_R_isIn a0 0 20).bind fun z1 => if z1 = 0 then (f_R_span_16 N a0 a1 1 r) else (f_R_span_16 N a0 a1 0 r)
abbrev rm_R_span : Room := { frames := 189, cells := 0, slots := 0, locals := 7292 }
noncomputable def f_R_log_16 (a0 : Int32) (a1 : Int32) (y1 : Int32) (r : Rho) : Option (Int32 × Rho) :=
  if ((r_set r 0 y1).1 0) ≤ 0 then ((rld (r_set r 0 y1) 1 12).bind fun v2 => (f_R_isIn a0 0 (v2 - 1)).bind fun z3 => if z3 = 0 then (some ((-1), r_set r 0 y1)) else ((f_R_logged a0 a1 (r_set r 0 y1)).bind fun z4 => some (z4, r_set r 0 y1))) else (some (0, r_set r 0 y1))
noncomputable def f_R_log (a0 : Int32) (a1 : Int32) (r : Rho) : Option (Int32 × Rho) :=
  (f_R_isIn a1 0 7).bind fun z1 => if z1 = 0 then (f_R_log_16 a0 a1 1 r) else (f_R_log_16 a0 a1 0 r)
abbrev rm_R_log : Room := { frames := 1, cells := 0, slots := 0, locals := 22 }
noncomputable def f_R_seed (a0 : Int32) (r : Rho) : Option (Int32 × Rho) :=
  (rld (r_set r 0 0) 1 16).bind fun v1 => (rst (r_set r 0 0) 1 16 a0).bind fun r2 => some (v1, r2)
abbrev rm_R_seed : Room := { frames := 0, cells := 0, slots := 0, locals := 0 }
noncomputable def f_R_undo_26 (N : Nat) : Nat → Int32 → Rho → Option (Int32 × Rho)
  | 0, _, _ => none
  | n + 1, x1, r => if 900 ≤ x1 then (some (1, r)) else ((rld r 5 ((900 * (r.1 6)) + x1)).bind fun v1 => (rst r 1 x1 v1).bind fun r2 => f_R_undo_26 N n (x1 + 1) r2)
noncomputable def f_R_undo (N : Nat) (r : Rho) : Option (Int32 × Rho) :=
  if ((r_set r 0 0).1 6) = 0 then (some (0, r_set r 0 0)) else (f_R_undo_26 N N 0 (r_set (r_set r 0 0) 6 (((r_set r 0 0).1 6) - 1)))
abbrev rm_R_undo : Room := { frames := 0, cells := 0, slots := 0, locals := 0 }
noncomputable def f_R_image_7 (N : Nat) : Nat → Int32 → Rho → Option (Rho)
  | 0, _, _ => none
  | n + 1, x1, r => if 1300 ≤ x1 then ((rpZ r 3 1).bind fun r1 => some r1) else ((rld r 1 x1).bind fun v2 => (rst r 2 x1 v2).bind fun r3 => f_R_image_7 N n (x1 + 1) r3)
noncomputable def f_R_image (N : Nat) (r : Rho) : Option (Rho) :=
  f_R_image_7 N N 0 (r_set r 0 0)
abbrev rm_R_image : Room := { frames := 0, cells := 0, slots := 0, locals := 0 }
noncomputable def f_R_back_16 (N : Nat) : Nat → Int32 → Rho → Option (Int32 × Rho)
  | 0, _, _ => none
  | n + 1, x1, r => if 1300 ≤ x1 then (some (1, r_set r 6 0)) else ((rld r 2 x1).bind fun v1 => (rst r 1 x1 v1).bind fun r2 => f_R_back_16 N n (x1 + 1) r2)
noncomputable def f_R_back (N : Nat) (r : Rho) : Option (Int32 × Rho) :=
  if ((r_set r 0 0).1 3) = 0 then (some (0, r_set r 0 0)) else (f_R_back_16 N N 0 (r_set r 0 0))
abbrev rm_R_back : Room := { frames := 0, cells := 0, slots := 0, locals := 0 }
noncomputable def f_R_count (N : Nat) (a0 : Int32) (r : Rho) : Option (Int32 × Rho) :=
  if a0 = 0 then ((rld (r_set r 0 0) 1 3).bind fun v12 => some (v12, r_set r 0 0)) else (if a0 = 1 then ((rld (r_set r 0 0) 1 4).bind fun v11 => some (v11, r_set r 0 0)) else (if a0 = 2 then ((rld (r_set r 0 0) 1 5).bind fun v10 => some (v10, r_set r 0 0)) else (if a0 = 3 then ((rld (r_set r 0 0) 1 6).bind fun v9 => some (v9, r_set r 0 0)) else (if a0 = 4 then ((rld (r_set r 0 0) 1 0).bind fun v8 => some (v8, r_set r 0 0)) else (if a0 = 5 then ((rld (r_set r 0 0) 1 1).bind fun v7 => some (v7, r_set r 0 0)) else ((f_R_isIn a0 6 10).bind fun z1 => if z1 = 0 then (if a0 = 11 then ((f_R_coldsNow N (r_set r 0 0)).bind fun z5 => some (z5, r_set r 0 0)) else (if a0 = 12 then ((rld (r_set r 0 0) 1 12).bind fun v4 => some (v4, r_set r 0 0)) else (if a0 = 13 then (some ((r_set r 0 0).1 6, r_set r 0 0)) else ((f_R_isIn a0 14 16).bind fun z2 => if z2 = 0 then (some ((-1), r_set r 0 0)) else ((rld (r_set r 0 0) 1 ((13 + a0) - 14)).bind fun v3 => some (v3, r_set r 0 0)))))) else ((rld (r_set r 0 0) 1 ((7 + a0) - 6)).bind fun v6 => some (v6, r_set r 0 0))))))))
abbrev rm_R_count : Room := { frames := 2, cells := 0, slots := 0, locals := 44 }
noncomputable def f_L_town (N : Nat) (a0 : Nat) (a1 : Nat) (M : Mem) : Option (Int32 × Mem) :=
  (ck M 10 a0).bind fun _ => (f_CT_town N a0 M).bind fun z1 => sx z1.1 (fun v2 => (lst z1.2 a1 0 (Int32.toInt64 v2)).bind fun M3 => some (0, M3)) (fun e => if e = "java/lang/IllegalArgumentException" then some (1, z1.2) else (if e = "java/lang/UnsupportedOperationException" then some (2, z1.2) else (none)))
abbrev rm_L_town : Room := { frames := 15, cells := 2, slots := 13, locals := 555 }
noncomputable def f_L_law (N : Nat) (a0 : Nat) (a1 : Nat) (M : Mem) : Option (Int32 × Mem) :=
  (ck M 10 a0).bind fun _ => (f_CT_law N a0 M).bind fun z1 => sx z1.1 (fun v2 => (lst z1.2 a1 0 (Int32.toInt64 v2)).bind fun M3 => some (0, M3)) (fun e => if e = "java/lang/IllegalArgumentException" then some (1, z1.2) else (none))
abbrev rm_L_law : Room := { frames := 187, cells := 8, slots := 876, locals := 7270 }
noncomputable def f_L_cost (a0 : Nat) (a1 : Int32) (a2 : Int32) (a3 : Nat) (M : Mem) : Option (Int32 × Mem) :=
  (ck M 10 a0).bind fun _ => (f_CT_cost a0 a1 a2 M).bind fun z1 => sx z1.1 (fun v2 => (lst z1.2 a3 0 (Int32.toInt64 v2)).bind fun M3 => some (0, M3)) (fun e => if e = "java/lang/IndexOutOfBoundsException" then some (1, z1.2) else (none))
abbrev rm_L_cost : Room := { frames := 8, cells := 2, slots := 12, locals := 152 }
noncomputable def f_L_habit (N : Nat) (a0 : Nat) (a1 : Int32) (a2 : Int32) (a3 : Nat) (M : Mem) : Option (Int32 × Mem) :=
  (ck M 10 a0).bind fun _ => (f_CT_habit N a0 a1 a2 M).bind fun z1 => sx z1.1 (fun v2 => (lst z1.2 a3 0 (Int32.toInt64 v2)).bind fun M3 => some (0, M3)) (fun e => if e = "java/lang/IndexOutOfBoundsException" then some (1, z1.2) else (none))
abbrev rm_L_habit : Room := { frames := 8, cells := 2, slots := 12, locals := 153 }
noncomputable def f_L_person (N : Nat) (a0 : Nat) (a1 : Int32) (a2 : Int32) (a3 : Nat) (M : Mem) : Option (Int32 × Mem) :=
  (ck M 10 a0).bind fun _ => (f_CT_person N a0 a1 a2 M).bind fun z1 => sx z1.1 (fun v2 => (lst z1.2 a3 0 (Int32.toInt64 v2)).bind fun M3 => some (0, M3)) (fun e => if e = "java/lang/IndexOutOfBoundsException" then some (1, z1.2) else (if e = "java/util/NoSuchElementException" then some (2, z1.2) else (none)))
abbrev rm_L_person : Room := { frames := 8, cells := 2, slots := 12, locals := 154 }
noncomputable def f_L_saw (a0 : Nat) (a1 : Int32) (a2 : Int32) (a3 : Int32) (a4 : Nat) (M : Mem) : Option (Int32 × Mem) :=
  (ck M 10 a0).bind fun _ => (f_CT_saw a0 a1 a2 a3 M).bind fun z1 => sx z1.1 (fun v2 => (lst z1.2 a4 0 (Int32.toInt64 v2)).bind fun M3 => some (0, M3)) (fun e => if e = "java/lang/IndexOutOfBoundsException" then some (1, z1.2) else (if e = "java/lang/IllegalArgumentException" then some (2, z1.2) else (none)))
abbrev rm_L_saw : Room := { frames := 9, cells := 3, slots := 18, locals := 177 }
noncomputable def f_L_tie (a0 : Nat) (a1 : Int32) (a2 : Int32) (a3 : Nat) (M : Mem) : Option (Int32 × Mem) :=
  (ck M 10 a0).bind fun _ => (f_CT_tie a0 a1 a2 M).bind fun z1 => sx z1.1 (fun v2 => (lst z1.2 a3 0 (Int32.toInt64 v2)).bind fun M3 => some (0, M3)) (fun e => if e = "java/lang/IndexOutOfBoundsException" then some (1, z1.2) else (none))
abbrev rm_L_tie : Room := { frames := 8, cells := 1, slots := 6, locals := 153 }
noncomputable def f_L_will (N : Nat) (a0 : Nat) (a1 : Int32) (a2 : Int32) (a3 : Nat) (M : Mem) : Option (Int32 × Mem) :=
  (ck M 10 a0).bind fun _ => (f_CT_will N a0 a1 a2 M).bind fun z1 => sx z1.1 (fun v2 => (lst z1.2 a3 0 (Int32.toInt64 v2)).bind fun M3 => some (0, M3)) (fun e => if e = "java/lang/IndexOutOfBoundsException" then some (1, z1.2) else (if e = "java/lang/IllegalArgumentException" then some (2, z1.2) else (none)))
abbrev rm_L_will : Room := { frames := 9, cells := 3, slots := 18, locals := 175 }
noncomputable def f_L_meet (N : Nat) (a0 : Nat) (a1 : Int32) (a2 : Int32) (a3 : Nat) (M : Mem) : Option (Int32 × Mem) :=
  (ck M 10 a0).bind fun _ => (f_CT_meet N a0 a1 a2 M).bind fun z1 => sx z1.1 (fun v2 => (lst z1.2 a3 0 (Int32.toInt64 v2)).bind fun M3 => some (0, M3)) (fun e => if e = "java/lang/IndexOutOfBoundsException" then some (1, z1.2) else (if e = "java/lang/IllegalArgumentException" then some (2, z1.2) else (none)))
abbrev rm_L_meet : Room := { frames := 9, cells := 3, slots := 18, locals := 187 }
noncomputable def f_L_rounds (N : Nat) (a0 : Nat) (a1 : Int32) (a2 : Nat) (M : Mem) : Option (Int32 × Mem) :=
  (ck M 10 a0).bind fun _ => (f_CT_rounds N a0 a1 M).bind fun z1 => sx z1.1 (fun v2 => (lst z1.2 a2 0 (Int32.toInt64 v2)).bind fun M3 => some (0, M3)) (fun e => if e = "java/lang/IllegalArgumentException" then some (1, z1.2) else (none))
abbrev rm_L_rounds : Room := { frames := 8, cells := 1, slots := 6, locals := 186 }
noncomputable def f_L_own (N : Nat) (a0 : Nat) (a1 : Int32) (a2 : Int32) (a3 : Nat) (M : Mem) : Option (Int32 × Mem) :=
  (ck M 10 a0).bind fun _ => (f_CT_own N a0 a1 a2 M).bind fun z1 => sx z1.1 (fun v2 => (lst z1.2 a3 0 (Int32.toInt64 v2)).bind fun M3 => some (0, M3)) (fun e => if e = "java/lang/IndexOutOfBoundsException" then some (1, z1.2) else (none))
abbrev rm_L_own : Room := { frames := 8, cells := 2, slots := 12, locals := 188 }
noncomputable def f_L_cold_16 (N : Nat) (a0 : Nat) (a1 : Int32) (a2 : Int32) (a3 : Nat) (y1 : Int32) (y2 : Int64) (M : Mem) : Option (Int32 × Mem) :=
  (lst M a3 y1 y2).bind fun M3 => some (0, M3)
noncomputable def f_L_cold (N : Nat) (a0 : Nat) (a1 : Int32) (a2 : Int32) (a3 : Nat) (M : Mem) : Option (Int32 × Mem) :=
  (ck M 10 a0).bind fun _ => (f_CT_cold N a0 a1 a2 M).bind fun z1 => sx z1.1 (fun v2 => if v2 = 0 then (f_L_cold_16 N a0 a1 a2 a3 0 0 z1.2) else (f_L_cold_16 N a0 a1 a2 a3 0 1 z1.2)) (fun e => if e = "java/lang/IndexOutOfBoundsException" then some (1, z1.2) else (none))
abbrev rm_L_cold : Room := { frames := 8, cells := 1, slots := 6, locals := 188 }
