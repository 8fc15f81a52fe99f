noncomputable def f_LR_readAny_10 (N : Nat) (dp : Nat → Int32 → Int32 → Mem → Option (Mem)) (this : Nat) (a0 : Int32) : Nat → Int32 → Mem → Option (Mem)
  | 0, _, _ => none
  | n + 1, x2, M => if x2 ≤ 0 then (some M) else ((ck M 2 this).bind fun _ => (f_TxR_takeWord_2 N this 17 M).bind fun z3 => if z3.1 = 0 then (some z3.2) else ((ck z3.2 2 this).bind fun _ => (f_LR_readAll N dp this a0 z3.2).bind fun z4 => (gR z4 2 this 6).bind fun v5 => (ck z4 1 v5).bind fun _ => (f_Law_addStep v5 14 0 z4).bind fun z6 => f_LR_readAny_10 N dp this a0 n (x2 + (-1)) z6))
noncomputable def f_LR_readAny (N : Nat) (dp : Nat → Int32 → Int32 → Mem → Option (Mem)) (this : Nat) (a0 : Int32) (M : Mem) : Option (Mem) :=
  (ck M 2 this).bind fun _ => (f_LR_readAll N dp this a0 M).bind fun z1 => (ck z1 2 this).bind fun _ => (f_TxR_bytesLeft_2 this z1).bind fun z2 => f_LR_readAny_10 N dp this a0 N z2 z1
abbrev rm_LR_readAny (d : Nat) : Room := { frames := 60 + 12 * d + 3, cells := 0, slots := 0, locals := 3000 + 400 * d + 180 }
noncomputable def f_TxR_takenIsWrong_2 (this : Nat) (M : Mem) : Option (Mem) :=
  (gI M 2 this 0).bind fun v1 => if v1 = (-1) then ((gI M 2 this 3).bind fun v2 => (pI M 2 this 0 v2).bind fun M3 => some M3) else (some M)
abbrev rm_TxR_takenIsWrong_2 : Room := { frames := 0, cells := 0, slots := 0, locals := 0 }
noncomputable def f_LR_readDeeper (N : Nat) : Nat → Nat → Int32 → Int32 → Mem → Option (Mem)
  | 0, _, _, _, _ => none
  | d + 1, this, a0, a1, M => if a1 ≤ 6 then (if a0 = 0 then ((ck M 2 this).bind fun _ => (f_LR_readAny N (f_LR_readDeeper N d) this a1 M).bind fun z1 => (ck z1 2 this).bind fun _ => (f_TxR_readSign_2 N this 41 z1).bind fun z2 => some z2) else ((ck M 2 this).bind fun _ => (f_LR_readAtom N (f_LR_readDeeper N d) this a1 M).bind fun z3 => (gR z3 2 this 6).bind fun v4 => (ck z3 1 v4).bind fun _ => (f_Law_addStep v4 9 0 z3).bind fun z5 => some z5)) else ((ck M 2 this).bind fun _ => (f_TxR_takenIsWrong_2 this M).bind fun z6 => some z6)
noncomputable def f_Law_addLine (this : Nat) (a0 : Int32) (M : Mem) : Option (Mem) :=
  (gI M 1 this 0).bind fun v1 => if 12 ≤ v1 then (some M) else ((gR M 1 this 1).bind fun v2 => (gI M 1 this 0).bind fun v3 => (ast M v2 v3 a0).bind fun M4 => (gR M4 1 this 2).bind fun v5 => (gI M4 1 this 0).bind fun v6 => (gI M4 1 this 5).bind fun v7 => (ast M4 v5 v6 v7).bind fun M8 => (gI M8 1 this 0).bind fun v9 => (pI M8 1 this 0 (v9 + 1)).bind fun M10 => some M10)
abbrev rm_Law_addLine : Room := { frames := 0, cells := 0, slots := 0, locals := 0 }
noncomputable def f_LR_readLine_19 (N : Nat) (this : Nat) (x1 : Int32) (M : Mem) : Option (Mem) :=
  (gR M 2 this 6).bind fun v4 => (ck M 1 v4).bind fun _ => (f_Law_addLine v4 x1 M).bind fun z5 => some z5
noncomputable def f_LR_readLine (N : Nat) (this : Nat) (M : Mem) : Option (Mem) :=
  (ck M 2 this).bind fun _ => (f_TxR_readGreeting_2 N this M).bind fun z1 => (ck z1.2 2 this).bind fun _ => (f_TxR_takeWord_2 N this 6 z1.2).bind fun z2 => if z2.1 = 0 then (f_LR_readLine_19 N this z1.1 z2.2) else ((ck z2.2 2 this).bind fun _ => (f_LR_readAny N (f_LR_readDeeper N 10) this 0 z2.2).bind fun z3 => f_LR_readLine_19 N this z1.1 z3)
abbrev rm_LR_readLine : Room := { frames := 184, cells := 0, slots := 0, locals := 7202 }
noncomputable def f_TxR_readLines_2_85 (N : Nat) (this : Nat) (a0 : Int32) (M : Mem) : Option (Int32 × Mem) :=
  (gI M 2 this 0).bind fun v10 => if v10 = (-1) then (some (1, M)) else (some (0, M))
noncomputable def f_TxR_readLines_2_77 (N : Nat) (this : Nat) (a0 : Int32) (x2 : Int32) (M : Mem) : Option (Int32 × Mem) :=
  if x2 = 0 then (f_TxR_readLines_2_85 N this a0 M) else ((ck M 2 this).bind fun _ => (f_TxR_nextIsWrong_2 this M).bind fun z8 => f_TxR_readLines_2_85 N this a0 z8)
noncomputable def f_TxR_readLines_2_60 (N : Nat) (this : Nat) (a0 : Int32) (k23 : Int32 → Int32 → Mem → Option (Int32 × Mem)) (x3 : Int32) (y0 : Int32) (M : Mem) : Option (Int32 × Mem) :=
  if y0 = 0 then (k23 y0 (x3 + 1) M) else ((ck M 2 this).bind fun _ => (f_TxR_readSign_2 N this 59 M).bind fun z9 => k23 y0 (x3 + 1) z9)
noncomputable def f_TxR_readLines_2_23 (N : Nat) (this : Nat) (a0 : Int32) : Nat → Int32 → Int32 → Mem → Option (Int32 × Mem)
  | 0, _, _, _ => none
  | n + 1, x2, x3, M => if a0 ≤ x3 then (f_TxR_readLines_2_77 N this a0 x2 M) else (if x2 = 0 then (f_TxR_readLines_2_77 N this a0 x2 M) else ((gI M 2 this 0).bind fun v4 => if v4 = (-1) then ((ck M 2 this).bind fun _ => (f_LR_readLine N this M).bind fun z5 => (gI z5 2 this 4).bind fun v6 => (gI z5 2 this 2).bind fun v7 => if v7 ≤ v6 then (f_TxR_readLines_2_60 N this a0 (f_TxR_readLines_2_23 N this a0 n) x3 0 z5) else (f_TxR_readLines_2_60 N this a0 (f_TxR_readLines_2_23 N this a0 n) x3 1 z5)) else (f_TxR_readLines_2_77 N this a0 x2 M)))
noncomputable def f_TxR_readLines_2_20 (N : Nat) (this : Nat) (a0 : Int32) (y0 : Int32) (M : Mem) : Option (Int32 × Mem) :=
  f_TxR_readLines_2_23 N this a0 N y0 0 M
noncomputable def f_TxR_readLines_2 (N : Nat) (this : Nat) (a0 : Int32) (M : Mem) : Option (Int32 × Mem) :=
  (ck M 2 this).bind fun _ => (f_TxR_goOn_2 N this M).bind fun z1 => (gI z1 2 this 4).bind fun v2 => (gI z1 2 this 2).bind fun v3 => if v3 ≤ v2 then (f_TxR_readLines_2_20 N this a0 0 z1) else (f_TxR_readLines_2_20 N this a0 1 z1)
abbrev rm_TxR_readLines_2 : Room := { frames := 185, cells := 0, slots := 0, locals := 7223 }
noncomputable def f_TxR_bytesLeft_8 (this : Nat) (M : Mem) : Option (Int32) :=
  (gI M 8 this 2).bind fun v1 => (gI M 8 this 4).bind fun v2 => some (v1 - v2)
abbrev rm_TxR_bytesLeft_8 : Room := { frames := 0, cells := 0, slots := 0, locals := 0 }
noncomputable def f_TxR_isWrong_2 (this : Nat) (M : Mem) : Option (Int32) :=
  (gI M 2 this 0).bind fun v1 => if v1 = (-1) then (some 0) else (some 1)
abbrev rm_TxR_isWrong_2 : Room := { frames := 0, cells := 0, slots := 0, locals := 0 }
noncomputable def f_Law_init (this : Nat) (a0 : Int32) (M : Mem) : Option (Mem) :=
  (nwI M 12 12).bind fun z1 => (pR z1.2 1 this 1 z1.1).bind fun M2 => (nwI M2 12 12).bind fun z3 => (pR z3.2 1 this 2 z3.1).bind fun M4 => (nwI M4 32 32).bind fun z5 => (pR z5.2 1 this 6 z5.1).bind fun M6 => (f_Math_max a0 0).bind fun z7 => (nwI M6 400 z7).bind fun z8 => (pR z8.2 1 this 3 z8.1).bind fun M9 => (f_Math_max a0 0).bind fun z10 => (nwI M9 400 z10).bind fun z11 => (pR z11.2 1 this 4 z11.1).bind fun M12 => some M12
abbrev rm_Law_init : Room := { frames := 1, cells := 5, slots := 856, locals := 30 }
noncomputable def f_LR_init (this : Nat) (a0 : Nat) (a1 : Int32) (a2 : Nat) (M : Mem) : Option (Mem) :=
  (f_TxR_init_2 this a0 a1 M).bind fun z1 => (pR z1 2 this 6 a2).bind fun M2 => some M2
abbrev rm_LR_init : Room := { frames := 2, cells := 0, slots := 0, locals := 52 }
noncomputable def f_CT_law (N : Nat) (this : Nat) (M : Mem) : Option ((Int32 ⊕ String) × Mem) :=
  (ck M 10 this).bind fun _ => (f_CT_useTapeUp this M).bind fun z1 => (f_Law_init (m_sz z1.2) z1.1 (m_new z1.2 (11, 0))).bind fun z2 => (gR (m_new z2 (12, 0)) 10 this 0).bind fun v3 => (f_LR_init (m_sz z2) v3 z1.1 (m_sz z1.2) (m_new z2 (12, 0))).bind fun z4 => (ck z4 2 (m_sz z2)).bind fun _ => (f_TxR_readLines_2 N (m_sz z2) 12 z4).bind fun z5 => (gI z5.2 2 (m_sz z2) 0).bind fun v6 => (pI z5.2 10 this 2 v6).bind fun M7 => if z5.1 = 0 then (some (.inr "java/lang/IllegalArgumentException", m_new M7 (0, 0))) else ((gR M7 10 this 3).bind fun v8 => (pR M7 7 v8 6 (m_sz z1.2)).bind fun M9 => (pI M9 10 this 7 0).bind fun M10 => (gI M10 1 (m_sz z1.2) 0).bind fun v11 => some (.inl v11, M10))
abbrev rm_CT_law : Room := { frames := 186, cells := 8, slots := 876, locals := 7246 }
noncomputable def f_CT_needGreeting_10 (a0 : Int32) (M : Mem) : Option ((Unit ⊕ String) × Mem) :=
  some (.inr "java/lang/IndexOutOfBoundsException", m_new M (0, 0))
noncomputable def f_CT_needGreeting (a0 : Int32) (M : Mem) : Option ((Unit ⊕ String) × Mem) :=
  if a0 < 0 then (f_CT_needGreeting_10 a0 M) else (if a0 < 32 then (some (.inl (), M)) else (f_CT_needGreeting_10 a0 M))
abbrev rm_CT_needGreeting : Room := { frames := 6, cells := 1, slots := 6, locals := 110 }
noncomputable def f_CT_cost (this : Nat) (a0 : Int32) (a1 : Int32) (M : Mem) : Option ((Int32 ⊕ String) × Mem) :=
  (f_CT_needGreeting a0 M).bind fun z1 => sx z1.1 (fun v2 => (f_CT_needGreeting a1 z1.2).bind fun z3 => sx z3.1 (fun v4 => (gR z3.2 10 this 3).bind fun v5 => (gR z3.2 7 v5 0).bind fun v6 => (gR z3.2 0 v6 0).bind fun v7 => (ck z3.2 4 v7).bind fun _ => (f_Manners_costOf v7 a0 a1 z3.2).bind fun z8 => some (.inl z8, z3.2)) (fun e => some (.inr e, z3.2))) (fun e => some (.inr e, z1.2))
abbrev rm_CT_cost : Room := { frames := 7, cells := 2, slots := 12, locals := 130 }
noncomputable def f_CT_needLand_18 (this : Nat) (a0 : Int32) (M : Mem) : Option ((Unit ⊕ String) × Mem) :=
  some (.inr "java/lang/IndexOutOfBoundsException", m_new M (0, 0))
noncomputable def f_CT_needLand (this : Nat) (a0 : Int32) (M : Mem) : Option ((Unit ⊕ String) × Mem) :=
  if a0 < 0 then (f_CT_needLand_18 this a0 M) else ((gR M 10 this 3).bind fun v1 => (gR M 7 v1 0).bind fun v2 => (gI M 0 v2 1).bind fun v3 => if a0 < v3 then (some (.inl (), M)) else (f_CT_needLand_18 this a0 M))
abbrev rm_CT_needLand : Room := { frames := 6, cells := 1, slots := 6, locals := 110 }
noncomputable def f_Lands_weightOf_5 (N : Nat) (this : Nat) (a0 : Int32) (a1 : Int32) (M : Mem) : Nat → Int32 → Int32 → Option (Int32)
  | 0, _, _ => none
  | n + 1, x3, x4 => (gI M 0 this 2).bind fun v1 => if v1 ≤ x4 then (some x3) else (if 24 ≤ x4 then (some x3) else ((gR M 0 this 3).bind fun v2 => (ald M v2 x4).bind fun v3 => if v3 = a0 then ((gR M 0 this 4).bind fun v4 => (ald M v4 x4).bind fun v5 => if v5 = a1 then ((gR M 0 this 5).bind fun v6 => (ald M v6 x4).bind fun v7 => f_Lands_weightOf_5 N this a0 a1 M n (x3 + v7) (x4 + 1)) else (f_Lands_weightOf_5 N this a0 a1 M n x3 (x4 + 1))) else (f_Lands_weightOf_5 N this a0 a1 M n x3 (x4 + 1))))
noncomputable def f_Lands_weightOf (N : Nat) (this : Nat) (a0 : Int32) (a1 : Int32) (M : Mem) : Option (Int32) :=
  f_Lands_weightOf_5 N this a0 a1 M N 0 0
abbrev rm_Lands_weightOf : Room := { frames := 0, cells := 0, slots := 0, locals := 0 }
noncomputable def f_CT_habit (N : Nat) (this : Nat) (a0 : Int32) (a1 : Int32) (M : Mem) : Option ((Int32 ⊕ String) × Mem) :=
  (ck M 10 this).bind fun _ => (f_CT_needLand this a0 M).bind fun z1 => sx z1.1 (fun v2 => (f_CT_needGreeting a1 z1.2).bind fun z3 => sx z3.1 (fun v4 => (gR z3.2 10 this 3).bind fun v5 => (gR z3.2 7 v5 0).bind fun v6 => (ck z3.2 0 v6).bind fun _ => (f_Lands_weightOf N v6 a0 a1 z3.2).bind fun z7 => some (.inl z7, z3.2)) (fun e => some (.inr e, z3.2))) (fun e => some (.inr e, z1.2))
abbrev rm_CT_habit : Room := { frames := 7, cells := 2, slots := 12, locals := 131 }
noncomputable def f_CT_needPerson_15 (this : Nat) (a0 : Int32) (M : Mem) : Option ((Unit ⊕ String) × Mem) :=
  some (.inr "java/lang/IndexOutOfBoundsException", m_new M (0, 0))
noncomputable def f_CT_needPerson (this : Nat) (a0 : Int32) (M : Mem) : Option ((Unit ⊕ String) × Mem) :=
  if a0 < 0 then (f_CT_needPerson_15 this a0 M) else ((gR M 10 this 3).bind fun v1 => (gI M 7 v1 2).bind fun v2 => if a0 < v2 then (some (.inl (), M)) else (f_CT_needPerson_15 this a0 M))
abbrev rm_CT_needPerson : Room := { frames := 6, cells := 1, slots := 6, locals := 110 }
noncomputable def f_CT_needWhat_9 (a0 : Int32) (a1 : Int32) (M : Mem) : Option ((Unit ⊕ String) × Mem) :=
  some (.inr "java/util/NoSuchElementException", m_new M (0, 0))
noncomputable def f_CT_needWhat (a0 : Int32) (a1 : Int32) (M : Mem) : Option ((Unit ⊕ String) × Mem) :=
  if a0 < 0 then (f_CT_needWhat_9 a0 a1 M) else (if a0 ≤ a1 then (some (.inl (), M)) else (f_CT_needWhat_9 a0 a1 M))
abbrev rm_CT_needWhat : Room := { frames := 6, cells := 1, slots := 6, locals := 110 }
noncomputable def f_Person_meetings_4 (N : Nat) (this : Nat) (M : Mem) : Nat → Int32 → Int32 → Option (Int32)
  | 0, _, _ => none
  | n + 1, x1, x2 => if 10 ≤ x2 then (some x1) else ((gR M 5 this 8).bind fun v1 => (ald M v1 x2).bind fun v2 => f_Person_meetings_4 N this M n (x1 + v2) (x2 + 1))
noncomputable def f_Person_meetings (N : Nat) (this : Nat) (M : Mem) : Option (Int32) :=
  f_Person_meetings_4 N this M N 0 0
abbrev rm_Person_meetings : Room := { frames := 0, cells := 0, slots := 0, locals := 0 }
noncomputable def f_CT_person (N : Nat) (this : Nat) (a0 : Int32) (a1 : Int32) (M : Mem) : Option ((Int32 ⊕ String) × Mem) :=
  (ck M 10 this).bind fun _ => (f_CT_needPerson this a0 M).bind fun z1 => sx z1.1 (fun v2 => (f_CT_needWhat a1 6 z1.2).bind fun z3 => sx z3.1 (fun v4 => (gR z3.2 10 this 3).bind fun v5 => (gR z3.2 7 v5 1).bind fun v6 => (ard z3.2 2 v6 a0).bind fun v7 => if a1 = 0 then ((gI z3.2 5 v7 0).bind fun v8 => some (.inl v8, z3.2)) else (if a1 = 1 then ((gI z3.2 5 v7 1).bind fun v9 => some (.inl v9, z3.2)) else (if a1 = 2 then ((gI z3.2 5 v7 2).bind fun v10 => some (.inl v10, z3.2)) else (if a1 = 3 then ((gI z3.2 5 v7 3).bind fun v11 => some (.inl v11, z3.2)) else (if a1 = 4 then ((gI z3.2 5 v7 4).bind fun v12 => if v12 = 0 then (some (.inl 0, z3.2)) else (some (.inl 1, z3.2))) else (if a1 = 5 then ((gI z3.2 5 v7 5).bind fun v13 => some (.inl v13, z3.2)) else ((ck z3.2 5 v7).bind fun _ => (f_Person_meetings N v7 z3.2).bind fun z14 => some (.inl z14, z3.2)))))))) (fun e => some (.inr e, z3.2))) (fun e => some (.inr e, z1.2))
abbrev rm_CT_person : Room := { frames := 7, cells := 2, slots := 12, locals := 131 }
noncomputable def f_CT_needTwo (this : Nat) (a0 : Int32) (a1 : Int32) (M : Mem) : Option ((Unit ⊕ String) × Mem) :=
  (ck M 10 this).bind fun _ => (f_CT_needPerson this a0 M).bind fun z1 => sx z1.1 (fun v2 => (ck z1.2 10 this).bind fun _ => (f_CT_needPerson this a1 z1.2).bind fun z3 => sx z3.1 (fun v4 => if a0 = a1 then (some (.inr "java/lang/IllegalArgumentException", m_new z3.2 (0, 0))) else (some (.inl (), z3.2))) (fun e => some (.inr e, z3.2))) (fun e => some (.inr e, z1.2))
abbrev rm_CT_needTwo : Room := { frames := 7, cells := 3, slots := 18, locals := 131 }
noncomputable def f_CT_saw (this : Nat) (a0 : Int32) (a1 : Int32) (a2 : Int32) (M : Mem) : Option ((Int32 ⊕ String) × Mem) :=
  (ck M 10 this).bind fun _ => (f_CT_needTwo this a0 a1 M).bind fun z1 => sx z1.1 (fun v2 => (gR z1.2 10 this 3).bind fun v3 => (gR z1.2 7 v3 1).bind fun v4 => (ard z1.2 2 v4 a0).bind fun v5 => if a2 = 0 then ((gR z1.2 5 v5 9).bind fun v6 => (ald z1.2 v6 a1).bind fun v7 => some (.inl v7, z1.2)) else ((gR z1.2 5 v5 8).bind fun v8 => (ald z1.2 v8 a1).bind fun v9 => some (.inl v9, z1.2))) (fun e => some (.inr e, z1.2))
abbrev rm_CT_saw : Room := { frames := 8, cells := 3, slots := 18, locals := 153 }
noncomputable def f_CT_needTie_15 (this : Nat) (a0 : Int32) (M : Mem) : Option ((Unit ⊕ String) × Mem) :=
  some (.inr "java/lang/IndexOutOfBoundsException", m_new M (0, 0))
noncomputable def f_CT_needTie (this : Nat) (a0 : Int32) (M : Mem) : Option ((Unit ⊕ String) × Mem) :=
  if a0 < 0 then (f_CT_needTie_15 this a0 M) else ((gR M 10 this 3).bind fun v1 => (gI M 7 v1 5).bind fun v2 => if a0 < v2 then (some (.inl (), M)) else (f_CT_needTie_15 this a0 M))
abbrev rm_CT_needTie : Room := { frames := 6, cells := 1, slots := 6, locals := 110 }
noncomputable def f_CT_tie (this : Nat) (a0 : Int32) (a1 : Int32) (M : Mem) : Option ((Int32 ⊕ String) × Mem) :=
  (ck M 10 this).bind fun _ => (f_CT_needTie this a0 M).bind fun z1 => sx z1.1 (fun v2 => if a1 = 0 then ((gR z1.2 10 this 3).bind fun v3 => (gR z1.2 7 v3 3).bind fun v4 => (ald z1.2 v4 a0).bind fun v5 => some (.inl v5, z1.2)) else ((gR z1.2 10 this 3).bind fun v6 => (gR z1.2 7 v6 4).bind fun v7 => (ald z1.2 v7 a0).bind fun v8 => some (.inl v8, z1.2))) (fun e => some (.inr e, z1.2))
abbrev rm_CT_tie : Room := { frames := 7, cells := 1, slots := 6, locals := 131 }
noncomputable def f_Law_valueOf (a0 : Int32) (a1 : Nat) (a2 : Int32) (a3 : Int32) (M : Mem) : Option (Int32) :=
  (gR M 7 a1 1).bind fun v1 => (ard M 2 v1 a2).bind fun v2 => (gR M 7 a1 1).bind fun v3 => (ard M 2 v3 a3).bind fun v4 => if a0 = 1 then (some a2) else (if a0 = 2 then (some a3) else (if a0 = 3 then ((gI M 5 v2 2).bind fun v5 => some v5) else (if a0 = 4 then ((gI M 5 v4 2).bind fun v6 => some v6) else (if a0 = 5 then ((gR M 5 v2 8).bind fun v7 => (ald M v7 a3).bind fun v8 => some v8) else (if a0 = 6 then ((gI M 7 a1 9).bind fun v9 => some v9) else (if a0 = 7 then ((gI M 5 v2 0).bind fun v10 => (gI M 5 v4 0).bind fun v11 => if v10 = v11 then (some 1) else (some 0)) else ((gI M 5 v2 4).bind fun v12 => if v12 = 0 then ((gI M 5 v4 4).bind fun v13 => if v13 = 0 then (some 0) else (some 1)) else (some 1))))))))
abbrev rm_Law_valueOf : Room := { frames := 0, cells := 0, slots := 0, locals := 0 }
noncomputable def f_Law_joined (a0 : Int32) (a1 : Int32) (a2 : Int32) : Option (Int32) :=
  if a0 = 10 then (some (a1 + a2)) else (if a0 = 11 then (if a2 ≤ a1 then (some 0) else (some 1)) else (if a0 = 12 then (if a1 ≤ a2 then (some 0) else (some 1)) else (if a0 = 13 then (some (a1 &&& a2)) else (some (a1 ||| a2)))))
abbrev rm_Law_joined : Room := { frames := 0, cells := 0, slots := 0, locals := 0 }
noncomputable def f_Law_holds_188 (N : Nat) (this : Nat) (a0 : Int32) (a1 : Int32) (a2 : Nat) (a3 : Int32) (a4 : Int32) (M : Mem) : Option (Int32 × Mem) :=
  (gR M 1 this 6).bind fun v11 => (ald M v11 0).bind fun v12 => if v12 = 0 then (some (0, M)) else (some (1, M))
noncomputable def f_Law_holds_136 (N : Nat) (this : Nat) (a0 : Int32) (a1 : Int32) (a2 : Nat) (a3 : Int32) (a4 : Int32) (k13 : Int32 → Int32 → Mem → Option (Int32 × Mem)) (x6 : Int32) (x7 : Int32) (x8 : Int32) (M : Mem) : Option (Int32 × Mem) :=
  if x8 ≤ 9 then (k13 x6 (x7 + 1) M) else (if x6 < 2 then (k13 x6 (x7 + 1) M) else ((gR M 1 this 6).bind fun v18 => (gR M 1 this 6).bind fun v19 => (ald M v19 ((x6 + (-1)) - 1)).bind fun v20 => (gR M 1 this 6).bind fun v21 => (ald M v21 (x6 + (-1))).bind fun v22 => (f_Law_joined x8 v20 v22).bind fun z23 => (ast M v18 ((x6 + (-1)) - 1) z23).bind fun M24 => k13 (x6 + (-1)) (x7 + 1) M24))
noncomputable def f_Law_holds_100 (N : Nat) (this : Nat) (a0 : Int32) (a1 : Int32) (a2 : Nat) (a3 : Int32) (a4 : Int32) (k13 : Int32 → Int32 → Mem → Option (Int32 × Mem)) (x6 : Int32) (x7 : Int32) (x8 : Int32) (M : Mem) : Option (Int32 × Mem) :=
  if x8 = 9 then (if x6 < 1 then (f_Law_holds_136 N this a0 a1 a2 a3 a4 k13 x6 x7 x8 M) else ((gR M 1 this 6).bind fun v13 => (gR M 1 this 6).bind fun v14 => (ald M v14 (x6 - 1)).bind fun v15 => (ast M v13 (x6 - 1) (1 - v15)).bind fun M16 => k13 x6 (x7 + 1) M16)) else (f_Law_holds_136 N this a0 a1 a2 a3 a4 k13 x6 x7 x8 M)
noncomputable def f_Law_holds_93 (N : Nat) (this : Nat) (a0 : Int32) (a1 : Int32) (a2 : Nat) (a3 : Int32) (a4 : Int32) (k13 : Int32 → Int32 → Mem → Option (Int32 × Mem)) (x6 : Int32) (x7 : Int32) (y0 : Nat) (y1 : Int32) (y2 : Int32) (M : Mem) : Option (Int32 × Mem) :=
  (ast M y0 y1 y2).bind fun M17 => k13 (x6 + 1) (x7 + 1) M17
noncomputable def f_Law_holds_13 (N : Nat) (this : Nat) (a0 : Int32) (a1 : Int32) (a2 : Nat) (a3 : Int32) (a4 : Int32) : Nat → Int32 → Int32 → Mem → Option (Int32 × Mem)
  | 0, _, _, _ => none
  | n + 1, x6, x7, M => if a1 ≤ x7 then (f_Law_holds_188 N this a0 a1 a2 a3 a4 M) else ((gR M 1 this 3).bind fun v1 => (aln M v1).bind fun v2 => if v2 ≤ x7 then (f_Law_holds_188 N this a0 a1 a2 a3 a4 M) else ((gR M 1 this 4).bind fun v3 => (aln M v3).bind fun v4 => if v4 ≤ x7 then (f_Law_holds_188 N this a0 a1 a2 a3 a4 M) else ((gR M 1 this 3).bind fun v5 => (ald M v5 x7).bind fun v6 => if 9 ≤ v6 then (f_Law_holds_100 N this a0 a1 a2 a3 a4 (f_Law_holds_13 N this a0 a1 a2 a3 a4 n) x6 x7 v6 M) else (if 32 ≤ x6 then (f_Law_holds_100 N this a0 a1 a2 a3 a4 (f_Law_holds_13 N this a0 a1 a2 a3 a4 n) x6 x7 v6 M) else ((gR M 1 this 6).bind fun v7 => if v6 = 0 then ((gR M 1 this 4).bind fun v9 => (ald M v9 x7).bind fun v10 => f_Law_holds_93 N this a0 a1 a2 a3 a4 (f_Law_holds_13 N this a0 a1 a2 a3 a4 n) x6 x7 v7 x6 v10 M) else ((f_Law_valueOf v6 a2 a3 a4 M).bind fun z8 => f_Law_holds_93 N this a0 a1 a2 a3 a4 (f_Law_holds_13 N this a0 a1 a2 a3 a4 n) x6 x7 v7 x6 z8 M))))))
noncomputable def f_Law_holds (N : Nat) (this : Nat) (a0 : Int32) (a1 : Int32) (a2 : Nat) (a3 : Int32) (a4 : Int32) (M : Mem) : Option (Int32 × Mem) :=
  if a0 = a1 then (some (1, M)) else (f_Law_holds_13 N this a0 a1 a2 a3 a4 N 0 a0 M)
abbrev rm_Law_holds : Room := { frames := 1, cells := 0, slots := 0, locals := 25 }
noncomputable def f_Law_greetingFor_6 (N : Nat) (this : Nat) (a0 : Nat) (a1 : Int32) (a2 : Int32) : Nat → Int32 → Int32 → Mem → Option (Int32 × Mem)
  | 0, _, _, _ => none
  | n + 1, x4, x5, M => (gI M 1 this 0).bind fun v1 => if v1 ≤ x5 then (some ((-1), M)) else (if 12 ≤ x5 then (some ((-1), M)) else ((gR M 1 this 2).bind fun v2 => (ald M v2 x5).bind fun v3 => (ck M 1 this).bind fun _ => (f_Law_holds N this x4 v3 a0 a1 a2 M).bind fun z4 => if z4.1 = 0 then ((gR z4.2 1 this 2).bind fun v5 => (ald z4.2 v5 x5).bind fun v6 => f_Law_greetingFor_6 N this a0 a1 a2 n v6 (x5 + 1) z4.2) else ((gR z4.2 1 this 1).bind fun v7 => (ald z4.2 v7 x5).bind fun v8 => some (v8, z4.2))))
noncomputable def f_Law_greetingFor (N : Nat) (this : Nat) (a0 : Nat) (a1 : Int32) (a2 : Int32) (M : Mem) : Option (Int32 × Mem) :=
  f_Law_greetingFor_6 N this a0 a1 a2 N 0 0 M
abbrev rm_Law_greetingFor : Room := { frames := 2, cells := 0, slots := 0, locals := 53 }
noncomputable def f_Town_greetingFor_21 (N : Nat) (this : Nat) (a0 : Int32) (a1 : Int32) (y0 : Int32) (M : Mem) : Option (Int32 × Mem) :=
  if y0 = (-1) then ((gR M 7 this 1).bind fun v4 => (ard M 2 v4 a0).bind fun v5 => (gR M 5 v5 9).bind fun v6 => (ald M v6 a1).bind fun v7 => if v7 = (-1) then ((gR M 7 this 1).bind fun v8 => (ard M 2 v8 a0).bind fun v9 => (gI M 5 v9 1).bind fun v10 => some (v10, M)) else (some (v7, M))) else (some (y0, M))
noncomputable def f_Town_greetingFor (N : Nat) (this : Nat) (a0 : Int32) (a1 : Int32) (M : Mem) : Option (Int32 × Mem) :=
  (gN M 7 this 6).bind fun v1 => if Option.isSome v1 = true then ((gR M 7 this 6).bind fun v2 => (ck M 1 v2).bind fun _ => (f_Law_greetingFor N v2 this a0 a1 M).bind fun z3 => f_Town_greetingFor_21 N this a0 a1 z3.1 z3.2) else (f_Town_greetingFor_21 N this a0 a1 (-1) M)
abbrev rm_Town_greetingFor : Room := { frames := 3, cells := 0, slots := 0, locals := 78 }
noncomputable def f_CT_will (N : Nat) (this : Nat) (a0 : Int32) (a1 : Int32) (M : Mem) : Option ((Int32 ⊕ String) × Mem) :=
  (ck M 10 this).bind fun _ => (f_CT_needTwo this a0 a1 M).bind fun z1 => sx z1.1 (fun v2 => (gR z1.2 10 this 3).bind fun v3 => (ck z1.2 7 v3).bind fun _ => (f_Town_greetingFor N v3 a0 a1 z1.2).bind fun z4 => some (.inl z4.1, z4.2)) (fun e => some (.inr e, z1.2))
abbrev rm_CT_will : Room := { frames := 8, cells := 3, slots := 18, locals := 153 }
noncomputable def f_CT_rememberAct_58 (N : Nat) (this : Nat) (M : Mem) : Option (Mem) :=
  (gR M 10 this 6).bind fun v4 => (gI M 10 this 7).bind fun v5 => (ard M 3 v4 v5).bind fun v6 => (gR M 10 this 3).bind fun v7 => (ck M 7 v6).bind fun _ => (f_Town_copyFrom N v6 v7 M).bind fun z8 => (gI z8 10 this 7).bind fun v9 => (pI z8 10 this 7 (v9 + 1)).bind fun M10 => some M10
noncomputable def f_CT_rememberAct_18 (N : Nat) (this : Nat) : Nat → Nat → Int32 → Mem → Option (Mem)
  | 0, _, _, _ => none
  | n + 1, x1, x2, M => if 12 ≤ x2 then ((gR M 10 this 6).bind fun v11 => (ars M 3 v11 11 x1).bind fun M12 => (pI M12 10 this 7 11).bind fun M13 => f_CT_rememberAct_58 N this M13) else ((gR M 10 this 6).bind fun v14 => (gR M 10 this 6).bind fun v15 => (ard M 3 v15 x2).bind fun v16 => (ars M 3 v14 (x2 - 1) v16).bind fun M17 => f_CT_rememberAct_18 N this n x1 (x2 + 1) M17)
noncomputable def f_CT_rememberAct (N : Nat) (this : Nat) (M : Mem) : Option (Mem) :=
  (gI M 10 this 7).bind fun v1 => if v1 = 12 then ((gR M 10 this 6).bind fun v2 => (ard M 3 v2 0).bind fun v3 => f_CT_rememberAct_18 N this N v3 1 M) else (f_CT_rememberAct_58 N this M)
abbrev rm_CT_rememberAct : Room := { frames := 3, cells := 0, slots := 0, locals := 143 }
noncomputable def f_Town_drawBelow100 (this : Nat) (M : Mem) : Option (Int32 × Mem) :=
  (gI M 7 this 8).bind fun v1 => (pI M 7 this 8 ((1103515245 * v1) + 12345)).bind fun M2 => (gI M2 7 this 8).bind fun v3 => some (((ushr v3 16) &&& 32767) - ((ushr v3 16) &&& 32767) / 100 * 100, M2)
abbrev rm_Town_drawBelow100 : Room := { frames := 0, cells := 0, slots := 0, locals := 0 }
noncomputable def f_Town_whoYields_26 (this : Nat) (a0 : Int32) (a1 : Int32) (y0 : Int32) (M : Mem) : Option (Int32 × Mem) :=
  (ck M 7 this).bind fun _ => (f_Town_drawBelow100 this M).bind fun z7 => (gR z7.2 7 this 1).bind fun v8 => (ard z7.2 2 v8 y0).bind fun v9 => (gI z7.2 5 v9 3).bind fun v10 => if v10 ≤ z7.1 then ((ck z7.2 7 this).bind fun _ => (f_Town_drawBelow100 this z7.2).bind fun z11 => (gR z11.2 7 this 1).bind fun v12 => (ard z11.2 2 v12 ((a0 + a1) - y0)).bind fun v13 => (gI z11.2 5 v13 3).bind fun v14 => if v14 ≤ z11.1 then (some ((-1), z11.2)) else (some ((a0 + a1) - y0, z11.2))) else (some (y0, z7.2))
noncomputable def f_Town_whoYields (this : Nat) (a0 : Int32) (a1 : Int32) (M : Mem) : Option (Int32 × Mem) :=
  (gR M 7 this 1).bind fun v1 => (ard M 2 v1 a1).bind fun v2 => (gI M 5 v2 2).bind fun v3 => (gR M 7 this 1).bind fun v4 => (ard M 2 v4 a0).bind fun v5 => (gI M 5 v5 2).bind fun v6 => if v6 ≤ v3 then (f_Town_whoYields_26 this a0 a1 a0 M) else (f_Town_whoYields_26 this a0 a1 a1 M)
abbrev rm_Town_whoYields : Room := { frames := 1, cells := 0, slots := 0, locals := 20 }
noncomputable def f_Log_openRow (this : Nat) (M : Mem) : Option (Mem) :=
  (gI M 3 this 1).bind fun v1 => (pI M 3 this 1 ((v1 + 1) - (v1 + 1) / 60 * 60)).bind fun M2 => (gI M2 3 this 0).bind fun v3 => (f_Math_min (v3 + 1) 60).bind fun z4 => (pI M2 3 this 0 z4).bind fun M5 => some M5
abbrev rm_Log_openRow : Room := { frames := 1, cells := 0, slots := 0, locals := 21 }
noncomputable def f_Log_put (this : Nat) (a0 : Int32) (a1 : Int32) (M : Mem) : Option (Mem) :=
  (gR M 3 this 2).bind fun v1 => (gI M 3 this 1).bind fun v2 => (ast M v1 ((v2 * 8) + a0) a1).bind fun M3 => some M3
abbrev rm_Log_put : Room := { frames := 0, cells := 0, slots := 0, locals := 0 }
noncomputable def f_Town_writeDown (this : Nat) (a0 : Int32) (a1 : Int32) (a2 : Int32) (M : Mem) : Option (Mem) :=
  (gI M 7 this 10).bind fun v1 => (pI M 7 this 10 (v1 + 1)).bind fun M2 => (gI M2 7 this 11).bind fun v3 => (pI M2 7 this 11 (v3 + a2)).bind fun M4 => (gR M4 7 this 14).bind fun v5 => (ck M4 3 v5).bind fun _ => (f_Log_openRow v5 M4).bind fun z6 => (gR z6 7 this 14).bind fun v7 => (gI z6 7 this 9).bind fun v8 => (ck z6 3 v7).bind fun _ => (f_Log_put v7 0 v8 z6).bind fun z9 => (gR z9 7 this 14).bind fun v10 => (ck z9 3 v10).bind fun _ => (f_Log_put v10 1 a0 z9).bind fun z11 => (gR z11 7 this 14).bind fun v12 => (ck z11 3 v12).bind fun _ => (f_Log_put v12 2 a1 z11).bind fun z13 => (gR z13 7 this 14).bind fun v14 => (ck z13 3 v14).bind fun _ => (f_Log_put v14 7 a2 z13).bind fun z15 => some z15
abbrev rm_Town_writeDown : Room := { frames := 2, cells := 0, slots := 0, locals := 41 }
noncomputable def f_Person_learn_38 (this : Nat) (a0 : Int32) (a1 : Int32) (M : Mem) : Option (Mem) :=
  (gI M 5 this 6).bind fun v9 => (pI M 5 this 7 v9).bind fun M10 => (pI M10 5 this 6 a1).bind fun M11 => some M11
noncomputable def f_Person_learn (this : Nat) (a0 : Int32) (a1 : Int32) (M : Mem) : Option (Mem) :=
  (gR M 5 this 8).bind fun v1 => (ald M v1 a0).bind fun v2 => (ast M v1 a0 (v2 + 1)).bind fun M3 => (gR M3 5 this 9).bind fun v4 => (ast M3 v4 a0 a1).bind fun M5 => (gI M5 5 this 6).bind fun v6 => if a1 = v6 then ((gI M5 5 this 7).bind fun v7 => if a1 = v7 then ((pI M5 5 this 1 a1).bind fun M8 => f_Person_learn_38 this a0 a1 M8) else (f_Person_learn_38 this a0 a1 M5)) else (f_Person_learn_38 this a0 a1 M5)
abbrev rm_Person_learn : Room := { frames := 0, cells := 0, slots := 0, locals := 0 }
noncomputable def f_Town_passColdOn_40 (a0 : Nat) (a1 : Nat) (a2 : Int32) (a3 : Int32) (M : Mem) : Option (Mem) :=
  (pZ M 5 a0 4 1).bind fun M5 => (pZ M5 5 a1 4 1).bind fun M6 => some M6
noncomputable def f_Town_passColdOn_19 (a0 : Nat) (a1 : Nat) (a2 : Int32) (a3 : Int32) (y0 : Int32) (M : Mem) : Option (Mem) :=
  if y0 = 0 then ((gI M 5 a0 4).bind fun v3 => if v3 = 0 then ((gI M 5 a1 4).bind fun v4 => if v4 = 0 then (some M) else (f_Town_passColdOn_40 a0 a1 a2 a3 M)) else (f_Town_passColdOn_40 a0 a1 a2 a3 M)) else (some M)
noncomputable def f_Town_passColdOn_14 (a0 : Nat) (a1 : Nat) (a2 : Int32) (a3 : Int32) (M : Mem) : Option (Mem) :=
  f_Town_passColdOn_19 a0 a1 a2 a3 1 M
noncomputable def f_Town_passColdOn (a0 : Nat) (a1 : Nat) (a2 : Int32) (a3 : Int32) (M : Mem) : Option (Mem) :=
  (f_Manners_kindOf a2).bind fun z1 => if z1 = 0 then (f_Town_passColdOn_14 a0 a1 a2 a3 M) else ((f_Manners_kindOf a3).bind fun z2 => if z2 = 0 then (f_Town_passColdOn_14 a0 a1 a2 a3 M) else (f_Town_passColdOn_19 a0 a1 a2 a3 0 M))
abbrev rm_Town_passColdOn : Room := { frames := 1, cells := 0, slots := 0, locals := 20 }
noncomputable def f_Town_meetOnce_118 (N : Nat) (this : Nat) (a0 : Int32) (a1 : Int32) (x3 : Int32) (x4 : Int32) (x5 : Int32) (x6 : Int32) (x7 : Int32) (x9 : Int32) (x10 : Int32) (M : Mem) : Option (Int32 × Mem) :=
  (ck M 7 this).bind fun _ => (f_Town_writeDown this x3 x4 x7 M).bind fun z11 => (gR z11 7 this 14).bind fun v12 => (ck z11 3 v12).bind fun _ => (f_Log_put v12 3 x5 z11).bind fun z13 => (gR z13 7 this 14).bind fun v14 => (ck z13 3 v14).bind fun _ => (f_Log_put v14 4 x6 z13).bind fun z15 => (gR z15 7 this 14).bind fun v16 => (ck z15 3 v16).bind fun _ => (f_Log_put v16 5 x9 z15).bind fun z17 => (gR z17 7 this 14).bind fun v18 => (ck z17 3 v18).bind fun _ => (f_Log_put v18 6 x10 z17).bind fun z19 => (gR z19 7 this 1).bind fun v20 => (ard z19 2 v20 x3).bind fun v21 => (ck z19 5 v21).bind fun _ => (f_Person_learn v21 x4 x10 z19).bind fun z22 => (gR z22 7 this 1).bind fun v23 => (ard z22 2 v23 x4).bind fun v24 => (ck z22 5 v24).bind fun _ => (f_Person_learn v24 x3 x9 z22).bind fun z25 => (gR z25 7 this 1).bind fun v26 => (ard z25 2 v26 x3).bind fun v27 => (gR z25 7 this 1).bind fun v28 => (ard z25 2 v28 x4).bind fun v29 => (f_Town_passColdOn v27 v29 x9 x10 z25).bind fun z30 => (gI z30 7 this 13).bind fun v31 => (f_Manners_countOf x9).bind fun z32 => (f_Manners_countOf x10).bind fun z33 => (f_Math_max z32 z33).bind fun z34 => (pI z30 7 this 13 (v31 + z34)).bind fun M35 => some (x7, M35)
noncomputable def f_Town_meetOnce_94 (N : Nat) (this : Nat) (a0 : Int32) (a1 : Int32) (x3 : Int32) (x4 : Int32) (x5 : Int32) (x6 : Int32) (x7 : Int32) (x8 : Int32) (x9 : Int32) (y0 : Int32) (M : Mem) : Option (Int32 × Mem) :=
  if x8 = (-1) then (f_Town_meetOnce_118 N this a0 a1 x3 x4 x5 x6 x7 x9 y0 M) else ((gI M 7 this 12).bind fun v9 => (pI M 7 this 12 (v9 + 1)).bind fun M10 => f_Town_meetOnce_118 N this a0 a1 x3 x4 x5 x6 (x7 / 2) x9 y0 M10)
noncomputable def f_Town_meetOnce_78 (N : Nat) (this : Nat) (a0 : Int32) (a1 : Int32) (x3 : Int32) (x4 : Int32) (x5 : Int32) (x6 : Int32) (x7 : Int32) (x8 : Int32) (y0 : Int32) (M : Mem) : Option (Int32 × Mem) :=
  if x8 = x4 then (f_Town_meetOnce_94 N this a0 a1 x3 x4 x5 x6 x7 x8 y0 x5 M) else (f_Town_meetOnce_94 N this a0 a1 x3 x4 x5 x6 x7 x8 y0 x6 M)
noncomputable def f_Town_meetOnce_63 (N : Nat) (this : Nat) (a0 : Int32) (a1 : Int32) (x3 : Int32) (x4 : Int32) (x5 : Int32) (x6 : Int32) (x7 : Int32) (y0 : Int32) (M : Mem) : Option (Int32 × Mem) :=
  if y0 = x3 then (f_Town_meetOnce_78 N this a0 a1 x3 x4 x5 x6 x7 y0 x6 M) else (f_Town_meetOnce_78 N this a0 a1 x3 x4 x5 x6 x7 y0 x5 M)
noncomputable def f_Town_meetOnce (N : Nat) (this : Nat) (a0 : Int32) (a1 : Int32) (M : Mem) : Option (Int32 × Mem) :=
  (f_Math_min a0 a1).bind fun z1 => (f_Math_max a0 a1).bind fun z2 => (ck M 7 this).bind fun _ => (f_Town_greetingFor N this z1 z2 M).bind fun z3 => (ck z3.2 7 this).bind fun _ => (f_Town_greetingFor N this z2 z1 z3.2).bind fun z4 => (gR z4.2 7 this 0).bind fun v5 => (gR z4.2 0 v5 0).bind fun v6 => (ck z4.2 4 v6).bind fun _ => (f_Manners_costOf v6 z3.1 z4.1 z4.2).bind fun z7 => if z7 ≤ 0 then (f_Town_meetOnce_63 N this a0 a1 z1 z2 z3.1 z4.1 z7 (-1) z4.2) else ((ck z4.2 7 this).bind fun _ => (f_Town_whoYields this z1 z2 z4.2).bind fun z8 => f_Town_meetOnce_63 N this a0 a1 z1 z2 z3.1 z4.1 z7 z8.1 z8.2)
abbrev rm_Town_meetOnce : Room := { frames := 4, cells := 0, slots := 0, locals := 102 }
noncomputable def f_CT_meet (N : Nat) (this : Nat) (a0 : Int32) (a1 : Int32) (M : Mem) : Option ((Int32 ⊕ String) × Mem) :=
  (ck M 10 this).bind fun _ => (f_CT_needTwo this a0 a1 M).bind fun z1 => sx z1.1 (fun v2 => (ck z1.2 10 this).bind fun _ => (f_CT_rememberAct N this z1.2).bind fun z3 => (gR z3 10 this 3).bind fun v4 => (ck z3 7 v4).bind fun _ => (f_Town_meetOnce N v4 a0 a1 z3).bind fun z5 => some (.inl z5.1, z5.2)) (fun e => some (.inr e, z1.2))
abbrev rm_CT_meet : Room := { frames := 8, cells := 3, slots := 18, locals := 165 }
noncomputable def f_CT_needNumber_10 (a0 : Int32) (a1 : Int32) (a2 : Int32) (M : Mem) : Option ((Unit ⊕ String) × Mem) :=
  some (.inr "java/lang/IllegalArgumentException", m_new M (0, 0))
noncomputable def f_CT_needNumber (a0 : Int32) (a1 : Int32) (a2 : Int32) (M : Mem) : Option ((Unit ⊕ String) × Mem) :=
  if a0 < a1 then (f_CT_needNumber_10 a0 a1 a2 M) else (if a0 ≤ a2 then (some (.inl (), M)) else (f_CT_needNumber_10 a0 a1 a2 M))
abbrev rm_CT_needNumber : Room := { frames := 6, cells := 1, slots := 6, locals := 110 }
noncomputable def f0_CT_needNumber_10 (a0 : Int32) (a1 : Int32) (a2 : Int32) (M : Mem) : Option ((Unit ⊕ String) × Mem) :=
  none
noncomputable def f0_CT_needNumber (a0 : Int32) (a1 : Int32) (a2 : Int32) (M : Mem) : Option ((Unit ⊕ String) × Mem) :=
  if a0 < a1 then (f0_CT_needNumber_10 a0 a1 a2 M) else (if a0 ≤ a2 then (some (.inl (), M)) else (f0_CT_needNumber_10 a0 a1 a2 M))
abbrev rm0_CT_needNumber : Room := { frames := 6, cells := 0, slots := 0, locals := 110 }
noncomputable def f_Town_passRounds_12 (N : Nat) (this : Nat) (a0 : Int32) (k4 : Int32 → Int32 → Mem → Option (Int32 × Mem)) : Nat → Int32 → Int32 → Int32 → Mem → Option (Int32 × Mem)
  | 0, _, _, _, _ => none
  | n + 1, x2, x3, x4, M => (gI M 7 this 5).bind fun v1 => if v1 ≤ x4 then ((gI M 7 this 9).bind fun v2 => (pI M 7 this 9 (v2 + 1)).bind fun M3 => k4 x2 (x3 + 1) M3) else ((gR M 7 this 3).bind fun v4 => (ald M v4 x4).bind fun v5 => (gR M 7 this 4).bind fun v6 => (ald M v6 x4).bind fun v7 => (ck M 7 this).bind fun _ => (f_Town_meetOnce N this v5 v7 M).bind fun z8 => f_Town_passRounds_12 N this a0 k4 n (x2 + z8.1) x3 (x4 + 1) z8.2)
noncomputable def f_Town_passRounds_4 (N : Nat) (this : Nat) (a0 : Int32) : Nat → Int32 → Int32 → Mem → Option (Int32 × Mem)
  | 0, _, _, _ => none
  | n + 1, x2, x3, M => if a0 ≤ x3 then (some (x2, M)) else (f_Town_passRounds_12 N this a0 (f_Town_passRounds_4 N this a0 n) N x2 x3 0 M)
noncomputable def f_Town_passRounds (N : Nat) (this : Nat) (a0 : Int32) (M : Mem) : Option (Int32 × Mem) :=
  f_Town_passRounds_4 N this a0 N 0 0 M
abbrev rm_Town_passRounds : Room := { frames := 5, cells := 0, slots := 0, locals := 132 }
noncomputable def f_CT_rounds (N : Nat) (this : Nat) (a0 : Int32) (M : Mem) : Option ((Int32 ⊕ String) × Mem) :=
  (f_CT_needNumber a0 1 50 M).bind fun z1 => sx z1.1 (fun v2 => (ck z1.2 10 this).bind fun _ => (f_CT_rememberAct N this z1.2).bind fun z3 => (gR z3 10 this 3).bind fun v4 => (ck z3 7 v4).bind fun _ => (f_Town_passRounds N v4 a0 z3).bind fun z5 => some (.inl z5.1, z5.2)) (fun e => some (.inr e, z1.2))
abbrev rm_CT_rounds : Room := { frames := 7, cells := 1, slots := 6, locals := 165 }
noncomputable def f_CT_own (N : Nat) (this : Nat) (a0 : Int32) (a1 : Int32) (M : Mem) : Option ((Int32 ⊕ String) × Mem) :=
  (ck M 10 this).bind fun _ => (f_CT_needPerson this a0 M).bind fun z1 => sx z1.1 (fun v2 => (f_CT_needGreeting a1 z1.2).bind fun z3 => sx z3.1 (fun v4 => (ck z3.2 10 this).bind fun _ => (f_CT_rememberAct N this z3.2).bind fun z5 => (gR z5 10 this 3).bind fun v6 => (gR z5 7 v6 1).bind fun v7 => (ard z5 2 v7 a0).bind fun v8 => (gI z5 5 v8 1).bind fun v9 => (gR z5 10 this 3).bind fun v10 => (gR z5 7 v10 1).bind fun v11 => (ard z5 2 v11 a0).bind fun v12 => (pI z5 5 v12 1 a1).bind fun M13 => some (.inl v9, M13)) (fun e => some (.inr e, z3.2))) (fun e => some (.inr e, z1.2))
abbrev rm_CT_own : Room := { frames := 7, cells := 2, slots := 12, locals := 165 }
noncomputable def f_CT_cold (N : Nat) (this : Nat) (a0 : Int32) (a1 : Int32) (M : Mem) : Option ((Int32 ⊕ String) × Mem) :=
  (ck M 10 this).bind fun _ => (f_CT_needPerson this a0 M).bind fun z1 => sx z1.1 (fun v2 => (ck z1.2 10 this).bind fun _ => (f_CT_rememberAct N this z1.2).bind fun z3 => (gR z3 10 this 3).bind fun v4 => (gR z3 7 v4 1).bind fun v5 => (ard z3 2 v5 a0).bind fun v6 => (gI z3 5 v6 4).bind fun v7 => (gR z3 10 this 3).bind fun v8 => (gR z3 7 v8 1).bind fun v9 => (ard z3 2 v9 a0).bind fun v10 => (pZ z3 5 v10 4 a1).bind fun M11 => (zg v7).bind fun z12 => some (.inl z12, M11)) (fun e => some (.inr e, z1.2))
abbrev rm_CT_cold : Room := { frames := 7, cells := 1, slots := 6, locals := 165 }
noncomputable def f_CT_ties (N : Nat) (this : Nat) (a0 : Int32) (a1 : Int32) (M : Mem) : Option ((Int32 ⊕ String) × Mem) :=
  (ck M 10 this).bind fun _ => (f_CT_needTwo this a0 a1 M).bind fun z1 => sx z1.1 (fun v2 => (gR z1.2 10 this 3).bind fun v3 => (ck z1.2 7 v3).bind fun _ => (f_Town_areTied v3 a0 a1 z1.2).bind fun z4 => if z4 = 0 then ((gR z1.2 10 this 3).bind fun v5 => (gI z1.2 7 v5 5).bind fun v6 => if v6 < 24 then ((ck z1.2 10 this).bind fun _ => (f_CT_rememberAct N this z1.2).bind fun z7 => (gR z7 10 this 3).bind fun v8 => (ck z7 7 v8).bind fun _ => (f_Town_addTie v8 a0 a1 z7).bind fun z9 => (gR z9 10 this 3).bind fun v10 => (gI z9 7 v10 5).bind fun v11 => some (.inl (v11 - 1), z9)) else (some (.inr "java/lang/UnsupportedOperationException", m_new z1.2 (0, 0)))) else (some (.inr "java/lang/IllegalStateException", m_new z1.2 (0, 0)))) (fun e => some (.inr e, z1.2))
abbrev rm_CT_ties : Room := { frames := 8, cells := 4, slots := 24, locals := 165 }
noncomputable def f_Town_removeTie_57 (N : Nat) (this : Nat) (a0 : Int32) : Nat → Int32 → Mem → Option (Mem)
  | 0, _, _ => none
  | n + 1, x4, M => (gI M 7 this 5).bind fun v13 => if v13 ≤ x4 then ((gI M 7 this 5).bind fun v14 => (pI M 7 this 5 (v14 - 1)).bind fun M15 => some M15) else ((gR M 7 this 3).bind fun v16 => (gR M 7 this 3).bind fun v17 => (ald M v17 x4).bind fun v18 => (ast M v16 (x4 - 1) v18).bind fun M19 => (gR M19 7 this 4).bind fun v20 => (gR M19 7 this 4).bind fun v21 => (ald M19 v21 x4).bind fun v22 => (ast M19 v20 (x4 - 1) v22).bind fun M23 => f_Town_removeTie_57 N this a0 n (x4 + 1) M23)
noncomputable def f_Town_removeTie (N : Nat) (this : Nat) (a0 : Int32) (M : Mem) : Option (Mem) :=
  (gR M 7 this 3).bind fun v1 => (ald M v1 a0).bind fun v2 => (gR M 7 this 4).bind fun v3 => (ald M v3 a0).bind fun v4 => (gR M 7 this 1).bind fun v5 => (ard M 2 v5 v2).bind fun v6 => (gI M 5 v6 5).bind fun v7 => (pI M 5 v6 5 (v7 &&& ((1 <<< (v4 &&& 31)) ^^^ (-1)))).bind fun M8 => (gR M8 7 this 1).bind fun v9 => (ard M8 2 v9 v4).bind fun v10 => (gI M8 5 v10 5).bind fun v11 => (pI M8 5 v10 5 (v11 &&& ((1 <<< (v2 &&& 31)) ^^^ (-1)))).bind fun M12 => f_Town_removeTie_57 N this a0 N (a0 + 1) M12
abbrev rm_Town_removeTie : Room := { frames := 0, cells := 0, slots := 0, locals := 0 }
noncomputable def f_CT_cut (N : Nat) (this : Nat) (a0 : Int32) (M : Mem) : Option ((Int32 ⊕ String) × Mem) :=
  (ck M 10 this).bind fun _ => (f_CT_needTie this a0 M).bind fun z1 => sx z1.1 (fun v2 => (ck z1.2 10 this).bind fun _ => (f_CT_rememberAct N this z1.2).bind fun z3 => (gR z3 10 this 3).bind fun v4 => (ck z3 7 v4).bind fun _ => (f_Town_removeTie N v4 a0 z3).bind fun z5 => (gR z5 10 this 3).bind fun v6 => (gI z5 7 v6 5).bind fun v7 => some (.inl v7, z5)) (fun e => some (.inr e, z1.2))
abbrev rm_CT_cut : Room := { frames := 7, cells := 1, slots := 6, locals := 165 }
noncomputable def f_CT_feast_13 (N : Nat) (this : Nat) (a0 : Int32) (a1 : Int32) : Nat → Int32 → Int32 → Mem → Option ((Int32 ⊕ String) × Mem)
  | 0, _, _, _ => none
  | n + 1, x3, x4, M => (gR M 10 this 3).bind fun v4 => (gI M 7 v4 2).bind fun v5 => if v5 ≤ x4 then (some (.inl x3, M)) else ((f_CT_isIn a0 x4).bind fun z6 => if z6 = 0 then (f_CT_feast_13 N this a0 a1 n x3 (x4 + 1) M) else ((gR M 10 this 3).bind fun v7 => (gR M 7 v7 1).bind fun v8 => (ard M 2 v8 x4).bind fun v9 => (gI M 5 v9 1).bind fun v10 => if v10 = a1 then (f_CT_feast_13 N this a0 a1 n x3 (x4 + 1) M) else ((gR M 10 this 3).bind fun v11 => (gR M 7 v11 1).bind fun v12 => (ard M 2 v12 x4).bind fun v13 => (pI M 5 v13 1 a1).bind fun M14 => f_CT_feast_13 N this a0 a1 n (x3 ||| (1 <<< (x4 &&& 31))) (x4 + 1) M14)))
noncomputable def f_CT_feast (N : Nat) (this : Nat) (a0 : Int32) (a1 : Int32) (M : Mem) : Option ((Int32 ⊕ String) × Mem) :=
  (f_CT_needGreeting a1 M).bind fun z1 => sx z1.1 (fun v2 => (ck z1.2 10 this).bind fun _ => (f_CT_rememberAct N this z1.2).bind fun z3 => f_CT_feast_13 N this a0 a1 N 0 0 z3) (fun e => some (.inr e, z1.2))
abbrev rm_CT_feast : Room := { frames := 7, cells := 1, slots := 6, locals := 165 }
noncomputable def f_CT_expected (N : Nat) (this : Nat) (a0 : Int32) (a1 : Int32) (M : Mem) : Option ((Int32 ⊕ String) × Mem) :=
  (ck M 10 this).bind fun _ => (f_CT_needLand this a0 M).bind fun z1 => sx z1.1 (fun v2 => (f_CT_needGreeting a1 z1.2).bind fun z3 => sx z3.1 (fun v4 => (gR z3.2 10 this 3).bind fun v5 => (gR z3.2 7 v5 0).bind fun v6 => (ck z3.2 0 v6).bind fun _ => (f_Lands_expectedOf N v6 a0 a1 z3.2).bind fun z7 => some (.inl z7, z3.2)) (fun e => some (.inr e, z3.2))) (fun e => some (.inr e, z1.2))
abbrev rm_CT_expected : Room := { frames := 7, cells := 2, slots := 12, locals := 131 }
noncomputable def f_CT_best (N : Nat) (this : Nat) (a0 : Int32) (M : Mem) : Option ((Int32 ⊕ String) × Mem) :=
  (ck M 10 this).bind fun _ => (f_CT_needLand this a0 M).bind fun z1 => sx z1.1 (fun v2 => (gR z1.2 10 this 3).bind fun v3 => (gR z1.2 7 v3 0).bind fun v4 => (ck z1.2 0 v4).bind fun _ => (f_Lands_bestIn N v4 a0 z1.2).bind fun z5 => some (.inl z5, z1.2)) (fun e => some (.inr e, z1.2))
abbrev rm_CT_best : Room := { frames := 7, cells := 1, slots := 6, locals := 131 }
noncomputable def f_Lands_allWeightIn_4 (N : Nat) (this : Nat) (a0 : Int32) (M : Mem) : Nat → Int32 → Int32 → Option (Int32)
  | 0, _, _ => none
  | n + 1, x2, x3 => (gI M 0 this 2).bind fun v1 => if v1 ≤ x3 then (some x2) else (if 24 ≤ x3 then (some x2) else ((gR M 0 this 3).bind fun v2 => (ald M v2 x3).bind fun v3 => if v3 = a0 then ((gR M 0 this 5).bind fun v4 => (ald M v4 x3).bind fun v5 => f_Lands_allWeightIn_4 N this a0 M n (x2 + v5) (x3 + 1)) else (f_Lands_allWeightIn_4 N this a0 M n x2 (x3 + 1))))
noncomputable def f_Lands_allWeightIn (N : Nat) (this : Nat) (a0 : Int32) (M : Mem) : Option (Int32) :=
  f_Lands_allWeightIn_4 N this a0 M N 0 0
abbrev rm_Lands_allWeightIn : Room := { frames := 0, cells := 0, slots := 0, locals := 0 }
noncomputable def f_CT_odds (N : Nat) (this : Nat) (a0 : Int32) (a1 : Int32) (M : Mem) : Option ((Int32 ⊕ String) × Mem) :=
  (ck M 10 this).bind fun _ => (f_CT_needLand this a0 M).bind fun z1 => sx z1.1 (fun v2 => (f_CT_needGreeting a1 z1.2).bind fun z3 => sx z3.1 (fun v4 => (gR z3.2 10 this 3).bind fun v5 => (gR z3.2 7 v5 0).bind fun v6 => (ck z3.2 0 v6).bind fun _ => (f_Lands_allWeightIn N v6 a0 z3.2).bind fun z7 => if 0 < z7 then ((gR z3.2 10 this 3).bind fun v8 => (gR z3.2 7 v8 0).bind fun v9 => (ck z3.2 0 v9).bind fun _ => (f_Lands_weightOf N v9 a0 a1 z3.2).bind fun z10 => (nz z7).bind fun _ => some (.inl ((z10 * 10000) / z7), z3.2)) else (some (.inl 0, z3.2))) (fun e => some (.inr e, z3.2))) (fun e => some (.inr e, z1.2))
abbrev rm_CT_odds : Room := { frames := 7, cells := 2, slots := 12, locals := 131 }
noncomputable def f_CT_weightProduct_5 (N : Nat) (this : Nat) (a0 : Int32) (a1 : Int32) (M : Mem) : Nat → Int64 → Int32 → Option (Int64)
  | 0, _, _ => none
  | n + 1, x3, x5 => if a1 ≤ x5 then (some x3) else (if 4 ≤ x5 then (some x3) else ((gR M 10 this 3).bind fun v1 => (gR M 7 v1 0).bind fun v2 => (gR M 10 this 0).bind fun v3 => (ald M v3 x5).bind fun v4 => (ck M 0 v2).bind fun _ => (f_Lands_weightOf N v2 a0 v4 M).bind fun z5 => f_CT_weightProduct_5 N this a0 a1 M n (x3 * (Int32.toInt64 z5)) (x5 + 1)))
noncomputable def f_CT_weightProduct (N : Nat) (this : Nat) (a0 : Int32) (a1 : Int32) (M : Mem) : Option (Int64) :=
  f_CT_weightProduct_5 N this a0 a1 M N 1 0
abbrev rm_CT_weightProduct : Room := { frames := 1, cells := 0, slots := 0, locals := 24 }
noncomputable def f_CT_allWeightProduct_5 (N : Nat) (this : Nat) (a0 : Int32) (a1 : Int32) (M : Mem) : Nat → Int64 → Int32 → Option (Int64)
  | 0, _, _ => none
  | n + 1, x3, x5 => if a1 ≤ x5 then (some x3) else (if 4 ≤ x5 then (some x3) else ((gR M 10 this 3).bind fun v1 => (gR M 7 v1 0).bind fun v2 => (ck M 0 v2).bind fun _ => (f_Lands_allWeightIn N v2 a0 M).bind fun z3 => f_CT_allWeightProduct_5 N this a0 a1 M n (x3 * (Int32.toInt64 z3)) (x5 + 1)))
noncomputable def f_CT_allWeightProduct (N : Nat) (this : Nat) (a0 : Int32) (a1 : Int32) (M : Mem) : Option (Int64) :=
  f_CT_allWeightProduct_5 N this a0 a1 M N 1 0
abbrev rm_CT_allWeightProduct : Room := { frames := 1, cells := 0, slots := 0, locals := 23 }
noncomputable def f_CT_likeliestLand_63 (N : Nat) (this : Nat) (a0 : Int32) (M : Mem) (k10 : Int32 → Int64 → Int64 → Int32 → Option (Int32)) (x2 : Int32) (x3 : Int64) (x5 : Int64) (x7 : Int32) (x8 : Int64) (x10 : Int64) (y0 : Int32) : Option (Int32) :=
  if y0 = 0 then (k10 x2 x3 x5 (x7 + 1)) else (if (lg_cmp (x8 * x5) (x3 * x10)) ≤ 0 then (k10 x2 x3 x5 (x7 + 1)) else (k10 x7 x8 x10 (x7 + 1)))
noncomputable def f_CT_likeliestLand_10 (N : Nat) (this : Nat) (a0 : Int32) (M : Mem) : Nat → Int32 → Int64 → Int64 → Int32 → Option (Int32)
  | 0, _, _, _, _ => none
  | n + 1, x2, x3, x5, x7 => (gR M 10 this 3).bind fun v1 => (gR M 7 v1 0).bind fun v2 => (gI M 0 v2 1).bind fun v3 => if v3 ≤ x7 then (some x2) else ((ck M 10 this).bind fun _ => (f_CT_weightProduct N this x7 a0 M).bind fun z4 => (ck M 10 this).bind fun _ => (f_CT_allWeightProduct N this x7 a0 M).bind fun z5 => (gR M 10 this 3).bind fun v6 => (gR M 7 v6 0).bind fun v7 => (ck M 0 v7).bind fun _ => (f_Lands_allWeightIn N v7 x7 M).bind fun z8 => if z8 ≤ 0 then (f_CT_likeliestLand_63 N this a0 M (f_CT_likeliestLand_10 N this a0 M n) x2 x3 x5 x7 z4 z5 0) else (f_CT_likeliestLand_63 N this a0 M (f_CT_likeliestLand_10 N this a0 M n) x2 x3 x5 x7 z4 z5 1))
noncomputable def f_CT_likeliestLand (N : Nat) (this : Nat) (a0 : Int32) (M : Mem) : Option (Int32) :=
  f_CT_likeliestLand_10 N this a0 M N (-1) 0 1 0
abbrev rm_CT_likeliestLand : Room := { frames := 2, cells := 0, slots := 0, locals := 49 }
noncomputable def f_CT_likelyLands_4 (N : Nat) (this : Nat) (a0 : Int32) (M : Mem) : Nat → Int32 → Int32 → Option (Int32)
  | 0, _, _ => none
  | n + 1, x2, x3 => (gR M 10 this 3).bind fun v1 => (gR M 7 v1 0).bind fun v2 => (gI M 0 v2 1).bind fun v3 => if v3 ≤ x3 then (some x2) else ((gR M 10 this 3).bind fun v4 => (gR M 7 v4 0).bind fun v5 => (ck M 0 v5).bind fun _ => (f_Lands_allWeightIn N v5 x3 M).bind fun z6 => if z6 ≤ 0 then (f_CT_likelyLands_4 N this a0 M n x2 (x3 + 1)) else ((ck M 10 this).bind fun _ => (f_CT_weightProduct N this x3 a0 M).bind fun z7 => if (lg_cmp z7 0) ≤ 0 then (f_CT_likelyLands_4 N this a0 M n x2 (x3 + 1)) else (f_CT_likelyLands_4 N this a0 M n (x2 ||| (1 <<< (x3 &&& 31))) (x3 + 1))))
noncomputable def f_CT_likelyLands (N : Nat) (this : Nat) (a0 : Int32) (M : Mem) : Option (Int32) :=
  f_CT_likelyLands_4 N this a0 M N 0 0
abbrev rm_CT_likelyLands : Room := { frames := 2, cells := 0, slots := 0, locals := 49 }
noncomputable def f_CT_from_23 (N : Nat) (this : Nat) (a0 : Int32) : Nat → Int32 → Int32 → Mem → Option ((Int32 ⊕ String) × Mem)
  | 0, _, _, _ => none
  | n + 1, x2, x3, M => if x2 ≤ x3 then (if a0 = 0 then ((ck M 10 this).bind fun _ => (f_CT_likelyLands N this x2 M).bind fun z2 => some (.inl z2, M)) else ((ck M 10 this).bind fun _ => (f_CT_likeliestLand N this x2 M).bind fun z3 => some (.inl z3, M))) else ((gR M 10 this 0).bind fun v4 => (ald M v4 x3).bind fun v5 => (f_CT_needNumber v5 0 31 M).bind fun z6 => sx z6.1 (fun v7 => f_CT_from_23 N this a0 n x2 (x3 + 1) z6.2) (fun e => some (.inr e, z6.2)))
noncomputable def f_CT_from (N : Nat) (this : Nat) (a0 : Int32) (M : Mem) : Option ((Int32 ⊕ String) × Mem) :=
  (ck M 10 this).bind fun _ => (f_CT_useTapeUp this M).bind fun z1 => if z1.1 ≤ 4 then (f_CT_from_23 N this a0 N z1.1 0 z1.2) else (some (.inr "java/lang/IllegalArgumentException", m_new z1.2 (0, 0)))
abbrev rm_CT_from : Room := { frames := 7, cells := 1, slots := 6, locals := 132 }
noncomputable def f_CT_isContent_40 (a0 : Int32) (a1 : Int32) (a2 : Int32) (x3 : Int32) (y0 : Int32) (y1 : Int32) : Option (Int32) :=
  if (y0 + y1) < x3 then (some 0) else (some 1)
noncomputable def f_CT_isContent_31 (a0 : Int32) (a1 : Int32) (a2 : Int32) (x3 : Int32) (y0 : Int32) : Option (Int32) :=
  if a1 = 0 then (f_CT_isContent_40 a0 a1 a2 x3 y0 1) else (f_CT_isContent_40 a0 a1 a2 x3 y0 0)
noncomputable def f_CT_isContent_19 (a0 : Int32) (a1 : Int32) (a2 : Int32) (y0 : Int32) (y1 : Int32) : Option (Int32) :=
  if a1 = a2 then (f_CT_isContent_31 a0 a1 a2 (y0 + y1) 0) else (f_CT_isContent_31 a0 a1 a2 (y0 + y1) a0)
noncomputable def f_CT_isContent_10 (a0 : Int32) (a1 : Int32) (a2 : Int32) (y0 : Int32) : Option (Int32) :=
  if a1 = 0 then (f_CT_isContent_19 a0 a1 a2 y0 0) else (f_CT_isContent_19 a0 a1 a2 y0 1)
noncomputable def f_CT_isContent (a0 : Int32) (a1 : Int32) (a2 : Int32) : Option (Int32) :=
  if a1 = a2 then (f_CT_isContent_10 a0 a1 a2 a0) else (f_CT_isContent_10 a0 a1 a2 0)
abbrev rm_CT_isContent : Room := { frames := 0, cells := 0, slots := 0, locals := 0 }
noncomputable def f_CT_rests_54 (N : Nat) (this : Nat) (a0 : Int32) (a1 : Int32) (k22 : Int32 → Int32 → Int32 → Mem → Option ((Int32 ⊕ String) × Mem)) (x3 : Int32) (x4 : Int32) (x5 : Int32) (x6 : Int32) (y0 : Int32) (M : Mem) : Option ((Int32 ⊕ String) × Mem) :=
  (f_CT_isContent x3 x6 y0).bind fun z5 => if z5 = 0 then (k22 x3 x4 (x5 + 1) M) else ((f_CT_isContent x3 y0 x6).bind fun z6 => if z6 = 0 then (k22 x3 x4 (x5 + 1) M) else (k22 x3 (x4 ||| (1 <<< (x5 &&& 31))) (x5 + 1) M))
noncomputable def f_CT_rests_40 (N : Nat) (this : Nat) (a0 : Int32) (a1 : Int32) (k22 : Int32 → Int32 → Int32 → Mem → Option ((Int32 ⊕ String) × Mem)) (x3 : Int32) (x4 : Int32) (x5 : Int32) (y0 : Int32) (M : Mem) : Option ((Int32 ⊕ String) × Mem) :=
  if (x5 &&& 2) = 0 then (f_CT_rests_54 N this a0 a1 k22 x3 x4 x5 y0 0 M) else (f_CT_rests_54 N this a0 a1 k22 x3 x4 x5 y0 1 M)
noncomputable def f_CT_rests_22 (N : Nat) (this : Nat) (a0 : Int32) (a1 : Int32) : Nat → Int32 → Int32 → Int32 → Mem → Option ((Int32 ⊕ String) × Mem)
  | 0, _, _, _, _ => none
  | n + 1, x3, x4, x5, M => if 4 ≤ x5 then (some (.inl x4, M)) else (if (x5 &&& 1) = 0 then (f_CT_rests_40 N this a0 a1 (f_CT_rests_22 N this a0 a1 n) x3 x4 x5 0 M) else (f_CT_rests_40 N this a0 a1 (f_CT_rests_22 N this a0 a1 n) x3 x4 x5 1 M))
noncomputable def f_CT_rests (N : Nat) (this : Nat) (a0 : Int32) (a1 : Int32) (M : Mem) : Option ((Int32 ⊕ String) × Mem) :=
  (ck M 10 this).bind fun _ => (f_CT_needTwo this a0 a1 M).bind fun z1 => sx z1.1 (fun v2 => (gR z1.2 10 this 3).bind fun v3 => (ck z1.2 7 v3).bind fun _ => (f_Town_costOfOwns v3 a0 a1 z1.2).bind fun z4 => f_CT_rests_22 N this a0 a1 N z4 0 0 z1.2) (fun e => some (.inr e, z1.2))
abbrev rm_CT_rests : Room := { frames := 8, cells := 3, slots := 18, locals := 153 }
noncomputable def f_CT_sake (this : Nat) (a0 : Int32) (a1 : Int32) (a2 : Int32) (M : Mem) : Option ((Int32 ⊕ String) × Mem) :=
  (ck M 10 this).bind fun _ => (f_CT_needTwo this a0 a1 M).bind fun z1 => sx z1.1 (fun v2 => (gR z1.2 10 this 3).bind fun v3 => (gR z1.2 7 v3 1).bind fun v4 => (ard z1.2 2 v4 a0).bind fun v5 => (gI z1.2 5 v5 1).bind fun v6 => (gR z1.2 10 this 3).bind fun v7 => (gR z1.2 7 v7 1).bind fun v8 => (ard z1.2 2 v8 a1).bind fun v9 => (gI z1.2 5 v9 1).bind fun v10 => (f_Manners_kindOf v6).bind fun z11 => if z11 = 2 then ((f_Manners_kindOf v10).bind fun z12 => if z12 = 2 then ((f_Manners_countOf v6).bind fun z13 => (f_Manners_countOf v10).bind fun z14 => (f_Math_abs (z13 - z14)).bind fun z15 => if a2 = 0 then (if (z15 - z15 / 2 * 2) = 0 then (some (.inl (z15 / 2), z1.2)) else (some (.inl (-1), z1.2))) else (some (.inl z15, z1.2))) else (some (.inl (-1), z1.2))) else (some (.inl (-1), z1.2))) (fun e => some (.inr e, z1.2))
abbrev rm_CT_sake : Room := { frames := 8, cells := 3, slots := 18, locals := 153 }
noncomputable def f_Town_beginner_58 (this : Nat) (a0 : Int32) (a1 : Int32) (a2 : Int32) (M : Mem) (y0 : Int32) : Option (Int32) :=
  if y0 = 0 then (some a1) else (some a2)
noncomputable def f_Town_beginner_57 (this : Nat) (a0 : Int32) (a1 : Int32) (a2 : Int32) (M : Mem) : Option (Int32) :=
  f_Town_beginner_58 this a0 a1 a2 M 0
noncomputable def f_Town_beginner (this : Nat) (a0 : Int32) (a1 : Int32) (a2 : Int32) (M : Mem) : Option (Int32) :=
  (gR M 7 this 1).bind fun v1 => (ard M 2 v1 a1).bind fun v2 => (gI M 5 v2 2).bind fun v3 => (gR M 7 this 1).bind fun v4 => (ard M 2 v4 a2).bind fun v5 => (gI M 5 v5 2).bind fun v6 => if a0 = 0 then (if v6 ≤ v3 then (f_Town_beginner_58 this a0 a1 a2 M 0) else (f_Town_beginner_58 this a0 a1 a2 M 1)) else (if a0 = 1 then (if v3 ≤ v6 then (f_Town_beginner_57 this a0 a1 a2 M) else (f_Town_beginner_58 this a0 a1 a2 M 1)) else (f_Town_beginner_57 this a0 a1 a2 M))
abbrev rm_Town_beginner : Room := { frames := 0, cells := 0, slots := 0, locals := 0 }
noncomputable def f_Town_costByRule_95 (N : Nat) (this : Nat) (a0 : Int32) (k4 : Int32 → Int32 → Mem → Option (Int32 × Mem)) (x2 : Int32) (x3 : Int32) (x6 : Int32) (y0 : Int32) (M : Mem) : Option (Int32 × Mem) :=
  (gR M 7 this 1).bind fun v18 => (ard M 2 v18 y0).bind fun v19 => (gI M 5 v19 3).bind fun v20 => k4 (x2 + (x6 * (100 - v20))) (x3 + 1) M
noncomputable def f_Town_costByRule_4 (N : Nat) (this : Nat) (a0 : Int32) : Nat → Int32 → Int32 → Mem → Option (Int32 × Mem)
  | 0, _, _, _ => none
  | n + 1, x2, x3, M => (gI M 7 this 5).bind fun v1 => if v1 ≤ x3 then (some (x2, M)) else ((gR M 7 this 3).bind fun v2 => (ald M v2 x3).bind fun v3 => (gR M 7 this 4).bind fun v4 => (ald M v4 x3).bind fun v5 => (f_Math_min v3 v5).bind fun z6 => (gR M 7 this 3).bind fun v7 => (ald M v7 x3).bind fun v8 => (gR M 7 this 4).bind fun v9 => (ald M v9 x3).bind fun v10 => (f_Math_max v8 v10).bind fun z11 => (gR M 7 this 0).bind fun v12 => (gR M 0 v12 0).bind fun v13 => (ck M 7 this).bind fun _ => (f_Town_greetingFor N this z6 z11 M).bind fun z14 => (ck z14.2 7 this).bind fun _ => (f_Town_greetingFor N this z11 z6 z14.2).bind fun z15 => (ck z15.2 4 v13).bind fun _ => (f_Manners_costOf v13 z14.1 z15.1 z15.2).bind fun z16 => (ck z15.2 7 this).bind fun _ => (f_Town_beginner this a0 z6 z11 z15.2).bind fun z17 => if z17 = z6 then (f_Town_costByRule_95 N this a0 (f_Town_costByRule_4 N this a0 n) x2 x3 z16 z11 z15.2) else (f_Town_costByRule_95 N this a0 (f_Town_costByRule_4 N this a0 n) x2 x3 z16 z6 z15.2))
noncomputable def f_Town_costByRule (N : Nat) (this : Nat) (a0 : Int32) (M : Mem) : Option (Int32 × Mem) :=
  f_Town_costByRule_4 N this a0 N 0 0 M
abbrev rm_Town_costByRule : Room := { frames := 4, cells := 0, slots := 0, locals := 102 }
noncomputable def f_CT_begins_24 (N : Nat) (this : Nat) (a0 : Int32) : Nat → Int32 → Int32 → Mem → Option ((Int32 ⊕ String) × Mem)
  | 0, _, _, _ => none
  | n + 1, x2, x3, M => if 3 ≤ x3 then (some (.inl x2, M)) else ((gR M 10 this 3).bind fun v5 => (ck M 7 v5).bind fun _ => (f_Town_costByRule N v5 x3 M).bind fun z6 => (gR z6.2 10 this 3).bind fun v7 => (ck z6.2 7 v7).bind fun _ => (f_Town_costByRule N v7 x2 z6.2).bind fun z8 => if z8.1 ≤ z6.1 then (f_CT_begins_24 N this a0 n x2 (x3 + 1) z8.2) else (f_CT_begins_24 N this a0 n x3 (x3 + 1) z8.2))
noncomputable def f_CT_begins (N : Nat) (this : Nat) (a0 : Int32) (M : Mem) : Option ((Int32 ⊕ String) × Mem) :=
  (f_CT_needNumber a0 (-1) 2 M).bind fun z1 => sx z1.1 (fun v2 => if a0 = (-1) then (f_CT_begins_24 N this a0 N 0 1 z1.2) else ((gR z1.2 10 this 3).bind fun v3 => (ck z1.2 7 v3).bind fun _ => (f_Town_costByRule N v3 a0 z1.2).bind fun z4 => some (.inl z4.1, z4.2))) (fun e => some (.inr e, z1.2))
abbrev rm_CT_begins : Room := { frames := 7, cells := 1, slots := 6, locals := 132 }
noncomputable def f_Years_isAsTwoYearsAgo_2 (N : Nat) (this : Nat) (M : Mem) : Nat → Int32 → Option (Int32)
  | 0, _ => none
  | n + 1, x1 => (gI M 9 this 0).bind fun v1 => if v1 ≤ x1 then (some 1) else ((gR M 9 this 2).bind fun v2 => (ald M v2 x1).bind fun v3 => (gR M 9 this 4).bind fun v4 => (ald M v4 x1).bind fun v5 => if v3 = v5 then (f_Years_isAsTwoYearsAgo_2 N this M n (x1 + 1)) else (some 0))
noncomputable def f_Years_isAsTwoYearsAgo (N : Nat) (this : Nat) (M : Mem) : Option (Int32) :=
  f_Years_isAsTwoYearsAgo_2 N this M N 0
abbrev rm_Years_isAsTwoYearsAgo : Room := { frames := 0, cells := 0, slots := 0, locals := 0 }
noncomputable def f_Years_passYears_2 (N : Nat) (this : Nat) (a0 : Int32) : Nat → Int32 → Mem → Option (Mem)
  | 0, _, _ => none
  | n + 1, x2, M => if a0 ≤ x2 then (some M) else ((ck M 9 this).bind fun _ => (f_Years_passYear N this M).bind fun z1 => if z1.1 = 0 then (some z1.2) else ((ck z1.2 9 this).bind fun _ => (f_Years_isAsTwoYearsAgo N this z1.2).bind fun z2 => if z2 = 0 then (f_Years_passYears_2 N this a0 n (x2 + 1) z1.2) else (f_Years_passYears_2 N this a0 n ((x2 + ((((a0 - 1) - x2) / 2) * 2)) + 1) z1.2)))
noncomputable def f_Years_passYears (N : Nat) (this : Nat) (a0 : Int32) (M : Mem) : Option (Mem) :=
  f_Years_passYears_2 N this a0 N 0 M
abbrev rm_Years_passYears : Room := { frames := 3, cells := 0, slots := 0, locals := 71 }
noncomputable def f_Years_kinds_4 (N : Nat) (this : Nat) (M : Mem) : Nat → Int32 → Int32 → Option (Int32)
  | 0, _, _ => none
  | n + 1, x1, x2 => (gI M 9 this 0).bind fun v1 => if v1 ≤ x2 then ((f_Integer_bitCount x1).bind fun z2 => some z2) else ((gR M 9 this 2).bind fun v3 => (ald M v3 x2).bind fun v4 => f_Years_kinds_4 N this M n (x1 ||| (1 <<< (v4 &&& 31))) (x2 + 1))
noncomputable def f_Years_kinds (N : Nat) (this : Nat) (M : Mem) : Option (Int32) :=
  f_Years_kinds_4 N this M N 0 0
abbrev rm_Years_kinds : Room := { frames := 1, cells := 0, slots := 0, locals := 20 }
noncomputable def f_Years_howManyHave_28 (N : Nat) (this : Nat) (a0 : Int32) (M : Mem) (k4 : Int32 → Int32 → Option (Int32)) (x3 : Int32) (y0 : Int32) (y1 : Int32) : Option (Int32) :=
  k4 (y0 + y1) (x3 + 1)
noncomputable def f_Years_howManyHave_4 (N : Nat) (this : Nat) (a0 : Int32) (M : Mem) : Nat → Int32 → Int32 → Option (Int32)
  | 0, _, _ => none
  | n + 1, x2, x3 => (gI M 9 this 0).bind fun v1 => if v1 ≤ x3 then (some x2) else ((gR M 9 this 2).bind fun v2 => (ald M v2 x3).bind fun v3 => if v3 = a0 then (f_Years_howManyHave_28 N this a0 M (f_Years_howManyHave_4 N this a0 M n) x3 x2 1) else (f_Years_howManyHave_28 N this a0 M (f_Years_howManyHave_4 N this a0 M n) x3 x2 0))
noncomputable def f_Years_howManyHave (N : Nat) (this : Nat) (a0 : Int32) (M : Mem) : Option (Int32) :=
  f_Years_howManyHave_4 N this a0 M N 0 0
abbrev rm_Years_howManyHave : Room := { frames := 0, cells := 0, slots := 0, locals := 0 }
noncomputable def f_Years_mostCommon_6 (N : Nat) (this : Nat) (M : Mem) : Nat → Int32 → Int32 → Int32 → Option (Int32)
  | 0, _, _, _ => none
  | n + 1, x1, x2, x3 => if 32 ≤ x3 then (some x1) else ((ck M 9 this).bind fun _ => (f_Years_howManyHave N this x3 M).bind fun z1 => if z1 ≤ x2 then (f_Years_mostCommon_6 N this M n x1 x2 (x3 + 1)) else (f_Years_mostCommon_6 N this M n x3 z1 (x3 + 1)))
noncomputable def f_Years_mostCommon (N : Nat) (this : Nat) (M : Mem) : Option (Int32) :=
  f_Years_mostCommon_6 N this M N (-1) 0 0
abbrev rm_Years_mostCommon : Room := { frames := 1, cells := 0, slots := 0, locals := 23 }
noncomputable def f_CT_after (N : Nat) (this : Nat) (a0 : Int32) (a1 : Int32) (M : Mem) : Option ((Int32 ⊕ String) × Mem) :=
  (f_CT_needNumber a0 0 60 M).bind fun z1 => sx z1.1 (fun v2 => (f_CT_needWhat a1 2 z1.2).bind fun z3 => sx z3.1 (fun v4 => (gR z3.2 10 this 9).bind fun v5 => (gR z3.2 10 this 3).bind fun v6 => (ck z3.2 9 v5).bind fun _ => (f_Years_startFrom N v5 v6 z3.2).bind fun z7 => (gR z7 10 this 9).bind fun v8 => (ck z7 9 v8).bind fun _ => (f_Years_passYears N v8 a0 z7).bind fun z9 => if a1 = 0 then ((gR z9 10 this 9).bind fun v14 => (ck z9 9 v14).bind fun _ => (f_Years_kinds N v14 z9).bind fun z15 => some (.inl z15, z9)) else ((gR z9 10 this 9).bind fun v10 => (ck z9 9 v10).bind fun _ => (f_Years_mostCommon N v10 z9).bind fun z11 => if a1 = 1 then (some (.inl z11, z9)) else ((gR z9 10 this 9).bind fun v12 => (ck z9 9 v12).bind fun _ => (f_Years_howManyHave N v12 z11 z9).bind fun z13 => some (.inl z13, z9)))) (fun e => some (.inr e, z3.2))) (fun e => some (.inr e, z1.2))
abbrev rm_CT_after : Room := { frames := 7, cells := 2, slots := 12, locals := 132 }
noncomputable def f_Years_ownOf (this : Nat) (a0 : Int32) (M : Mem) : Option (Int32) :=
  if a0 < 0 then (some (-1)) else ((gI M 9 this 0).bind fun v1 => if v1 ≤ a0 then (some (-1)) else ((gR M 9 this 2).bind fun v2 => (ald M v2 a0).bind fun v3 => some v3))
abbrev rm_Years_ownOf : Room := { frames := 0, cells := 0, slots := 0, locals := 0 }
noncomputable def f_CT_custom (N : Nat) (this : Nat) (a0 : Int32) (a1 : Int32) (M : Mem) : Option ((Int32 ⊕ String) × Mem) :=
  (ck M 10 this).bind fun _ => (f_CT_needPerson this a0 M).bind fun z1 => sx z1.1 (fun v2 => (f_CT_needNumber a1 0 60 z1.2).bind fun z3 => sx z3.1 (fun v4 => (gR z3.2 10 this 9).bind fun v5 => (gR z3.2 10 this 3).bind fun v6 => (ck z3.2 9 v5).bind fun _ => (f_Years_startFrom N v5 v6 z3.2).bind fun z7 => (gR z7 10 this 9).bind fun v8 => (ck z7 9 v8).bind fun _ => (f_Years_passYears N v8 a1 z7).bind fun z9 => (gR z9 10 this 9).bind fun v10 => (ck z9 9 v10).bind fun _ => (f_Years_ownOf v10 a0 z9).bind fun z11 => some (.inl z11, z9)) (fun e => some (.inr e, z3.2))) (fun e => some (.inr e, z1.2))
abbrev rm_CT_custom : Room := { frames := 7, cells := 2, slots := 12, locals := 132 }
noncomputable def f_Years_tell_2 (N : Nat) (this : Nat) (a0 : Int32) (a1 : Int32) : Nat → Int32 → Mem → Option (Mem)
  | 0, _, _ => none
  | n + 1, x3, M => (gI M 9 this 0).bind fun v1 => if v1 ≤ x3 then (some M) else ((f_CT_isIn a0 x3).bind fun z2 => if z2 = 0 then (f_Years_tell_2 N this a0 a1 n (x3 + 1) M) else ((gR M 9 this 2).bind fun v3 => (ast M v3 x3 a1).bind fun M4 => f_Years_tell_2 N this a0 a1 n (x3 + 1) M4))
noncomputable def f_Years_tell (N : Nat) (this : Nat) (a0 : Int32) (a1 : Int32) (M : Mem) : Option (Mem) :=
  f_Years_tell_2 N this a0 a1 N 0 M
abbrev rm_Years_tell : Room := { frames := 1, cells := 0, slots := 0, locals := 21 }
noncomputable def f_CT_wins (N : Nat) (this : Nat) (a0 : Int32) (a1 : Int32) (a2 : Int32) (M : Mem) : Option (Int32 × Mem) :=
  (gR M 10 this 9).bind fun v1 => (gR M 10 this 3).bind fun v2 => (ck M 9 v1).bind fun _ => (f_Years_startFrom N v1 v2 M).bind fun z3 => (gR z3 10 this 9).bind fun v4 => (ck z3 9 v4).bind fun _ => (f_Years_tell N v4 a2 a0 z3).bind fun z5 => (gR z5 10 this 9).bind fun v6 => (ck z5 9 v6).bind fun _ => (f_Years_passYears N v6 a1 z5).bind fun z7 => (gR z7 10 this 9).bind fun v8 => (ck z7 9 v8).bind fun _ => (f_Years_howManyHave N v8 a0 z7).bind fun z9 => (gR z7 10 this 3).bind fun v10 => (gI z7 7 v10 2).bind fun v11 => if z9 = v11 then (some (1, z7)) else (some (0, z7))
abbrev rm_CT_wins : Room := { frames := 4, cells := 0, slots := 0, locals := 93 }
noncomputable def f_CT_told_37 (N : Nat) (this : Nat) (a0 : Int32) (a1 : Int32) (k22 : Int32 → Int32 → Mem → Option ((Int32 ⊕ String) × Mem)) : Nat → Int32 → Int32 → Int32 → Mem → Option ((Int32 ⊕ String) × Mem)
  | 0, _, _, _, _ => none
  | n + 1, x3, x4, x5, M => if x3 ≤ x5 then (k22 x3 (x4 + 1) M) else ((f_Integer_bitCount x5).bind fun z9 => if z9 = x4 then ((ck M 10 this).bind fun _ => (f_CT_wins N this a0 a1 x5 M).bind fun z10 => if z10.1 = 0 then (f_CT_told_37 N this a0 a1 k22 n x3 x4 (x5 + 1) z10.2) else (some (.inl x5, z10.2))) else (f_CT_told_37 N this a0 a1 k22 n x3 x4 (x5 + 1) M))
noncomputable def f_CT_told_22 (N : Nat) (this : Nat) (a0 : Int32) (a1 : Int32) : Nat → Int32 → Int32 → Mem → Option ((Int32 ⊕ String) × Mem)
  | 0, _, _, _ => none
  | n + 1, x3, x4, M => (gR M 10 this 3).bind fun v7 => (gI M 7 v7 2).bind fun v8 => if v8 ≤ x4 then (some (.inl x3, M)) else (f_CT_told_37 N this a0 a1 (f_CT_told_22 N this a0 a1 n) N x3 x4 0 M)
noncomputable def f_CT_told (N : Nat) (this : Nat) (a0 : Int32) (a1 : Int32) (M : Mem) : Option ((Int32 ⊕ String) × Mem) :=
  (f_CT_needGreeting a0 M).bind fun z1 => sx z1.1 (fun v2 => (f_CT_needNumber a1 0 60 z1.2).bind fun z3 => sx z3.1 (fun v4 => (gR z3.2 10 this 3).bind fun v5 => (ck z3.2 7 v5).bind fun _ => (f_Town_everybody v5 z3.2).bind fun z6 => f_CT_told_22 N this a0 a1 N z6 0 z3.2) (fun e => some (.inr e, z3.2))) (fun e => some (.inr e, z1.2))
abbrev rm_CT_told : Room := { frames := 7, cells := 2, slots := 12, locals := 132 }
noncomputable def f_Town_coldsAfter_20 (N : Nat) (this : Nat) (a0 : Int32) (a1 : Int32) (M : Mem) (k8 : Int32 → Int32 → Option (Int32)) : Nat → Int32 → Int32 → Int32 → Int32 → Option (Int32)
  | 0, _, _, _, _ => none
  | n + 1, x3, x4, x5, x6 => (gI M 7 this 5).bind fun v2 => if v2 ≤ x6 then (if x3 = x5 then (some x3) else (k8 x3 (x4 + 1))) else ((gR M 7 this 3).bind fun v3 => (ald M v3 x6).bind fun v4 => (gR M 7 this 4).bind fun v5 => (ald M v5 x6).bind fun v6 => if (((1 <<< (v4 &&& 31)) ||| (1 <<< (v6 &&& 31))) &&& a0) = 0 then (if (((1 <<< (v4 &&& 31)) ||| (1 <<< (v6 &&& 31))) &&& x3) = 0 then (f_Town_coldsAfter_20 N this a0 a1 M k8 n x3 x4 x5 (x6 + 1)) else (f_Town_coldsAfter_20 N this a0 a1 M k8 n (x3 ||| ((1 <<< (v4 &&& 31)) ||| (1 <<< (v6 &&& 31)))) x4 x5 (x6 + 1))) else (f_Town_coldsAfter_20 N this a0 a1 M k8 n x3 x4 x5 (x6 + 1)))
noncomputable def f_Town_coldsAfter_8 (N : Nat) (this : Nat) (a0 : Int32) (a1 : Int32) (M : Mem) : Nat → Int32 → Int32 → Option (Int32)
  | 0, _, _ => none
  | n + 1, x3, x4 => if a1 ≤ x4 then (some x3) else (f_Town_coldsAfter_20 N this a0 a1 M (f_Town_coldsAfter_8 N this a0 a1 M n) N x3 x4 x3 0)
noncomputable def f_Town_coldsAfter (N : Nat) (this : Nat) (a0 : Int32) (a1 : Int32) (M : Mem) : Option (Int32) :=
  (ck M 7 this).bind fun _ => (f_Town_peopleWithCold N this M).bind fun z1 => f_Town_coldsAfter_8 N this a0 a1 M N z1 0
abbrev rm_Town_coldsAfter : Room := { frames := 1, cells := 0, slots := 0, locals := 22 }
noncomputable def f_CT_colds (N : Nat) (this : Nat) (a0 : Int32) (a1 : Int32) (M : Mem) : Option ((Int32 ⊕ String) × Mem) :=
  (f_CT_needNumber a1 0 20 M).bind fun z1 => sx z1.1 (fun v2 => (gR z1.2 10 this 3).bind fun v3 => (ck z1.2 7 v3).bind fun _ => (f_Town_coldsAfter N v3 a0 a1 z1.2).bind fun z4 => some (.inl z4, z1.2)) (fun e => some (.inr e, z1.2))
abbrev rm_CT_colds : Room := { frames := 7, cells := 1, slots := 6, locals := 132 }
noncomputable def f_CT_spared_92 (N : Nat) (this : Nat) (a0 : Int32) (a1 : Int32) (k47 : Int32 → Int32 → Mem → Option ((Int32 ⊕ String) × Mem)) (k62 : Int32 → Int32 → Int32 → Mem → Option ((Int32 ⊕ String) × Mem)) (x3 : Int32) (x4 : Int32) (x5 : Int32) (y0 : Int32) (M : Mem) : Option ((Int32 ⊕ String) × Mem) :=
  if y0 = 0 then (k62 x3 x4 (x5 + 1) M) else ((gR M 10 this 3).bind fun v14 => (ck M 7 v14).bind fun _ => (f_Town_coldsAfter N v14 x5 a1 M).bind fun z15 => (f_CT_isIn z15 a0).bind fun z16 => if z16 = 0 then (some (.inl x5, M)) else (k62 x3 x4 (x5 + 1) M))
noncomputable def f_CT_spared_91 (N : Nat) (this : Nat) (a0 : Int32) (a1 : Int32) (k47 : Int32 → Int32 → Mem → Option ((Int32 ⊕ String) × Mem)) (k62 : Int32 → Int32 → Int32 → Mem → Option ((Int32 ⊕ String) × Mem)) (x3 : Int32) (x4 : Int32) (x5 : Int32) (M : Mem) : Option ((Int32 ⊕ String) × Mem) :=
  f_CT_spared_92 N this a0 a1 k47 k62 x3 x4 x5 0 M
noncomputable def f_CT_spared_62 (N : Nat) (this : Nat) (a0 : Int32) (a1 : Int32) (k47 : Int32 → Int32 → Mem → Option ((Int32 ⊕ String) × Mem)) : Nat → Int32 → Int32 → Int32 → Mem → Option ((Int32 ⊕ String) × Mem)
  | 0, _, _, _, _ => none
  | n + 1, x3, x4, x5, M => if x3 ≤ x5 then (k47 x3 (x4 + 1) M) else (if (x5 &&& (x3 ^^^ (-1))) = 0 then ((f_Integer_bitCount x5).bind fun z13 => if z13 = x4 then (f_CT_spared_92 N this a0 a1 k47 (f_CT_spared_62 N this a0 a1 k47 n) x3 x4 x5 1 M) else (f_CT_spared_91 N this a0 a1 k47 (f_CT_spared_62 N this a0 a1 k47 n) x3 x4 x5 M)) else (f_CT_spared_91 N this a0 a1 k47 (f_CT_spared_62 N this a0 a1 k47 n) x3 x4 x5 M))
noncomputable def f_CT_spared_47 (N : Nat) (this : Nat) (a0 : Int32) (a1 : Int32) : Nat → Int32 → Int32 → Mem → Option ((Int32 ⊕ String) × Mem)
  | 0, _, _, _ => none
  | n + 1, x3, x4, M => (gR M 10 this 3).bind fun v11 => (gI M 7 v11 2).bind fun v12 => if v12 ≤ x4 then (some (.inl x3, M)) else (f_CT_spared_62 N this a0 a1 (f_CT_spared_47 N this a0 a1 n) N x3 x4 0 M)
noncomputable def f_CT_spared (N : Nat) (this : Nat) (a0 : Int32) (a1 : Int32) (M : Mem) : Option ((Int32 ⊕ String) × Mem) :=
  (ck M 10 this).bind fun _ => (f_CT_needPerson this a0 M).bind fun z1 => sx z1.1 (fun v2 => (f_CT_needNumber a1 0 20 z1.2).bind fun z3 => sx z3.1 (fun v4 => (gR z3.2 10 this 3).bind fun v5 => (gR z3.2 7 v5 1).bind fun v6 => (ard z3.2 2 v6 a0).bind fun v7 => (gI z3.2 5 v7 4).bind fun v8 => if v8 = 0 then ((gR z3.2 10 this 3).bind fun v9 => (ck z3.2 7 v9).bind fun _ => (f_Town_everybody v9 z3.2).bind fun z10 => f_CT_spared_47 N this a0 a1 N (z10 &&& ((1 <<< (a0 &&& 31)) ^^^ (-1))) 0 z3.2) else (some (.inl (-2), z3.2))) (fun e => some (.inr e, z3.2))) (fun e => some (.inr e, z1.2))
abbrev rm_CT_spared : Room := { frames := 7, cells := 2, slots := 12, locals := 132 }
noncomputable def f_CT_trial (N : Nat) (this : Nat) (a0 : Int32) (a1 : Int32) (M : Mem) : Option ((Int32 ⊕ String) × Mem) :=
  (f_CT_needNumber a0 0 20 M).bind fun z1 => sx z1.1 (fun v2 => (f_CT_needWhat a1 3 z1.2).bind fun z3 => sx z3.1 (fun v4 => (gR z3.2 10 this 8).bind fun v5 => (gR z3.2 10 this 3).bind fun v6 => (ck z3.2 7 v5).bind fun _ => (f_Town_copyFrom N v5 v6 z3.2).bind fun z7 => (gR z7 10 this 8).bind fun v8 => (ck z7 7 v8).bind fun _ => (f_Town_passRounds N v8 a0 z7).bind fun z9 => if a1 = 0 then (some (.inl z9.1, z9.2)) else (if a1 = 1 then ((gR z9.2 10 this 8).bind fun v10 => (gI z9.2 7 v10 12).bind fun v11 => (gR z9.2 10 this 3).bind fun v12 => (gI z9.2 7 v12 12).bind fun v13 => some (.inl (v11 - v13), z9.2)) else (if a1 = 2 then ((gR z9.2 10 this 9).bind fun v14 => (gR z9.2 10 this 8).bind fun v15 => (ck z9.2 9 v14).bind fun _ => (f_Years_startFrom N v14 v15 z9.2).bind fun z16 => (gR z16 10 this 9).bind fun v17 => (ck z16 9 v17).bind fun _ => (f_Years_kinds N v17 z16).bind fun z18 => some (.inl z18, z16)) else ((gR z9.2 10 this 8).bind fun v19 => (ck z9.2 7 v19).bind fun _ => (f_Town_peopleWithCold N v19 z9.2).bind fun z20 => some (.inl z20, z9.2))))) (fun e => some (.inr e, z3.2))) (fun e => some (.inr e, z1.2))
abbrev rm_CT_trial : Room := { frames := 7, cells := 2, slots := 12, locals := 156 }
noncomputable def f_CT_span_17 (N : Nat) (this : Nat) (a0 : Int32) (a1 : Int32) : Nat → Int32 → Int32 → Int32 → Mem → Option ((Int32 ⊕ String) × Mem)
  | 0, _, _, _, _ => none
  | n + 1, x3, x4, x5, M => if 6 < x5 then (if a1 = 0 then (some (.inl x3, M)) else (some (.inl x4, M))) else ((gR M 10 this 8).bind fun v3 => (gR M 10 this 3).bind fun v4 => (ck M 7 v3).bind fun _ => (f_Town_copyFrom N v3 v4 M).bind fun z5 => (gR z5 10 this 8).bind fun v6 => (pI z5 7 v6 8 x5).bind fun M7 => (gR M7 10 this 8).bind fun v8 => (ck M7 7 v8).bind fun _ => (f_Town_passRounds N v8 a0 M7).bind fun z9 => (f_Math_min x3 z9.1).bind fun z10 => (f_Math_max x4 z9.1).bind fun z11 => f_CT_span_17 N this a0 a1 n z10 z11 (x5 + 1) z9.2)
noncomputable def f_CT_span (N : Nat) (this : Nat) (a0 : Int32) (a1 : Int32) (M : Mem) : Option ((Int32 ⊕ String) × Mem) :=
  (f_CT_needNumber a0 0 20 M).bind fun z1 => sx z1.1 (fun v2 => f_CT_span_17 N this a0 a1 N 1000000000 0 1 z1.2) (fun e => some (.inr e, z1.2))
abbrev rm_CT_span : Room := { frames := 7, cells := 1, slots := 6, locals := 156 }
noncomputable def f_CT_log (this : Nat) (a0 : Int32) (a1 : Int32) (M : Mem) : Option ((Int32 ⊕ String) × Mem) :=
  (f_CT_needWhat a1 7 M).bind fun z1 => sx z1.1 (fun v2 => (gR z1.2 10 this 3).bind fun v3 => (gR z1.2 7 v3 14).bind fun v4 => (ck z1.2 3 v4).bind fun _ => (f_Log_cellOf v4 a0 a1 z1.2).bind fun z5 => some (.inl z5, z1.2)) (fun e => some (.inr e, z1.2))
abbrev rm_CT_log : Room := { frames := 7, cells := 1, slots := 6, locals := 131 }
noncomputable def f_R_init (this : Nat) (M : Mem) : Option (Mem) :=
  (nwI M 1300 1300).bind fun z1 => (pR z1.2 11 this 1 z1.1).bind fun M2 => (nwI M2 1300 1300).bind fun z3 => (pR z3.2 11 this 2 z3.1).bind fun M4 => (nwI M4 900 900).bind fun z5 => (pR z5.2 11 this 4 z5.1).bind fun M6 => (nwI M6 10800 10800).bind fun z7 => (pR z7.2 11 this 5 z7.1).bind fun M8 => (nwI M8 400 400).bind fun z9 => (pR z9.2 11 this 7 z9.1).bind fun M10 => (pI M10 11 this 12 (-1)).bind fun M11 => (nwI M11 6 6).bind fun z12 => (pR z12.2 11 this 14 z12.1).bind fun M13 => (nwI M13 10 10).bind fun z14 => (pR z14.2 11 this 18 z14.1).bind fun M15 => (nwI M15 10 10).bind fun z16 => (pR z16.2 11 this 19 z16.1).bind fun M17 => (nwI M17 10 10).bind fun z18 => (pR z18.2 11 this 20 z18.1).bind fun M19 => (nwI M19 32 32).bind fun z20 => (pR z20.2 11 this 21 z20.1).bind fun M21 => (nwI M21 8 8).bind fun z22 => (pR z22.2 11 this 22 z22.1).bind fun M23 => (nwI M23 8 8).bind fun z24 => (pR z24.2 11 this 23 z24.1).bind fun M25 => (nwI M25 1024 1024).bind fun z26 => (pR z26.2 11 this 24 z26.1).bind fun M27 => (nwI M27 100 100).bind fun z28 => (pR z28.2 11 this 25 z28.1).bind fun M29 => (gR M29 11 this 1).bind fun v30 => (ast M29 v30 1 (-1)).bind fun M31 => (gR M31 11 this 1).bind fun v32 => (ast M31 v32 16 1).bind fun M33 => (gR M33 11 this 1).bind fun v34 => (ast M33 v34 13 10).bind fun M35 => (gR M35 11 this 1).bind fun v36 => (ast M35 v36 14 2).bind fun M37 => (gR M37 11 this 1).bind fun v38 => (ast M37 v38 15 5).bind fun M39 => some M39
abbrev rm_R_init : Room := { frames := 1, cells := 14, slots := 15908, locals := 30 }
noncomputable def f_R_thrown (r : Rho) : Option (Int32) :=
  some (r.1 0)
abbrev rm_R_thrown : Room := { frames := 0, cells := 0, slots := 0, locals := 0 }
noncomputable def f_R_feed_76 (N : Nat) (a0 : Int32) (a1 : Int32) (a2 : Int32) (a3 : Int32) (a4 : Int32) (k23 : Int32 → Rho → Option (Int32 × Rho)) (x6 : Int32) (y0 : Int32) (r : Rho) : Option (Int32 × Rho) :=
  (rst r 7 (r.1 8) ((ushr y0 (24 - (8 * (x6 - x6 / 4 * 4)))) &&& 255)).bind fun r1 => k23 (x6 + 1) (r_set r1 8 ((r1.1 8) + 1))
noncomputable def f_R_feed_23 (N : Nat) (a0 : Int32) (a1 : Int32) (a2 : Int32) (a3 : Int32) (a4 : Int32) : Nat → Int32 → Rho → Option (Int32 × Rho)
  | 0, _, _ => none
  | n + 1, x6, r => if 20 ≤ x6 then (some (r.1 8, r)) else (if 4 ≤ x6 then (if 8 ≤ x6 then (if 12 ≤ x6 then (if 16 ≤ x6 then (f_R_feed_76 N a0 a1 a2 a3 a4 (f_R_feed_23 N a0 a1 a2 a3 a4 n) x6 a4 r) else (f_R_feed_76 N a0 a1 a2 a3 a4 (f_R_feed_23 N a0 a1 a2 a3 a4 n) x6 a3 r)) else (f_R_feed_76 N a0 a1 a2 a3 a4 (f_R_feed_23 N a0 a1 a2 a3 a4 n) x6 a2 r)) else (f_R_feed_76 N a0 a1 a2 a3 a4 (f_R_feed_23 N a0 a1 a2 a3 a4 n) x6 a1 r)) else (f_R_feed_76 N a0 a1 a2 a3 a4 (f_R_feed_23 N a0 a1 a2 a3 a4 n) x6 a0 r))
noncomputable def f_R_feed (N : Nat) (a0 : Int32) (a1 : Int32) (a2 : Int32) (a3 : Int32) (a4 : Int32) (r : Rho) : Option (Int32 × Rho) :=
  if (((r_set r 0 0).1 8) + 20) ≤ 400 then (f_R_feed_23 N a0 a1 a2 a3 a4 N 0 (r_set r 0 0)) else (some ((-1), r_set r 0 0))
abbrev rm_R_feed : Room := { frames := 0, cells := 0, slots := 0, locals := 0 }
noncomputable def f_R_isIn (a0 : Int32) (a1 : Int32) (a2 : Int32) : Option (Int32) :=
  if a0 < a1 then (some 0) else (if a2 < a0 then (some 0) else (some 1))
abbrev rm_R_isIn : Room := { frames := 0, cells := 0, slots := 0, locals := 0 }
noncomputable def f_R_end (a0 : Int32) (r : Rho) : Option (Int32 × Rho) :=
  (f_R_isIn a0 0 ((r_set r 0 0).1 8)).bind fun z1 => if z1 = 0 then (some (0, r_set r 0 0)) else (some (1, r_set (r_set r 0 0) 8 a0))
abbrev rm_R_end : Room := { frames := 1, cells := 0, slots := 0, locals := 22 }
noncomputable def f_R_begins (r : Rho) : Option (Rho) :=
  some (r_set (r_set (r_set (r_set (r_set (r_set r 12 (-1)) 9 (-1)) 10 ((r_set (r_set r 12 (-1)) 9 (-1)).1 8)) 8 0) 11 0) 13 0)
abbrev rm_R_begins : Room := { frames := 0, cells := 0, slots := 0, locals := 0 }
noncomputable def f_R_letter (a0 : Int32) (r : Rho) : Option (Int32) :=
  if (r.1 9) = (-1) then ((rld r 7 a0).bind fun v2 => some v2) else ((rld r 1 ((r.1 9) + a0)).bind fun v1 => some v1)
abbrev rm_R_letter : Room := { frames := 0, cells := 0, slots := 0, locals := 0 }
noncomputable def f_R_skip_0 (N : Nat) : Nat → Rho → Option (Rho)
  | 0, _ => none
  | n + 1, r => if (r.1 10) ≤ (r.1 11) then (some r) else ((f_R_letter (r.1 11) r).bind fun z1 => if z1 = 32 then (f_R_skip_0 N n (r_set r 11 ((r.1 11) + 1))) else (some r))
noncomputable def f_R_skip (N : Nat) (r : Rho) : Option (Rho) :=
  f_R_skip_0 N N r
abbrev rm_R_skip : Room := { frames := 1, cells := 0, slots := 0, locals := 21 }
noncomputable def f_R_wrong (a0 : Int32) (r : Rho) : Option (Rho) :=
  if (r.1 12) = (-1) then (some (r_set r 12 a0)) else (some r)
abbrev rm_R_wrong : Room := { frames := 0, cells := 0, slots := 0, locals := 0 }
noncomputable def f_R_has__55 (N : Nat) (a0 : Nat) : Nat → Int32 → Int32 → Rho → Option (Int32 × Rho)
  | 0, _, _, _ => none
  | n + 1, x2, x3, r => (sLen a0).bind fun v5 => if v5 ≤ x3 then (some (1, r_set r 11 x2)) else ((f_R_letter ((r.1 11) + x3) r).bind fun z6 => (sAt a0 x3).bind fun v7 => if z6 = v7 then (f_R_has__55 N a0 n x2 (x3 + 1) r) else (some (0, r)))
noncomputable def f_R_has__38 (N : Nat) (a0 : Nat) (x2 : Int32) (r : Rho) : Option (Int32 × Rho) :=
  (sLen a0).bind fun v4 => if (x2 - (r.1 11)) = v4 then (f_R_has__55 N a0 N x2 0 r) else (some (0, r))
noncomputable def f_R_has__9 (N : Nat) (a0 : Nat) : Nat → Int32 → Rho → Option (Int32 × Rho)
  | 0, _, _ => none
  | n + 1, x2, r => if (r.1 10) ≤ x2 then (f_R_has__38 N a0 x2 r) else ((f_R_letter x2 r).bind fun z2 => (f_R_isIn z2 97 122).bind fun z3 => if z3 = 0 then (f_R_has__38 N a0 x2 r) else (f_R_has__9 N a0 n (x2 + 1) r))
noncomputable def f_R_has_ (N : Nat) (a0 : Nat) (r : Rho) : Option (Int32 × Rho) :=
  (f_R_skip N r).bind fun z1 => f_R_has__9 N a0 N (z1.1 11) z1
abbrev rm_R_has_ : Room := { frames := 8, cells := 0, slots := 0, locals := 400 }
noncomputable def f_R_must (N : Nat) (a0 : Nat) (r : Rho) : Option (Rho) :=
  if (r.1 12) = (-1) then ((f_R_has_ N a0 r).bind fun z1 => if z1.1 = 0 then ((f_R_wrong (z1.2.1 11) z1.2).bind fun z2 => some z2) else (some z1.2)) else (some r)
abbrev rm_R_must : Room := { frames := 9, cells := 0, slots := 0, locals := 423 }
noncomputable def f_R_place (N : Nat) (r : Rho) : Option (Int32 × Rho) :=
  (f_R_skip N r).bind fun z1 => some (z1.1 11, z1)
abbrev rm_R_place : Room := { frames := 2, cells := 0, slots := 0, locals := 41 }
noncomputable def f_R_figures_119 (N : Nat) (a0 : Int32) (a1 : Int32) (x3 : Int32) (x4 : Int32) (r : Rho) : Option (Int32 × Rho) :=
  (f_R_wrong x3 r).bind fun z5 => some (x4, z5)
noncomputable def f_R_figures_89 (N : Nat) (a0 : Int32) (a1 : Int32) (x3 : Int32) (x4 : Int32) (r : Rho) : Option (Int32 × Rho) :=
  if (r.1 11) = x3 then (f_R_figures_119 N a0 a1 x3 x4 r) else (if 3 < ((r.1 11) - x3) then (f_R_figures_119 N a0 a1 x3 x4 r) else (if x4 < a0 then (f_R_figures_119 N a0 a1 x3 x4 r) else (if x4 ≤ a1 then (some (x4, r)) else (f_R_figures_119 N a0 a1 x3 x4 r))))
noncomputable def f_R_figures_18 (N : Nat) (a0 : Int32) (a1 : Int32) : Nat → Int32 → Int32 → Rho → Option (Int32 × Rho)
  | 0, _, _, _ => none
  | n + 1, x3, x4, r => if (r.1 10) ≤ (r.1 11) then (f_R_figures_89 N a0 a1 x3 x4 r) else ((f_R_letter (r.1 11) r).bind fun z2 => (f_R_isIn z2 48 57).bind fun z3 => if z3 = 0 then (f_R_figures_89 N a0 a1 x3 x4 r) else (if 3 < ((r.1 11) - x3) then (f_R_figures_89 N a0 a1 x3 x4 r) else ((f_R_letter (r.1 11) r).bind fun z4 => f_R_figures_18 N a0 a1 n x3 (((10 * x4) + z4) - 48) (r_set r 11 ((r.1 11) + 1)))))
noncomputable def f_R_figures (N : Nat) (a0 : Int32) (a1 : Int32) (r : Rho) : Option (Int32 × Rho) :=
  if (r.1 12) = (-1) then ((f_R_place N r).bind fun z1 => f_R_figures_18 N a0 a1 N z1.1 0 z1.2) else (some (0, r))
abbrev rm_R_figures : Room := { frames := 3, cells := 0, slots := 0, locals := 61 }
noncomputable def f_R_greeting_100 (N : Nat) (y0 : Int32) (y1 : Int32) (r : Rho) : Option (Int32 × Rho) :=
  some (y0 + y1, r)
noncomputable def f_R_greeting_85 (N : Nat) (x1 : Int32) (x2 : Int32) (r : Rho) : Option (Int32 × Rho) :=
  if x2 = 0 then (f_R_greeting_100 N (14 + (2 * x1)) 0 r) else (f_R_greeting_100 N (14 + (2 * x1)) 1 r)
noncomputable def f_R_greeting (N : Nat) (r : Rho) : Option (Int32 × Rho) :=
  if (r.1 12) = (-1) then ((f_R_has_ N 42 r).bind fun z1 => if z1.1 = 0 then ((f_R_has_ N 43 z1.2).bind fun z2 => if z2.1 = 0 then ((f_R_has_ N 44 z2.2).bind fun z3 => if z3.1 = 0 then ((f_R_must N 45 z3.2).bind fun z4 => (f_R_figures N 1 4 z4).bind fun z5 => if (z5.2.1 12) = (-1) then ((f_R_has_ N 46 z5.2).bind fun z6 => if z6.1 = 0 then ((f_R_must N 47 z6.2).bind fun z7 => f_R_greeting_85 N z5.1 z6.1 z7) else (f_R_greeting_85 N z5.1 z6.1 z6.2)) else (some (0, z5.2))) else (some (24, z3.2))) else (some (8, z2.2))) else (some (0, z1.2))) else (some (0, r))
abbrev rm_R_greeting : Room := { frames := 10, cells := 0, slots := 0, locals := 444 }
noncomputable def f_R_every_40 (N : Nat) (dp : Rho → Option (Int32 × Rho)) (k5 : Int32 → Rho → Option (Int32 × Rho)) (y0 : Int32) (r : Rho) : Option (Int32 × Rho) :=
  k5 y0 r
noncomputable def f_R_every_39 (N : Nat) (dp : Rho → Option (Int32 × Rho)) (k5 : Int32 → Rho → Option (Int32 × Rho)) (r : Rho) : Option (Int32 × Rho) :=
  f_R_every_40 N dp k5 0 r
noncomputable def f_R_every_5 (N : Nat) (dp : Rho → Option (Int32 × Rho)) : Nat → Int32 → Rho → Option (Int32 × Rho)
  | 0, _, _ => none
  | n + 1, x1, r => if (r.1 12) = (-1) then ((f_R_has_ N 58 r).bind fun z3 => if z3.1 = 0 then ((zg x1).bind fun z4 => some (z4, z3.2)) else ((dp z3.2).bind fun z5 => if x1 = 0 then (f_R_every_39 N dp (f_R_every_5 N dp n) z5.2) else (if z5.1 = 0 then (f_R_every_39 N dp (f_R_every_5 N dp n) z5.2) else (f_R_every_40 N dp (f_R_every_5 N dp n) 1 z5.2)))) else ((zg x1).bind fun z2 => some (z2, r))
noncomputable def f_R_every (N : Nat) (dp : Rho → Option (Int32 × Rho)) (r : Rho) : Option (Int32 × Rho) :=
  (dp r).bind fun z1 => f_R_every_5 N dp N z1.1 z1.2
abbrev rm_R_atom (d : Nat) : Room := { frames := 60 + 12 * d + 0, cells := 0, slots := 0, locals := 3000 + 400 * d + 0 }
abbrev rm_R_every (d : Nat) : Room := { frames := 60 + 12 * d + 1, cells := 0, slots := 0, locals := 3000 + 400 * d + 60 }
noncomputable def f_R_some_40 (N : Nat) (dp : Rho → Option (Int32 × Rho)) (k5 : Int32 → Rho → Option (Int32 × Rho)) (y0 : Int32) (r : Rho) : Option (Int32 × Rho) :=
  k5 y0 r
noncomputable def f_R_some_35 (N : Nat) (dp : Rho → Option (Int32 × Rho)) (k5 : Int32 → Rho → Option (Int32 × Rho)) (r : Rho) : Option (Int32 × Rho) :=
  f_R_some_40 N dp k5 1 r
noncomputable def f_R_some_5 (N : Nat) (dp : Rho → Option (Int32 × Rho)) : Nat → Int32 → Rho → Option (Int32 × Rho)
  | 0, _, _ => none
  | n + 1, x1, r => if (r.1 12) = (-1) then ((f_R_has_ N 59 r).bind fun z3 => if z3.1 = 0 then ((zg x1).bind fun z4 => some (z4, z3.2)) else ((f_R_every N dp z3.2).bind fun z5 => if x1 = 0 then (if z5.1 = 0 then (f_R_some_40 N dp (f_R_some_5 N dp n) 0 z5.2) else (f_R_some_35 N dp (f_R_some_5 N dp n) z5.2)) else (f_R_some_35 N dp (f_R_some_5 N dp n) z5.2))) else ((zg x1).bind fun z2 => some (z2, r))
noncomputable def f_R_some (N : Nat) (dp : Rho → Option (Int32 × Rho)) (r : Rho) : Option (Int32 × Rho) :=
  (f_R_every N dp r).bind fun z1 => f_R_some_5 N dp N z1.1 z1.2
abbrev rm_R_some (d : Nat) : Room := { frames := 60 + 12 * d + 2, cells := 0, slots := 0, locals := 3000 + 400 * d + 120 }
noncomputable def f_R_isSign (N : Nat) (a0 : Int32) (r : Rho) : Option (Int32 × Rho) :=
  (f_R_skip N r).bind fun z1 => if (z1.1 10) ≤ (z1.1 11) then (some (0, z1)) else ((f_R_letter (z1.1 11) z1).bind fun z2 => if z2 = a0 then (some (1, z1)) else (some (0, z1)))
abbrev rm_R_isSign : Room := { frames := 2, cells := 0, slots := 0, locals := 41 }
noncomputable def f_R_part_131 (N : Nat) (y0 : Int32) (r : Rho) : Option (Int32 × Rho) :=
  if y0 = (-1) then ((f_R_wrong (r.1 11) r).bind fun z12 => some (0, z12)) else ((rld r 14 y0).bind fun v11 => some (v11, r))
noncomputable def f_R_part_52 (N : Nat) (r : Rho) : Option (Int32 × Rho) :=
  (f_R_has_ N 52 r).bind fun z5 => if z5.1 = 0 then ((f_R_has_ N 53 z5.2).bind fun z6 => if z6.1 = 0 then ((f_R_has_ N 54 z6.2).bind fun z7 => if z7.1 = 0 then ((f_R_has_ N 55 z7.2).bind fun z8 => if z8.1 = 0 then ((f_R_has_ N 56 z8.2).bind fun z9 => if z9.1 = 0 then ((f_R_has_ N 57 z9.2).bind fun z10 => if z10.1 = 0 then (f_R_part_131 N (-1) z10.2) else (f_R_part_131 N 5 z10.2)) else (f_R_part_131 N 4 z9.2)) else (f_R_part_131 N 3 z8.2)) else (f_R_part_131 N 2 z7.2)) else (f_R_part_131 N 1 z6.2)) else (f_R_part_131 N 0 z5.2)
noncomputable def f_R_part (N : Nat) (r : Rho) : Option (Int32 × Rho) :=
  if (r.1 12) = (-1) then ((f_R_skip N r).bind fun z1 => if (z1.1 10) ≤ (z1.1 11) then (f_R_part_52 N z1) else ((f_R_letter (z1.1 11) z1).bind fun z2 => (f_R_isIn z2 48 57).bind fun z3 => if z3 = 0 then (f_R_part_52 N z1) else ((f_R_figures N 0 999 z1).bind fun z4 => some (z4.1, z4.2)))) else (some (0, r))
abbrev rm_R_part : Room := { frames := 9, cells := 0, slots := 0, locals := 423 }
noncomputable def f_R_sum_5 (N : Nat) : Nat → Int32 → Rho → Option (Int32 × Rho)
  | 0, _, _ => none
  | n + 1, x1, r => if (r.1 12) = (-1) then ((f_R_isSign N 43 r).bind fun z2 => if z2.1 = 0 then (some (x1, z2.2)) else ((f_R_part N (r_set z2.2 11 ((z2.2.1 11) + 1))).bind fun z3 => f_R_sum_5 N n (x1 + z3.1) z3.2)) else (some (x1, r))
noncomputable def f_R_sum (N : Nat) (r : Rho) : Option (Int32 × Rho) :=
  (f_R_part N r).bind fun z1 => f_R_sum_5 N N z1.1 z1.2
abbrev rm_R_sum : Room := { frames := 10, cells := 0, slots := 0, locals := 444 }
noncomputable def f_R_plain_73 (N : Nat) (x1 : Int32) (x2 : Int32) (r : Rho) : Option (Int32 × Rho) :=
  (f_R_sum N (r_set r 11 ((r.1 11) + 1))).bind fun z9 => if x2 = 0 then (if x1 ≤ z9.1 then (some (0, z9.2)) else (some (1, z9.2))) else (if z9.1 ≤ x1 then (some (0, z9.2)) else (some (1, z9.2)))
noncomputable def f_R_plain (N : Nat) (r : Rho) : Option (Int32 × Rho) :=
  (f_R_has_ N 50 r).bind fun z1 => if z1.1 = 0 then ((f_R_has_ N 51 z1.2).bind fun z2 => if z2.1 = 0 then ((f_R_sum N z2.2).bind fun z3 => if (z3.2.1 12) = (-1) then ((f_R_isSign N 60 z3.2).bind fun z4 => if z4.1 = 0 then ((f_R_isSign N 62 z4.2).bind fun z5 => if z5.1 = 0 then ((f_R_wrong (z5.2.1 11) z5.2).bind fun z6 => some (0, z6)) else (f_R_plain_73 N z3.1 z4.1 z5.2)) else (f_R_plain_73 N z3.1 z4.1 z4.2)) else (some (0, z3.2))) else ((zg (z2.2.1 16)).bind fun z7 => some (z7, z2.2))) else ((zg (z1.2.1 15)).bind fun z8 => some (z8, z1.2))
abbrev rm_R_plain : Room := { frames := 11, cells := 0, slots := 0, locals := 465 }
noncomputable def f_R_atom_138 (N : Nat) (fr : Rho → Option (Int32 × Rho)) (x3 : Int32) (r : Rho) : Option (Int32 × Rho) :=
  (zg x3).bind fun z11 => some (z11, r_set r 13 ((r.1 13) - 1))
noncomputable def f_R_atom_128 (N : Nat) (fr : Rho → Option (Int32 × Rho)) (x3 : Int32) (r : Rho) : Option (Int32 × Rho) :=
  f_R_atom_138 N (fr) x3 (r_set r 11 ((r.1 11) + 1))
noncomputable def f_R_atom_84 (N : Nat) (fr : Rho → Option (Int32 × Rho)) (y0 : Int32) (r : Rho) : Option (Int32 × Rho) :=
  f_R_atom_138 N (fr) y0 r
noncomputable def f_R_atom_40 (N : Nat) (fr : Rho → Option (Int32 × Rho)) (x1 : Int32) (x2 : Int32) (r : Rho) : Option (Int32 × Rho) :=
  if (r.1 13) = 6 then ((f_R_wrong x1 r).bind fun z10 => some (0, z10)) else (if x2 = 0 then ((f_R_some N (fr) (r_set (r_set r 13 ((r.1 13) + 1)) 11 (((r_set r 13 ((r.1 13) + 1)).1 11) + 1))).bind fun z6 => if (z6.2.1 12) = (-1) then ((f_R_isSign N 41 z6.2).bind fun z7 => if z7.1 = 0 then ((f_R_wrong (z7.2.1 11) z7.2).bind fun z8 => f_R_atom_128 N (fr) z6.1 z8) else (f_R_atom_128 N (fr) z6.1 z7.2)) else (f_R_atom_128 N (fr) z6.1 z6.2)) else ((fr (r_set r 13 ((r.1 13) + 1))).bind fun z9 => if z9.1 = 0 then (f_R_atom_84 N (fr) 1 z9.2) else (f_R_atom_84 N (fr) 0 z9.2)))
noncomputable def f_R_atom (N : Nat) : Nat → Rho → Option (Int32 × Rho)
  | 0, _ => none
  | d + 1, r => if (r.1 12) = (-1) then ((f_R_place N r).bind fun z1 => (f_R_has_ N 49 z1.2).bind fun z2 => if z2.1 = 0 then ((f_R_isSign N 40 z2.2).bind fun z3 => if z3.1 = 0 then ((f_R_plain N z3.2).bind fun z4 => (zg z4.1).bind fun z5 => some (z5, z4.2)) else (f_R_atom_40 N (f_R_atom N d) z1.1 z2.1 z3.2)) else (f_R_atom_40 N (f_R_atom N d) z1.1 z2.1 z2.2)) else (some (0, r))
noncomputable def f_R_lawLine_35 (N : Nat) (x1 : Int32) (y0 : Int32) (r : Rho) : Option (Rho) :=
  if (r.1 12) = (-1) then (if y0 = 0 then (some r) else (if (r.1 17) = (-1) then (some (r_set r 17 x1)) else (some r))) else (some r)
noncomputable def f_R_lawLine_30 (N : Nat) (x1 : Int32) (r : Rho) : Option (Rho) :=
  f_R_lawLine_35 N x1 1 r
noncomputable def f_R_lawLine (N : Nat) (r : Rho) : Option (Rho) :=
  (f_R_greeting N r).bind fun z1 => if (z1.2.1 12) = (-1) then ((f_R_has_ N 48 z1.2).bind fun z2 => if z2.1 = 0 then (f_R_lawLine_30 N z1.1 z2.2) else ((f_R_some N (f_R_atom N 10) z2.2).bind fun z3 => if z3.1 = 0 then (f_R_lawLine_35 N z1.1 0 z3.2) else (f_R_lawLine_30 N z1.1 z3.2))) else (some z1.2)
abbrev rm_R_lawLine : Room := { frames := 183, cells := 0, slots := 0, locals := 7142 }
