def f_R_habitLine_16 (N : Nat) (a0 : Int32) (r : Rho) : Option (Rho) :=
  (rld r 1 3).bind fun v3 => (f_R_figures N 0 (v3 - 1) r).bind fun z4 => (f_R_greeting N z4.2).bind fun z5 => (f_R_must N 62 z5.2).bind fun z6 => (f_R_figures N 1 9 z6).bind fun z7 => if (z7.2.1 12) = (-1) then ((rld z7.2 1 4).bind fun v8 => (rst z7.2 1 (20 + (3 * v8)) z4.1).bind fun r9 => (rst r9 1 ((20 + (3 * v8)) + 1) z5.1).bind fun r10 => (rst r10 1 ((20 + (3 * v8)) + 2) z7.1).bind fun r11 => (rld r11 1 4).bind fun v12 => (rst r11 1 4 (v12 + 1)).bind fun r13 => some r13) else (some z7.2)
def f_R_habitLine (N : Nat) (a0 : Int32) (r : Rho) : Option (Rho) :=
  (rld r 1 4).bind fun v1 => if v1 = 24 then ((f_R_wrong a0 r).bind fun z2 => f_R_habitLine_16 N a0 z2) else (f_R_habitLine_16 N a0 r)
abbrev rm_R_habitLine : Room := { frames := 11, cells := 0, slots := 0, locals := 466 }
set_option maxHeartbeats 4000000 in
set_option maxRecDepth 100000 in
theorem t_R_habitLine (l : Launch) (hfl : l.stackTraces = false) (G : wG) (on : g_on G = true) (N : Nat) (a0 : Int32) (M : Mem) (r : Rho) : Ctr l yX12_habitLine (wWs yX12_habitLine cX12_habitLine 6 none) rm_R_habitLine rm_R_habitLine.cells rm_R_habitLine.slots G [.ref (g_r G), .int a0] M r ((f_R_habitLine N a0 r).map (fun z => (.inl none, M, z))) := by
  refine Ctr.ofF (own := "CheekTownModel") (by decide +kernel) hfl rfl (Nat.le_of_ble_eq_true rfl) (fun p e s m args below meth c E hno hr hnm hw ls hl => ?_)
  obtain ⟨hx, hb, hts, hown, hml, hTT, -⟩ := id E
  have hl : lv_has ls 6 [(0, .ref (g_r G)), (1, .int a0)] := hl
  obtain ⟨H, hH⟩ : ∃ H, H = s.heap := ⟨_, rfl⟩
  obtain ⟨locs, hlo⟩ : ∃ L : List Loc, L = [] := ⟨_, rfl⟩
  rw [← hH, ← hlo]
  rw [← hlo] at hw
  replace hw : w_W G M r s H locs := by rw [hH]; exact hw
  have w16 : ∀ (r : Rho) (H : Heap) (locs : List Loc) (ls : Array Slot), w_W G M r s H locs → lv_has ls 6 [(0, .ref (g_r G))] → W p l e rm_R_habitLine s m args below meth c H locs 0 0 (PQ G below args s rm_R_habitLine.cells rm_R_habitLine.slots (fun z => (.inl none, M, z)) (f_R_habitLine_16 N a0 r)) (F0 m 16 ls []) := by
    intro r H locs ls hw hl
    unfold f_R_habitLine_16
    refine lv_aload_n hx hb dX12_habitLine_16 rfl (lv_at hl 0 rfl) ?_
    refine lv_iconst (v := 0) hx hb dX12_habitLine_17 (by decide) ?_
    refine lv_aload_n hx hb dX12_habitLine_18 rfl (lv_at hl 0 rfl) ?_
    refine rx_getA E hw on kF_R_7_11 (by decide) dX12_habitLine_19 ?_
    refine lv_iconst (v := 3) hx hb dX12_habitLine_22 (by decide) ?_
    refine rx_iald E hw on (by decide) dX12_habitLine_23 (fun v3 => ?_)
    refine lv_iconst (v := 1) hx hb dX12_habitLine_24 (by decide) ?_
    refine lv_isub hx hb dX12_habitLine_25 ?_
    refine W_bind fun z4 hz => ?_
    refine w_after (cells1 := 0) (slots1 := 0) (w_runV E kV_R_124 kc_X12_figures (t_R_figures l hfl G on N 0 (v3 - 1) M r ((fun z => (.inl (some (.int z.1)), M, z.2)) z4) (by rw [hz]; rfl)) ⟨Nat.le_of_ble_eq_true rfl, Nat.le_of_ble_eq_true rfl⟩ hw (w_recvR E hw on) rfl hl.1 rfl (Nat.le_of_ble_eq_true rfl) dX12_habitLine_26 ⟨Nat.le_of_ble_eq_true rfl, Nat.le_of_ble_eq_true rfl⟩) hw rfl (Nat.le_of_ble_eq_true rfl) (Nat.le_of_ble_eq_true rfl) (fun H locs hw => ?_)
    refine W.eq (g2 := F0 m 29 ls [.int z4.1]) rfl ?_
    have hw : w_W G M z4.2 s H locs := hw
    refine lv_istore_n (lv' := [(2, .int z4.1), (0, .ref (g_r G))]) hx hb dX12_habitLine_29 rfl hl (by decide) rfl (fun ls hl => ?_)
    refine lv_aload_n hx hb dX12_habitLine_30 rfl (lv_at hl 1 rfl) ?_
    refine W_bind fun z5 hz => ?_
    refine w_after (cells1 := 0) (slots1 := 0) (w_runV E kV_R_132 kc_X12_greeting (t_R_greeting l hfl G on N M z4.2 ((fun z => (.inl (some (.int z.1)), M, z.2)) z5) (by rw [hz]; rfl)) ⟨Nat.le_of_ble_eq_true rfl, Nat.le_of_ble_eq_true rfl⟩ hw (w_recvR E hw on) rfl hl.1 rfl (Nat.le_of_ble_eq_true rfl) dX12_habitLine_31 ⟨Nat.le_of_ble_eq_true rfl, Nat.le_of_ble_eq_true rfl⟩) hw rfl (Nat.le_of_ble_eq_true rfl) (Nat.le_of_ble_eq_true rfl) (fun H locs hw => ?_)
    refine W.eq (g2 := F0 m 34 ls [.int z5.1]) rfl ?_
    have hw : w_W G M z5.2 s H locs := hw
    refine lv_istore_n (lv' := [(3, .int z5.1), (2, .int z4.1), (0, .ref (g_r G))]) hx hb dX12_habitLine_34 rfl hl (by decide) rfl (fun ls hl => ?_)
    refine lv_aload_n hx hb dX12_habitLine_35 rfl (lv_at hl 2 rfl) ?_
    refine va_ldcS hx hb hown (hTT.2.2.1 62 _ rfl) dX12_habitLine_36 ?_
    refine W_bind fun z6 hz => ?_
    refine w_after (cells1 := 0) (slots1 := 0) (w_runV E kV_R_120 kc_X12_must (t_R_must l hfl G on N 62 M z5.2 ((fun z => (.inl none, M, z)) z6) (by rw [hz]; rfl)) ⟨Nat.le_of_ble_eq_true rfl, Nat.le_of_ble_eq_true rfl⟩ hw (w_recvR E hw on) rfl hl.1 rfl (Nat.le_of_ble_eq_true rfl) dX12_habitLine_38 ⟨Nat.le_of_ble_eq_true rfl, Nat.le_of_ble_eq_true rfl⟩) hw rfl (Nat.le_of_ble_eq_true rfl) (Nat.le_of_ble_eq_true rfl) (fun H locs hw => ?_)
    refine W.eq (g2 := F0 m 41 ls []) rfl ?_
    have hw : w_W G M z6 s H locs := hw
    refine lv_aload_n hx hb dX12_habitLine_41 rfl (lv_at hl 2 rfl) ?_
    refine lv_iconst (v := 1) hx hb dX12_habitLine_42 (by decide) ?_
    refine lv_bipush (v := 9) hx hb dX12_habitLine_43 (by decide) ?_
    refine W_bind fun z7 hz => ?_
    refine w_after (cells1 := 0) (slots1 := 0) (w_runV E kV_R_124 kc_X12_figures (t_R_figures l hfl G on N 1 9 M z6 ((fun z => (.inl (some (.int z.1)), M, z.2)) z7) (by rw [hz]; rfl)) ⟨Nat.le_of_ble_eq_true rfl, Nat.le_of_ble_eq_true rfl⟩ hw (w_recvR E hw on) rfl hl.1 rfl (Nat.le_of_ble_eq_true rfl) dX12_habitLine_45 ⟨Nat.le_of_ble_eq_true rfl, Nat.le_of_ble_eq_true rfl⟩) hw rfl (Nat.le_of_ble_eq_true rfl) (Nat.le_of_ble_eq_true rfl) (fun H locs hw => ?_)
    refine W.eq (g2 := F0 m 48 ls [.int z7.1]) rfl ?_
    have hw : w_W G M z7.2 s H locs := hw
    refine lv_istore (lv' := [(4, .int z7.1), (3, .int z5.1), (2, .int z4.1), (0, .ref (g_r G))]) hx hb dX12_habitLine_48 hl (by decide) rfl (fun ls hl => ?_)
    refine lv_aload_n hx hb dX12_habitLine_50 rfl (lv_at hl 3 rfl) ?_
    refine rx_getI E hw on kF_R_25_11 (by decide) dX12_habitLine_51 ?_
    refine lv_iconst (v := (-1)) hx hb dX12_habitLine_54 (by decide) ?_
    refine cx_icmp_eq (tgt := 59) E dX12_habitLine_55 (by decide) (fun _ => ?_) (fun _ => ?_)
    · refine lv_bipush (v := 20) hx hb dX12_habitLine_59 (by decide) ?_
      refine lv_iconst (v := 3) hx hb dX12_habitLine_61 (by decide) ?_
      refine lv_aload_n hx hb dX12_habitLine_62 rfl (lv_at hl 3 rfl) ?_
      refine rx_getA E hw on kF_R_7_11 (by decide) dX12_habitLine_63 ?_
      refine lv_iconst (v := 4) hx hb dX12_habitLine_66 (by decide) ?_
      refine rx_iald E hw on (by decide) dX12_habitLine_67 (fun v8 => ?_)
      refine lv_imul hx hb dX12_habitLine_68 ?_
      refine lv_iadd hx hb dX12_habitLine_69 ?_
      refine lv_istore (lv' := [(5, .int (20 + (3 * v8))), (4, .int z7.1), (3, .int z5.1), (2, .int z4.1), (0, .ref (g_r G))]) hx hb dX12_habitLine_70 hl (by decide) rfl (fun ls hl => ?_)
      refine lv_aload_n hx hb dX12_habitLine_72 rfl (lv_at hl 4 rfl) ?_
      refine rx_getA E hw on kF_R_7_11 (by decide) dX12_habitLine_73 ?_
      refine lv_iload hx hb dX12_habitLine_76 (lv_at hl 0 rfl) ?_
      refine lv_iload_n hx hb dX12_habitLine_78 rfl (lv_at hl 3 rfl) ?_
      refine rx_iast E hw on (by decide) dX12_habitLine_79 (fun r9 H locs hw => ?_)
      refine lv_aload_n hx hb dX12_habitLine_80 rfl (lv_at hl 4 rfl) ?_
      refine rx_getA E hw on kF_R_7_11 (by decide) dX12_habitLine_81 ?_
      refine lv_iload hx hb dX12_habitLine_84 (lv_at hl 0 rfl) ?_
      refine lv_iconst (v := 1) hx hb dX12_habitLine_86 (by decide) ?_
      refine lv_iadd hx hb dX12_habitLine_87 ?_
      refine lv_iload_n hx hb dX12_habitLine_88 rfl (lv_at hl 2 rfl) ?_
      refine rx_iast E hw on (by decide) dX12_habitLine_89 (fun r10 H locs hw => ?_)
      refine lv_aload_n hx hb dX12_habitLine_90 rfl (lv_at hl 4 rfl) ?_
      refine rx_getA E hw on kF_R_7_11 (by decide) dX12_habitLine_91 ?_
      refine lv_iload hx hb dX12_habitLine_94 (lv_at hl 0 rfl) ?_
      refine lv_iconst (v := 2) hx hb dX12_habitLine_96 (by decide) ?_
      refine lv_iadd hx hb dX12_habitLine_97 ?_
      refine lv_iload hx hb dX12_habitLine_98 (lv_at hl 1 rfl) ?_
      refine rx_iast E hw on (by decide) dX12_habitLine_100 (fun r11 H locs hw => ?_)
      refine lv_aload_n hx hb dX12_habitLine_101 rfl (lv_at hl 4 rfl) ?_
      refine rx_getA E hw on kF_R_7_11 (by decide) dX12_habitLine_102 ?_
      refine lv_iconst (v := 4) hx hb dX12_habitLine_105 (by decide) ?_
      refine lv_dup2_11 hx hb dX12_habitLine_106 rfl rfl ?_
      refine rx_iald E hw on (by decide) dX12_habitLine_107 (fun v12 => ?_)
      refine lv_iconst (v := 1) hx hb dX12_habitLine_108 (by decide) ?_
      refine lv_iadd hx hb dX12_habitLine_109 ?_
      refine rx_iast E hw on (by decide) dX12_habitLine_110 (fun r13 H locs hw => ?_)
      exact p_vret E hw hr (Nat.le_of_ble_eq_true rfl) (Nat.le_of_ble_eq_true rfl) rfl dX12_habitLine_111
    · exact p_vret E hw hr (Nat.le_of_ble_eq_true rfl) (Nat.le_of_ble_eq_true rfl) rfl dX12_habitLine_58
  unfold f_R_habitLine
  refine lv_aload_n hx hb dX12_habitLine_0 rfl (lv_at hl 0 rfl) ?_
  refine rx_getA E hw on kF_R_7_11 (by decide) dX12_habitLine_1 ?_
  refine lv_iconst (v := 4) hx hb dX12_habitLine_4 (by decide) ?_
  refine rx_iald E hw on (by decide) dX12_habitLine_5 (fun v1 => ?_)
  refine lv_bipush (v := 24) hx hb dX12_habitLine_6 (by decide) ?_
  refine cx_icmp_ne (tgt := 16) E dX12_habitLine_8 (by decide) (fun _ => ?_) (fun _ => ?_)
  · exact w16  r _ _ _ hw (lv_sub hl [0] rfl)
  · refine lv_aload_n hx hb dX12_habitLine_11 rfl (lv_at hl 0 rfl) ?_
    refine lv_iload_n hx hb dX12_habitLine_12 rfl (lv_at hl 1 rfl) ?_
    refine W_bind fun z2 hz => ?_
    refine w_after (cells1 := 0) (slots1 := 0) (w_runV E kV_R_105 kc_X12_wrong (t_R_wrong l hfl G on a0 M r ((fun z => (.inl none, M, z)) z2) (by rw [hz]; rfl)) ⟨Nat.le_of_ble_eq_true rfl, Nat.le_of_ble_eq_true rfl⟩ hw (w_recvR E hw on) rfl hl.1 rfl (Nat.le_of_ble_eq_true rfl) dX12_habitLine_13 ⟨Nat.le_of_ble_eq_true rfl, Nat.le_of_ble_eq_true rfl⟩) hw rfl (Nat.le_of_ble_eq_true rfl) (Nat.le_of_ble_eq_true rfl) (fun H locs hw => ?_)
    refine W.eq (g2 := F0 m 16 ls []) rfl ?_
    have hw : w_W G M z2 s H locs := hw
    exact w16  z2 _ _ _ hw (lv_sub hl [0] rfl)
def f_R_has (a0 : Int32) (a1 : Int32) (a2 : Int32) (r : Rho) : Option (Rho) :=
  (rst r 1 ((92 + (8 * a0)) + a1) a2).bind fun r1 => some r1
abbrev rm_R_has : Room := { frames := 0, cells := 0, slots := 0, locals := 0 }
set_option maxHeartbeats 4000000 in
set_option maxRecDepth 100000 in
theorem t_R_has (l : Launch) (hfl : l.stackTraces = false) (G : wG) (on : g_on G = true) (a0 : Int32) (a1 : Int32) (a2 : Int32) (M : Mem) (r : Rho) : Ctr l yX12_has (wWs yX12_has cX12_has 4 none) rm_R_has rm_R_has.cells rm_R_has.slots G [.ref (g_r G), .int a0, .int a1, .int a2] M r ((f_R_has a0 a1 a2 r).map (fun z => (.inl none, M, z))) := by
  refine Ctr.ofF (own := "CheekTownModel") (by decide +kernel) hfl rfl (Nat.le_of_ble_eq_true rfl) (fun p e s m args below meth c E hno hr hnm hw ls hl => ?_)
  obtain ⟨hx, hb, hts, hown, hml, hTT, -⟩ := id E
  have hl : lv_has ls 4 [(0, .ref (g_r G)), (1, .int a0), (2, .int a1), (3, .int a2)] := hl
  obtain ⟨H, hH⟩ : ∃ H, H = s.heap := ⟨_, rfl⟩
  obtain ⟨locs, hlo⟩ : ∃ L : List Loc, L = [] := ⟨_, rfl⟩
  rw [← hH, ← hlo]
  rw [← hlo] at hw
  replace hw : w_W G M r s H locs := by rw [hH]; exact hw
  unfold f_R_has
  refine lv_aload_n hx hb dX12_has_0 rfl (lv_at hl 0 rfl) ?_
  refine rx_getA E hw on kF_R_7_11 (by decide) dX12_has_1 ?_
  refine lv_bipush (v := 92) hx hb dX12_has_4 (by decide) ?_
  refine lv_bipush (v := 8) hx hb dX12_has_6 (by decide) ?_
  refine lv_iload_n hx hb dX12_has_8 rfl (lv_at hl 1 rfl) ?_
  refine lv_imul hx hb dX12_has_9 ?_
  refine lv_iadd hx hb dX12_has_10 ?_
  refine lv_iload_n hx hb dX12_has_11 rfl (lv_at hl 2 rfl) ?_
  refine lv_iadd hx hb dX12_has_12 ?_
  refine lv_iload_n hx hb dX12_has_13 rfl (lv_at hl 3 rfl) ?_
  refine rx_iast E hw on (by decide) dX12_has_14 (fun r1 H locs hw => ?_)
  exact p_vret E hw hr (Nat.le_of_ble_eq_true rfl) (Nat.le_of_ble_eq_true rfl) rfl dX12_has_15
def f_R_meets (a0 : Int32) (a1 : Int32) (a2 : Int32) (a3 : Int32) (r : Rho) : Option (Rho) :=
  (rst r 1 ((172 + (10 * a0)) + a1) a2).bind fun r1 => (rst r1 1 ((272 + (10 * a0)) + a1) a3).bind fun r2 => some r2
abbrev rm_R_meets : Room := { frames := 0, cells := 0, slots := 0, locals := 0 }
set_option maxHeartbeats 4000000 in
set_option maxRecDepth 100000 in
theorem t_R_meets (l : Launch) (hfl : l.stackTraces = false) (G : wG) (on : g_on G = true) (a0 : Int32) (a1 : Int32) (a2 : Int32) (a3 : Int32) (M : Mem) (r : Rho) : Ctr l yX12_meets (wWs yX12_meets cX12_meets 5 none) rm_R_meets rm_R_meets.cells rm_R_meets.slots G [.ref (g_r G), .int a0, .int a1, .int a2, .int a3] M r ((f_R_meets a0 a1 a2 a3 r).map (fun z => (.inl none, M, z))) := by
  refine Ctr.ofF (own := "CheekTownModel") (by decide +kernel) hfl rfl (Nat.le_of_ble_eq_true rfl) (fun p e s m args below meth c E hno hr hnm hw ls hl => ?_)
  obtain ⟨hx, hb, hts, hown, hml, hTT, -⟩ := id E
  have hl : lv_has ls 5 [(0, .ref (g_r G)), (1, .int a0), (2, .int a1), (3, .int a2), (4, .int a3)] := hl
  obtain ⟨H, hH⟩ : ∃ H, H = s.heap := ⟨_, rfl⟩
  obtain ⟨locs, hlo⟩ : ∃ L : List Loc, L = [] := ⟨_, rfl⟩
  rw [← hH, ← hlo]
  rw [← hlo] at hw
  replace hw : w_W G M r s H locs := by rw [hH]; exact hw
  unfold f_R_meets
  refine lv_aload_n hx hb dX12_meets_0 rfl (lv_at hl 0 rfl) ?_
  refine rx_getA E hw on kF_R_7_11 (by decide) dX12_meets_1 ?_
  refine lv_sipush (v := 172) hx hb dX12_meets_4 (by decide) ?_
  refine lv_bipush (v := 10) hx hb dX12_meets_7 (by decide) ?_
  refine lv_iload_n hx hb dX12_meets_9 rfl (lv_at hl 1 rfl) ?_
  refine lv_imul hx hb dX12_meets_10 ?_
  refine lv_iadd hx hb dX12_meets_11 ?_
  refine lv_iload_n hx hb dX12_meets_12 rfl (lv_at hl 2 rfl) ?_
  refine lv_iadd hx hb dX12_meets_13 ?_
  refine lv_iload_n hx hb dX12_meets_14 rfl (lv_at hl 3 rfl) ?_
  refine rx_iast E hw on (by decide) dX12_meets_15 (fun r1 H locs hw => ?_)
  refine lv_aload_n hx hb dX12_meets_16 rfl (lv_at hl 0 rfl) ?_
  refine rx_getA E hw on kF_R_7_11 (by decide) dX12_meets_17 ?_
  refine lv_sipush (v := 272) hx hb dX12_meets_20 (by decide) ?_
  refine lv_bipush (v := 10) hx hb dX12_meets_23 (by decide) ?_
  refine lv_iload_n hx hb dX12_meets_25 rfl (lv_at hl 1 rfl) ?_
  refine lv_imul hx hb dX12_meets_26 ?_
  refine lv_iadd hx hb dX12_meets_27 ?_
  refine lv_iload_n hx hb dX12_meets_28 rfl (lv_at hl 2 rfl) ?_
  refine lv_iadd hx hb dX12_meets_29 ?_
  refine lv_iload hx hb dX12_meets_30 (lv_at hl 4 rfl) ?_
  refine rx_iast E hw on (by decide) dX12_meets_32 (fun r2 H locs hw => ?_)
  exact p_vret E hw hr (Nat.le_of_ble_eq_true rfl) (Nat.le_of_ble_eq_true rfl) rfl dX12_meets_33
def f_R_personLine_153 (N : Nat) (a0 : Int32) : Nat → Int32 → Int32 → Rho → Option (Rho)
  | 0, _, _, _ => none
  | n + 1, x6, x7, r => if 10 ≤ x7 then ((rld r 1 5).bind fun v19 => (rst r 1 5 (v19 + 1)).bind fun r20 => some r20) else ((f_R_meets x6 x7 0 (-1) r).bind fun z21 => (f_R_meets x7 x6 0 (-1) z21).bind fun z22 => f_R_personLine_153 N a0 n x6 (x7 + 1) z22)
def f_R_personLine_16 (N : Nat) (a0 : Int32) (r : Rho) : Option (Rho) :=
  (rld r 1 3).bind fun v3 => (f_R_figures N 0 (v3 - 1) r).bind fun z4 => (f_R_greeting N z4.2).bind fun z5 => (f_R_must N 54 z5.2).bind fun z6 => (f_R_figures N 0 9 z6).bind fun z7 => (f_R_must N 64 z7.2).bind fun z8 => (f_R_figures N 0 100 z8).bind fun z9 => if (z9.2.1 12) = (-1) then ((rld z9.2 1 5).bind fun v10 => (f_R_has v10 0 z4.1 z9.2).bind fun z11 => (f_R_has v10 1 z5.1 z11).bind fun z12 => (f_R_has v10 2 z7.1 z12).bind fun z13 => (f_R_has v10 3 z9.1 z13).bind fun z14 => (f_R_has v10 4 0 z14).bind fun z15 => (f_R_has v10 5 0 z15).bind fun z16 => (f_R_has v10 6 (-1) z16).bind fun z17 => (f_R_has v10 7 (-1) z17).bind fun z18 => f_R_personLine_153 N a0 N v10 0 z18) else (some z9.2)
def f_R_personLine (N : Nat) (a0 : Int32) (r : Rho) : Option (Rho) :=
  (rld r 1 5).bind fun v1 => if v1 = 10 then ((f_R_wrong a0 r).bind fun z2 => f_R_personLine_16 N a0 z2) else (f_R_personLine_16 N a0 r)
abbrev rm_R_personLine : Room := { frames := 11, cells := 0, slots := 0, locals := 466 }
set_option maxHeartbeats 4000000 in
set_option maxRecDepth 100000 in
theorem t_R_personLine (l : Launch) (hfl : l.stackTraces = false) (G : wG) (on : g_on G = true) (N : Nat) (a0 : Int32) (M : Mem) (r : Rho) : Ctr l yX12_personLine (wWs yX12_personLine cX12_personLine 8 none) rm_R_personLine rm_R_personLine.cells rm_R_personLine.slots G [.ref (g_r G), .int a0] M r ((f_R_personLine N a0 r).map (fun z => (.inl none, M, z))) := by
  refine Ctr.ofF (own := "CheekTownModel") (by decide +kernel) hfl rfl (Nat.le_of_ble_eq_true rfl) (fun p e s m args below meth c E hno hr hnm hw ls hl => ?_)
  obtain ⟨hx, hb, hts, hown, hml, hTT, -⟩ := id E
  have hl : lv_has ls 8 [(0, .ref (g_r G)), (1, .int a0)] := hl
  obtain ⟨H, hH⟩ : ∃ H, H = s.heap := ⟨_, rfl⟩
  obtain ⟨locs, hlo⟩ : ∃ L : List Loc, L = [] := ⟨_, rfl⟩
  rw [← hH, ← hlo]
  rw [← hlo] at hw
  replace hw : w_W G M r s H locs := by rw [hH]; exact hw
  have w153 : ∀ (n : Nat) (x6 : Int32) (x7 : Int32) (r : Rho) (H : Heap) (locs : List Loc) (ls : Array Slot), w_W G M r s H locs → lv_has ls 8 [(0, .ref (g_r G)), (6, .int x6), (7, .int x7)] → W p l e rm_R_personLine s m args below meth c H locs 0 0 (PQ G below args s rm_R_personLine.cells rm_R_personLine.slots (fun z => (.inl none, M, z)) (f_R_personLine_153 N a0 n x6 x7 r)) (F0 m 153 ls []) := by
    intro n
    induction n with
    | zero => intros; exact W_none
    | succ n ih =>
      intro x6 x7 r H locs ls hw hl
      rw [f_R_personLine_153]
      refine lv_iload hx hb dX12_personLine_153 (lv_at hl 2 rfl) ?_
      refine lv_bipush (v := 10) hx hb dX12_personLine_155 (by decide) ?_
      refine cx_icmp_ge (tgt := 186) E dX12_personLine_157 (by decide) (fun _ => ?_) (fun _ => ?_)
      · refine lv_aload_n hx hb dX12_personLine_186 rfl (lv_at hl 0 rfl) ?_
        refine rx_getA E hw on kF_R_7_11 (by decide) dX12_personLine_187 ?_
        refine lv_iconst (v := 5) hx hb dX12_personLine_190 (by decide) ?_
        refine lv_dup2_11 hx hb dX12_personLine_191 rfl rfl ?_
        refine rx_iald E hw on (by decide) dX12_personLine_192 (fun v19 => ?_)
        refine lv_iconst (v := 1) hx hb dX12_personLine_193 (by decide) ?_
        refine lv_iadd hx hb dX12_personLine_194 ?_
        refine rx_iast E hw on (by decide) dX12_personLine_195 (fun r20 H locs hw => ?_)
        exact p_vret E hw hr (Nat.le_of_ble_eq_true rfl) (Nat.le_of_ble_eq_true rfl) rfl dX12_personLine_196
      · refine lv_aload_n hx hb dX12_personLine_160 rfl (lv_at hl 0 rfl) ?_
        refine lv_iload hx hb dX12_personLine_161 (lv_at hl 1 rfl) ?_
        refine lv_iload hx hb dX12_personLine_163 (lv_at hl 2 rfl) ?_
        refine lv_iconst (v := 0) hx hb dX12_personLine_165 (by decide) ?_
        refine lv_iconst (v := (-1)) hx hb dX12_personLine_166 (by decide) ?_
        refine W_bind fun z21 hz => ?_
        refine w_after (cells1 := 0) (slots1 := 0) (w_runV E kV_R_144 kc_X12_meets (t_R_meets l hfl G on x6 x7 0 (-1) M r ((fun z => (.inl none, M, z)) z21) (by rw [hz]; rfl)) ⟨Nat.le_of_ble_eq_true rfl, Nat.le_of_ble_eq_true rfl⟩ hw (w_recvR E hw on) rfl hl.1 rfl (Nat.le_of_ble_eq_true rfl) dX12_personLine_167 ⟨Nat.le_of_ble_eq_true rfl, Nat.le_of_ble_eq_true rfl⟩) hw rfl (Nat.le_of_ble_eq_true rfl) (Nat.le_of_ble_eq_true rfl) (fun H locs hw => ?_)
        refine W.eq (g2 := F0 m 170 ls []) rfl ?_
        have hw : w_W G M z21 s H locs := hw
        refine lv_aload_n hx hb dX12_personLine_170 rfl (lv_at hl 0 rfl) ?_
        refine lv_iload hx hb dX12_personLine_171 (lv_at hl 2 rfl) ?_
        refine lv_iload hx hb dX12_personLine_173 (lv_at hl 1 rfl) ?_
        refine lv_iconst (v := 0) hx hb dX12_personLine_175 (by decide) ?_
        refine lv_iconst (v := (-1)) hx hb dX12_personLine_176 (by decide) ?_
        refine W_bind fun z22 hz => ?_
        refine w_after (cells1 := 0) (slots1 := 0) (w_runV E kV_R_144 kc_X12_meets (t_R_meets l hfl G on x7 x6 0 (-1) M z21 ((fun z => (.inl none, M, z)) z22) (by rw [hz]; rfl)) ⟨Nat.le_of_ble_eq_true rfl, Nat.le_of_ble_eq_true rfl⟩ hw (w_recvR E hw on) rfl hl.1 rfl (Nat.le_of_ble_eq_true rfl) dX12_personLine_177 ⟨Nat.le_of_ble_eq_true rfl, Nat.le_of_ble_eq_true rfl⟩) hw rfl (Nat.le_of_ble_eq_true rfl) (Nat.le_of_ble_eq_true rfl) (fun H locs hw => ?_)
        refine W.eq (g2 := F0 m 180 ls []) rfl ?_
        have hw : w_W G M z22 s H locs := hw
        refine lv_iinc (v := x7 + 1) (lv' := [(7, .int (x7 + 1)), (0, .ref (g_r G)), (6, .int x6)]) hx hb dX12_personLine_180 hl (k := 2) rfl rfl (by decide) rfl (fun ls hl => ?_)
        refine lv_goto (tgt := 153) hx hb dX12_personLine_183 (by decide) ?_
        exact ih x6 (x7 + 1) z22 _ _ _ hw (lv_sub hl [1, 2, 0] rfl)
  have w16 : ∀ (r : Rho) (H : Heap) (locs : List Loc) (ls : Array Slot), w_W G M r s H locs → lv_has ls 8 [(0, .ref (g_r G))] → W p l e rm_R_personLine s m args below meth c H locs 0 0 (PQ G below args s rm_R_personLine.cells rm_R_personLine.slots (fun z => (.inl none, M, z)) (f_R_personLine_16 N a0 r)) (F0 m 16 ls []) := by
    intro r H locs ls hw hl
    unfold f_R_personLine_16
    refine lv_aload_n hx hb dX12_personLine_16 rfl (lv_at hl 0 rfl) ?_
    refine lv_iconst (v := 0) hx hb dX12_personLine_17 (by decide) ?_
    refine lv_aload_n hx hb dX12_personLine_18 rfl (lv_at hl 0 rfl) ?_
    refine rx_getA E hw on kF_R_7_11 (by decide) dX12_personLine_19 ?_
    refine lv_iconst (v := 3) hx hb dX12_personLine_22 (by decide) ?_
    refine rx_iald E hw on (by decide) dX12_personLine_23 (fun v3 => ?_)
    refine lv_iconst (v := 1) hx hb dX12_personLine_24 (by decide) ?_
    refine lv_isub hx hb dX12_personLine_25 ?_
    refine W_bind fun z4 hz => ?_
    refine w_after (cells1 := 0) (slots1 := 0) (w_runV E kV_R_124 kc_X12_figures (t_R_figures l hfl G on N 0 (v3 - 1) M r ((fun z => (.inl (some (.int z.1)), M, z.2)) z4) (by rw [hz]; rfl)) ⟨Nat.le_of_ble_eq_true rfl, Nat.le_of_ble_eq_true rfl⟩ hw (w_recvR E hw on) rfl hl.1 rfl (Nat.le_of_ble_eq_true rfl) dX12_personLine_26 ⟨Nat.le_of_ble_eq_true rfl, Nat.le_of_ble_eq_true rfl⟩) hw rfl (Nat.le_of_ble_eq_true rfl) (Nat.le_of_ble_eq_true rfl) (fun H locs hw => ?_)
    refine W.eq (g2 := F0 m 29 ls [.int z4.1]) rfl ?_
    have hw : w_W G M z4.2 s H locs := hw
    refine lv_istore_n (lv' := [(2, .int z4.1), (0, .ref (g_r G))]) hx hb dX12_personLine_29 rfl hl (by decide) rfl (fun ls hl => ?_)
    refine lv_aload_n hx hb dX12_personLine_30 rfl (lv_at hl 1 rfl) ?_
    refine W_bind fun z5 hz => ?_
    refine w_after (cells1 := 0) (slots1 := 0) (w_runV E kV_R_132 kc_X12_greeting (t_R_greeting l hfl G on N M z4.2 ((fun z => (.inl (some (.int z.1)), M, z.2)) z5) (by rw [hz]; rfl)) ⟨Nat.le_of_ble_eq_true rfl, Nat.le_of_ble_eq_true rfl⟩ hw (w_recvR E hw on) rfl hl.1 rfl (Nat.le_of_ble_eq_true rfl) dX12_personLine_31 ⟨Nat.le_of_ble_eq_true rfl, Nat.le_of_ble_eq_true rfl⟩) hw rfl (Nat.le_of_ble_eq_true rfl) (Nat.le_of_ble_eq_true rfl) (fun H locs hw => ?_)
    refine W.eq (g2 := F0 m 34 ls [.int z5.1]) rfl ?_
    have hw : w_W G M z5.2 s H locs := hw
    refine lv_istore_n (lv' := [(3, .int z5.1), (2, .int z4.1), (0, .ref (g_r G))]) hx hb dX12_personLine_34 rfl hl (by decide) rfl (fun ls hl => ?_)
    refine lv_aload_n hx hb dX12_personLine_35 rfl (lv_at hl 2 rfl) ?_
    refine va_ldcS hx hb hown (hTT.2.2.1 54 _ rfl) dX12_personLine_36 ?_
    refine W_bind fun z6 hz => ?_
    refine w_after (cells1 := 0) (slots1 := 0) (w_runV E kV_R_120 kc_X12_must (t_R_must l hfl G on N 54 M z5.2 ((fun z => (.inl none, M, z)) z6) (by rw [hz]; rfl)) ⟨Nat.le_of_ble_eq_true rfl, Nat.le_of_ble_eq_true rfl⟩ hw (w_recvR E hw on) rfl hl.1 rfl (Nat.le_of_ble_eq_true rfl) dX12_personLine_38 ⟨Nat.le_of_ble_eq_true rfl, Nat.le_of_ble_eq_true rfl⟩) hw rfl (Nat.le_of_ble_eq_true rfl) (Nat.le_of_ble_eq_true rfl) (fun H locs hw => ?_)
    refine W.eq (g2 := F0 m 41 ls []) rfl ?_
    have hw : w_W G M z6 s H locs := hw
    refine lv_aload_n hx hb dX12_personLine_41 rfl (lv_at hl 2 rfl) ?_
    refine lv_iconst (v := 0) hx hb dX12_personLine_42 (by decide) ?_
    refine lv_bipush (v := 9) hx hb dX12_personLine_43 (by decide) ?_
    refine W_bind fun z7 hz => ?_
    refine w_after (cells1 := 0) (slots1 := 0) (w_runV E kV_R_124 kc_X12_figures (t_R_figures l hfl G on N 0 9 M z6 ((fun z => (.inl (some (.int z.1)), M, z.2)) z7) (by rw [hz]; rfl)) ⟨Nat.le_of_ble_eq_true rfl, Nat.le_of_ble_eq_true rfl⟩ hw (w_recvR E hw on) rfl hl.1 rfl (Nat.le_of_ble_eq_true rfl) dX12_personLine_45 ⟨Nat.le_of_ble_eq_true rfl, Nat.le_of_ble_eq_true rfl⟩) hw rfl (Nat.le_of_ble_eq_true rfl) (Nat.le_of_ble_eq_true rfl) (fun H locs hw => ?_)
    refine W.eq (g2 := F0 m 48 ls [.int z7.1]) rfl ?_
    have hw : w_W G M z7.2 s H locs := hw
    refine lv_istore (lv' := [(4, .int z7.1), (3, .int z5.1), (2, .int z4.1), (0, .ref (g_r G))]) hx hb dX12_personLine_48 hl (by decide) rfl (fun ls hl => ?_)
    refine lv_aload_n hx hb dX12_personLine_50 rfl (lv_at hl 3 rfl) ?_
    refine va_ldcS hx hb hown (hTT.2.2.1 64 _ rfl) dX12_personLine_51 ?_
    refine W_bind fun z8 hz => ?_
    refine w_after (cells1 := 0) (slots1 := 0) (w_runV E kV_R_120 kc_X12_must (t_R_must l hfl G on N 64 M z7.2 ((fun z => (.inl none, M, z)) z8) (by rw [hz]; rfl)) ⟨Nat.le_of_ble_eq_true rfl, Nat.le_of_ble_eq_true rfl⟩ hw (w_recvR E hw on) rfl hl.1 rfl (Nat.le_of_ble_eq_true rfl) dX12_personLine_53 ⟨Nat.le_of_ble_eq_true rfl, Nat.le_of_ble_eq_true rfl⟩) hw rfl (Nat.le_of_ble_eq_true rfl) (Nat.le_of_ble_eq_true rfl) (fun H locs hw => ?_)
    refine W.eq (g2 := F0 m 56 ls []) rfl ?_
    have hw : w_W G M z8 s H locs := hw
    refine lv_aload_n hx hb dX12_personLine_56 rfl (lv_at hl 3 rfl) ?_
    refine lv_iconst (v := 0) hx hb dX12_personLine_57 (by decide) ?_
    refine lv_bipush (v := 100) hx hb dX12_personLine_58 (by decide) ?_
    refine W_bind fun z9 hz => ?_
    refine w_after (cells1 := 0) (slots1 := 0) (w_runV E kV_R_124 kc_X12_figures (t_R_figures l hfl G on N 0 100 M z8 ((fun z => (.inl (some (.int z.1)), M, z.2)) z9) (by rw [hz]; rfl)) ⟨Nat.le_of_ble_eq_true rfl, Nat.le_of_ble_eq_true rfl⟩ hw (w_recvR E hw on) rfl hl.1 rfl (Nat.le_of_ble_eq_true rfl) dX12_personLine_60 ⟨Nat.le_of_ble_eq_true rfl, Nat.le_of_ble_eq_true rfl⟩) hw rfl (Nat.le_of_ble_eq_true rfl) (Nat.le_of_ble_eq_true rfl) (fun H locs hw => ?_)
    refine W.eq (g2 := F0 m 63 ls [.int z9.1]) rfl ?_
    have hw : w_W G M z9.2 s H locs := hw
    refine lv_istore (lv' := [(5, .int z9.1), (4, .int z7.1), (3, .int z5.1), (2, .int z4.1), (0, .ref (g_r G))]) hx hb dX12_personLine_63 hl (by decide) rfl (fun ls hl => ?_)
    refine lv_aload_n hx hb dX12_personLine_65 rfl (lv_at hl 4 rfl) ?_
    refine rx_getI E hw on kF_R_25_11 (by decide) dX12_personLine_66 ?_
    refine lv_iconst (v := (-1)) hx hb dX12_personLine_69 (by decide) ?_
    refine cx_icmp_eq (tgt := 74) E dX12_personLine_70 (by decide) (fun _ => ?_) (fun _ => ?_)
    · refine lv_aload_n hx hb dX12_personLine_74 rfl (lv_at hl 4 rfl) ?_
      refine rx_getA E hw on kF_R_7_11 (by decide) dX12_personLine_75 ?_
      refine lv_iconst (v := 5) hx hb dX12_personLine_78 (by decide) ?_
      refine rx_iald E hw on (by decide) dX12_personLine_79 (fun v10 => ?_)
      refine lv_istore (lv' := [(6, .int v10), (5, .int z9.1), (4, .int z7.1), (3, .int z5.1), (2, .int z4.1), (0, .ref (g_r G))]) hx hb dX12_personLine_80 hl (by decide) rfl (fun ls hl => ?_)
      refine lv_aload_n hx hb dX12_personLine_82 rfl (lv_at hl 5 rfl) ?_
      refine lv_iload hx hb dX12_personLine_83 (lv_at hl 0 rfl) ?_
      refine lv_iconst (v := 0) hx hb dX12_personLine_85 (by decide) ?_
      refine lv_iload_n hx hb dX12_personLine_86 rfl (lv_at hl 4 rfl) ?_
      refine W_bind fun z11 hz => ?_
      refine w_after (cells1 := 0) (slots1 := 0) (w_runV E kV_R_141 kc_X12_has (t_R_has l hfl G on v10 0 z4.1 M z9.2 ((fun z => (.inl none, M, z)) z11) (by rw [hz]; rfl)) ⟨Nat.le_of_ble_eq_true rfl, Nat.le_of_ble_eq_true rfl⟩ hw (w_recvR E hw on) rfl hl.1 rfl (Nat.le_of_ble_eq_true rfl) dX12_personLine_87 ⟨Nat.le_of_ble_eq_true rfl, Nat.le_of_ble_eq_true rfl⟩) hw rfl (Nat.le_of_ble_eq_true rfl) (Nat.le_of_ble_eq_true rfl) (fun H locs hw => ?_)
      refine W.eq (g2 := F0 m 90 ls []) rfl ?_
      have hw : w_W G M z11 s H locs := hw
      refine lv_aload_n hx hb dX12_personLine_90 rfl (lv_at hl 5 rfl) ?_
      refine lv_iload hx hb dX12_personLine_91 (lv_at hl 0 rfl) ?_
      refine lv_iconst (v := 1) hx hb dX12_personLine_93 (by decide) ?_
      refine lv_iload_n hx hb dX12_personLine_94 rfl (lv_at hl 3 rfl) ?_
      refine W_bind fun z12 hz => ?_
      refine w_after (cells1 := 0) (slots1 := 0) (w_runV E kV_R_141 kc_X12_has (t_R_has l hfl G on v10 1 z5.1 M z11 ((fun z => (.inl none, M, z)) z12) (by rw [hz]; rfl)) ⟨Nat.le_of_ble_eq_true rfl, Nat.le_of_ble_eq_true rfl⟩ hw (w_recvR E hw on) rfl hl.1 rfl (Nat.le_of_ble_eq_true rfl) dX12_personLine_95 ⟨Nat.le_of_ble_eq_true rfl, Nat.le_of_ble_eq_true rfl⟩) hw rfl (Nat.le_of_ble_eq_true rfl) (Nat.le_of_ble_eq_true rfl) (fun H locs hw => ?_)
      refine W.eq (g2 := F0 m 98 ls []) rfl ?_
      have hw : w_W G M z12 s H locs := hw
      refine lv_aload_n hx hb dX12_personLine_98 rfl (lv_at hl 5 rfl) ?_
      refine lv_iload hx hb dX12_personLine_99 (lv_at hl 0 rfl) ?_
      refine lv_iconst (v := 2) hx hb dX12_personLine_101 (by decide) ?_
      refine lv_iload hx hb dX12_personLine_102 (lv_at hl 2 rfl) ?_
      refine W_bind fun z13 hz => ?_
      refine w_after (cells1 := 0) (slots1 := 0) (w_runV E kV_R_141 kc_X12_has (t_R_has l hfl G on v10 2 z7.1 M z12 ((fun z => (.inl none, M, z)) z13) (by rw [hz]; rfl)) ⟨Nat.le_of_ble_eq_true rfl, Nat.le_of_ble_eq_true rfl⟩ hw (w_recvR E hw on) rfl hl.1 rfl (Nat.le_of_ble_eq_true rfl) dX12_personLine_104 ⟨Nat.le_of_ble_eq_true rfl, Nat.le_of_ble_eq_true rfl⟩) hw rfl (Nat.le_of_ble_eq_true rfl) (Nat.le_of_ble_eq_true rfl) (fun H locs hw => ?_)
      refine W.eq (g2 := F0 m 107 ls []) rfl ?_
      have hw : w_W G M z13 s H locs := hw
      refine lv_aload_n hx hb dX12_personLine_107 rfl (lv_at hl 5 rfl) ?_
      refine lv_iload hx hb dX12_personLine_108 (lv_at hl 0 rfl) ?_
      refine lv_iconst (v := 3) hx hb dX12_personLine_110 (by decide) ?_
      refine lv_iload hx hb dX12_personLine_111 (lv_at hl 1 rfl) ?_
      refine W_bind fun z14 hz => ?_
      refine w_after (cells1 := 0) (slots1 := 0) (w_runV E kV_R_141 kc_X12_has (t_R_has l hfl G on v10 3 z9.1 M z13 ((fun z => (.inl none, M, z)) z14) (by rw [hz]; rfl)) ⟨Nat.le_of_ble_eq_true rfl, Nat.le_of_ble_eq_true rfl⟩ hw (w_recvR E hw on) rfl hl.1 rfl (Nat.le_of_ble_eq_true rfl) dX12_personLine_113 ⟨Nat.le_of_ble_eq_true rfl, Nat.le_of_ble_eq_true rfl⟩) hw rfl (Nat.le_of_ble_eq_true rfl) (Nat.le_of_ble_eq_true rfl) (fun H locs hw => ?_)
      refine W.eq (g2 := F0 m 116 ls []) rfl ?_
      have hw : w_W G M z14 s H locs := hw
      refine lv_aload_n hx hb dX12_personLine_116 rfl (lv_at hl 5 rfl) ?_
      refine lv_iload hx hb dX12_personLine_117 (lv_at hl 0 rfl) ?_
      refine lv_iconst (v := 4) hx hb dX12_personLine_119 (by decide) ?_
      refine lv_iconst (v := 0) hx hb dX12_personLine_120 (by decide) ?_
      refine W_bind fun z15 hz => ?_
      refine w_after (cells1 := 0) (slots1 := 0) (w_runV E kV_R_141 kc_X12_has (t_R_has l hfl G on v10 4 0 M z14 ((fun z => (.inl none, M, z)) z15) (by rw [hz]; rfl)) ⟨Nat.le_of_ble_eq_true rfl, Nat.le_of_ble_eq_true rfl⟩ hw (w_recvR E hw on) rfl hl.1 rfl (Nat.le_of_ble_eq_true rfl) dX12_personLine_121 ⟨Nat.le_of_ble_eq_true rfl, Nat.le_of_ble_eq_true rfl⟩) hw rfl (Nat.le_of_ble_eq_true rfl) (Nat.le_of_ble_eq_true rfl) (fun H locs hw => ?_)
      refine W.eq (g2 := F0 m 124 ls []) rfl ?_
      have hw : w_W G M z15 s H locs := hw
      refine lv_aload_n hx hb dX12_personLine_124 rfl (lv_at hl 5 rfl) ?_
      refine lv_iload hx hb dX12_personLine_125 (lv_at hl 0 rfl) ?_
      refine lv_iconst (v := 5) hx hb dX12_personLine_127 (by decide) ?_
      refine lv_iconst (v := 0) hx hb dX12_personLine_128 (by decide) ?_
      refine W_bind fun z16 hz => ?_
      refine w_after (cells1 := 0) (slots1 := 0) (w_runV E kV_R_141 kc_X12_has (t_R_has l hfl G on v10 5 0 M z15 ((fun z => (.inl none, M, z)) z16) (by rw [hz]; rfl)) ⟨Nat.le_of_ble_eq_true rfl, Nat.le_of_ble_eq_true rfl⟩ hw (w_recvR E hw on) rfl hl.1 rfl (Nat.le_of_ble_eq_true rfl) dX12_personLine_129 ⟨Nat.le_of_ble_eq_true rfl, Nat.le_of_ble_eq_true rfl⟩) hw rfl (Nat.le_of_ble_eq_true rfl) (Nat.le_of_ble_eq_true rfl) (fun H locs hw => ?_)
      refine W.eq (g2 := F0 m 132 ls []) rfl ?_
      have hw : w_W G M z16 s H locs := hw
      refine lv_aload_n hx hb dX12_personLine_132 rfl (lv_at hl 5 rfl) ?_
      refine lv_iload hx hb dX12_personLine_133 (lv_at hl 0 rfl) ?_
      refine lv_bipush (v := 6) hx hb dX12_personLine_135 (by decide) ?_
      refine lv_iconst (v := (-1)) hx hb dX12_personLine_137 (by decide) ?_
      refine W_bind fun z17 hz => ?_
      refine w_after (cells1 := 0) (slots1 := 0) (w_runV E kV_R_141 kc_X12_has (t_R_has l hfl G on v10 6 (-1) M z16 ((fun z => (.inl none, M, z)) z17) (by rw [hz]; rfl)) ⟨Nat.le_of_ble_eq_true rfl, Nat.le_of_ble_eq_true rfl⟩ hw (w_recvR E hw on) rfl hl.1 rfl (Nat.le_of_ble_eq_true rfl) dX12_personLine_138 ⟨Nat.le_of_ble_eq_true rfl, Nat.le_of_ble_eq_true rfl⟩) hw rfl (Nat.le_of_ble_eq_true rfl) (Nat.le_of_ble_eq_true rfl) (fun H locs hw => ?_)
      refine W.eq (g2 := F0 m 141 ls []) rfl ?_
      have hw : w_W G M z17 s H locs := hw
      refine lv_aload_n hx hb dX12_personLine_141 rfl (lv_at hl 5 rfl) ?_
      refine lv_iload hx hb dX12_personLine_142 (lv_at hl 0 rfl) ?_
      refine lv_bipush (v := 7) hx hb dX12_personLine_144 (by decide) ?_
      refine lv_iconst (v := (-1)) hx hb dX12_personLine_146 (by decide) ?_
      refine W_bind fun z18 hz => ?_
      refine w_after (cells1 := 0) (slots1 := 0) (w_runV E kV_R_141 kc_X12_has (t_R_has l hfl G on v10 7 (-1) M z17 ((fun z => (.inl none, M, z)) z18) (by rw [hz]; rfl)) ⟨Nat.le_of_ble_eq_true rfl, Nat.le_of_ble_eq_true rfl⟩ hw (w_recvR E hw on) rfl hl.1 rfl (Nat.le_of_ble_eq_true rfl) dX12_personLine_147 ⟨Nat.le_of_ble_eq_true rfl, Nat.le_of_ble_eq_true rfl⟩) hw rfl (Nat.le_of_ble_eq_true rfl) (Nat.le_of_ble_eq_true rfl) (fun H locs hw => ?_)
      refine W.eq (g2 := F0 m 150 ls []) rfl ?_
      have hw : w_W G M z18 s H locs := hw
      refine lv_iconst (v := 0) hx hb dX12_personLine_150 (by decide) ?_
      refine lv_istore (lv' := [(7, .int 0), (6, .int v10), (5, .int z9.1), (4, .int z7.1), (3, .int z5.1), (2, .int z4.1), (0, .ref (g_r G))]) hx hb dX12_personLine_151 hl (by decide) rfl (fun ls hl => ?_)
      exact w153  N v10 0 z18 _ _ _ hw (lv_sub hl [6, 1, 0] rfl)
    · exact p_vret E hw hr (Nat.le_of_ble_eq_true rfl) (Nat.le_of_ble_eq_true rfl) rfl dX12_personLine_73
  unfold f_R_personLine
  refine lv_aload_n hx hb dX12_personLine_0 rfl (lv_at hl 0 rfl) ?_
  refine rx_getA E hw on kF_R_7_11 (by decide) dX12_personLine_1 ?_
  refine lv_iconst (v := 5) hx hb dX12_personLine_4 (by decide) ?_
  refine rx_iald E hw on (by decide) dX12_personLine_5 (fun v1 => ?_)
  refine lv_bipush (v := 10) hx hb dX12_personLine_6 (by decide) ?_
  refine cx_icmp_ne (tgt := 16) E dX12_personLine_8 (by decide) (fun _ => ?_) (fun _ => ?_)
  · exact w16  r _ _ _ hw (lv_sub hl [0] rfl)
  · refine lv_aload_n hx hb dX12_personLine_11 rfl (lv_at hl 0 rfl) ?_
    refine lv_iload_n hx hb dX12_personLine_12 rfl (lv_at hl 1 rfl) ?_
    refine W_bind fun z2 hz => ?_
    refine w_after (cells1 := 0) (slots1 := 0) (w_runV E kV_R_105 kc_X12_wrong (t_R_wrong l hfl G on a0 M r ((fun z => (.inl none, M, z)) z2) (by rw [hz]; rfl)) ⟨Nat.le_of_ble_eq_true rfl, Nat.le_of_ble_eq_true rfl⟩ hw (w_recvR E hw on) rfl hl.1 rfl (Nat.le_of_ble_eq_true rfl) dX12_personLine_13 ⟨Nat.le_of_ble_eq_true rfl, Nat.le_of_ble_eq_true rfl⟩) hw rfl (Nat.le_of_ble_eq_true rfl) (Nat.le_of_ble_eq_true rfl) (fun H locs hw => ?_)
    refine W.eq (g2 := F0 m 16 ls []) rfl ?_
    have hw : w_W G M z2 s H locs := hw
    exact w16  z2 _ _ _ hw (lv_sub hl [0] rfl)
def f_R_who (a0 : Int32) (r : Rho) : Option (Int32) :=
  (rld r 1 (372 + (2 * a0))).bind fun v1 => some v1
abbrev rm_R_who : Room := { frames := 0, cells := 0, slots := 0, locals := 0 }
set_option maxHeartbeats 4000000 in
set_option maxRecDepth 100000 in
theorem t_R_who (l : Launch) (hfl : l.stackTraces = false) (G : wG) (on : g_on G = true) (a0 : Int32) (M : Mem) (r : Rho) : Ctr l yX12_who (wWs yX12_who cX12_who 2 (some .int)) rm_R_who rm_R_who.cells rm_R_who.slots G [.ref (g_r G), .int a0] M r ((f_R_who a0 r).map (fun z => (.inl (some (.int z)), M, r))) := by
  refine Ctr.ofF (own := "CheekTownModel") (by decide +kernel) hfl rfl (Nat.le_of_ble_eq_true rfl) (fun p e s m args below meth c E hno hr hnm hw ls hl => ?_)
  obtain ⟨hx, hb, hts, hown, hml, hTT, -⟩ := id E
  have hl : lv_has ls 2 [(0, .ref (g_r G)), (1, .int a0)] := hl
  obtain ⟨H, hH⟩ : ∃ H, H = s.heap := ⟨_, rfl⟩
  obtain ⟨locs, hlo⟩ : ∃ L : List Loc, L = [] := ⟨_, rfl⟩
  rw [← hH, ← hlo]
  rw [← hlo] at hw
  replace hw : w_W G M r s H locs := by rw [hH]; exact hw
  unfold f_R_who
  refine lv_aload_n hx hb dX12_who_0 rfl (lv_at hl 0 rfl) ?_
  refine rx_getA E hw on kF_R_7_11 (by decide) dX12_who_1 ?_
  refine lv_sipush (v := 372) hx hb dX12_who_4 (by decide) ?_
  refine lv_iconst (v := 2) hx hb dX12_who_7 (by decide) ?_
  refine lv_iload_n hx hb dX12_who_8 rfl (lv_at hl 1 rfl) ?_
  refine lv_imul hx hb dX12_who_9 ?_
  refine lv_iadd hx hb dX12_who_10 ?_
  refine rx_iald E hw on (by decide) dX12_who_11 (fun v1 => ?_)
  exact p_iret E hw hr (Nat.le_of_ble_eq_true rfl) (Nat.le_of_ble_eq_true rfl) rfl dX12_who_12
def f_R_whom (a0 : Int32) (r : Rho) : Option (Int32) :=
  (rld r 1 ((372 + (2 * a0)) + 1)).bind fun v1 => some v1
abbrev rm_R_whom : Room := { frames := 0, cells := 0, slots := 0, locals := 0 }
set_option maxHeartbeats 4000000 in
set_option maxRecDepth 100000 in
theorem t_R_whom (l : Launch) (hfl : l.stackTraces = false) (G : wG) (on : g_on G = true) (a0 : Int32) (M : Mem) (r : Rho) : Ctr l yX12_whom (wWs yX12_whom cX12_whom 2 (some .int)) rm_R_whom rm_R_whom.cells rm_R_whom.slots G [.ref (g_r G), .int a0] M r ((f_R_whom a0 r).map (fun z => (.inl (some (.int z)), M, r))) := by
  refine Ctr.ofF (own := "CheekTownModel") (by decide +kernel) hfl rfl (Nat.le_of_ble_eq_true rfl) (fun p e s m args below meth c E hno hr hnm hw ls hl => ?_)
  obtain ⟨hx, hb, hts, hown, hml, hTT, -⟩ := id E
  have hl : lv_has ls 2 [(0, .ref (g_r G)), (1, .int a0)] := hl
  obtain ⟨H, hH⟩ : ∃ H, H = s.heap := ⟨_, rfl⟩
  obtain ⟨locs, hlo⟩ : ∃ L : List Loc, L = [] := ⟨_, rfl⟩
  rw [← hH, ← hlo]
  rw [← hlo] at hw
  replace hw : w_W G M r s H locs := by rw [hH]; exact hw
  unfold f_R_whom
  refine lv_aload_n hx hb dX12_whom_0 rfl (lv_at hl 0 rfl) ?_
  refine rx_getA E hw on kF_R_7_11 (by decide) dX12_whom_1 ?_
  refine lv_sipush (v := 372) hx hb dX12_whom_4 (by decide) ?_
  refine lv_iconst (v := 2) hx hb dX12_whom_7 (by decide) ?_
  refine lv_iload_n hx hb dX12_whom_8 rfl (lv_at hl 1 rfl) ?_
  refine lv_imul hx hb dX12_whom_9 ?_
  refine lv_iadd hx hb dX12_whom_10 ?_
  refine lv_iconst (v := 1) hx hb dX12_whom_11 (by decide) ?_
  refine lv_iadd hx hb dX12_whom_12 ?_
  refine rx_iald E hw on (by decide) dX12_whom_13 (fun v1 => ?_)
  exact p_iret E hw hr (Nat.le_of_ble_eq_true rfl) (Nat.le_of_ble_eq_true rfl) rfl dX12_whom_14
def f_R_areTied_31 (N : Nat) (a0 : Int32) (a1 : Int32) (r : Rho) (k2 : Int32 → Option (Int32)) (x3 : Int32) : Option (Int32) :=
  (f_R_who x3 r).bind fun z4 => if z4 = a1 then ((f_R_whom x3 r).bind fun z5 => if z5 = a0 then (some 1) else (k2 (x3 + 1))) else (k2 (x3 + 1))
def f_R_areTied_2 (N : Nat) (a0 : Int32) (a1 : Int32) (r : Rho) : Nat → Int32 → Option (Int32)
  | 0, _ => none
  | n + 1, x3 => (rld r 1 6).bind fun v1 => if v1 ≤ x3 then (some 0) else ((f_R_who x3 r).bind fun z2 => if z2 = a0 then ((f_R_whom x3 r).bind fun z3 => if z3 = a1 then (some 1) else (f_R_areTied_31 N a0 a1 r (f_R_areTied_2 N a0 a1 r n) x3)) else (f_R_areTied_31 N a0 a1 r (f_R_areTied_2 N a0 a1 r n) x3))
def f_R_areTied (N : Nat) (a0 : Int32) (a1 : Int32) (r : Rho) : Option (Int32) :=
  f_R_areTied_2 N a0 a1 r N 0
abbrev rm_R_areTied : Room := { frames := 1, cells := 0, slots := 0, locals := 21 }
set_option maxHeartbeats 4000000 in
set_option maxRecDepth 100000 in
theorem t_R_areTied (l : Launch) (hfl : l.stackTraces = false) (G : wG) (on : g_on G = true) (N : Nat) (a0 : Int32) (a1 : Int32) (M : Mem) (r : Rho) : Ctr l yX12_areTied (wWs yX12_areTied cX12_areTied 4 (some .boolean)) rm_R_areTied rm_R_areTied.cells rm_R_areTied.slots G [.ref (g_r G), .int a0, .int a1] M r ((f_R_areTied N a0 a1 r).map (fun z => (.inl (some (.int z)), M, r))) := by
  refine Ctr.ofF (own := "CheekTownModel") (by decide +kernel) hfl rfl (Nat.le_of_ble_eq_true rfl) (fun p e s m args below meth c E hno hr hnm hw ls hl => ?_)
  obtain ⟨hx, hb, hts, hown, hml, hTT, -⟩ := id E
  have hl : lv_has ls 4 [(0, .ref (g_r G)), (1, .int a0), (2, .int a1)] := hl
  obtain ⟨H, hH⟩ : ∃ H, H = s.heap := ⟨_, rfl⟩
  obtain ⟨locs, hlo⟩ : ∃ L : List Loc, L = [] := ⟨_, rfl⟩
  rw [← hH, ← hlo]
  rw [← hlo] at hw
  replace hw : w_W G M r s H locs := by rw [hH]; exact hw
  have w31 : ∀ (k2 : Int32 → Option (Int32)) (hk2 : ∀ (x3 : Int32) (H : Heap) (locs : List Loc) (ls : Array Slot), w_W G M r s H locs → lv_has ls 4 [(0, .ref (g_r G)), (1, .int a0), (2, .int a1), (3, .int x3)] → W p l e rm_R_areTied s m args below meth c H locs 0 0 (PQ G below args s rm_R_areTied.cells rm_R_areTied.slots (fun z => (.inl (some (.int z)), M, r)) (k2 x3)) (F0 m 2 ls [])) (x3 : Int32) (H : Heap) (locs : List Loc) (ls : Array Slot), w_W G M r s H locs → lv_has ls 4 [(0, .ref (g_r G)), (1, .int a0), (2, .int a1), (3, .int x3)] → W p l e rm_R_areTied s m args below meth c H locs 0 0 (PQ G below args s rm_R_areTied.cells rm_R_areTied.slots (fun z => (.inl (some (.int z)), M, r)) (f_R_areTied_31 N a0 a1 r k2 x3)) (F0 m 31 ls []) := by
    intro k2 hk2 x3 H locs ls hw hl
    unfold f_R_areTied_31
    refine lv_aload_n hx hb dX12_areTied_31 rfl (lv_at hl 0 rfl) ?_
    refine lv_iload_n hx hb dX12_areTied_32 rfl (lv_at hl 3 rfl) ?_
    refine W_bind fun z4 hz => ?_
    refine w_after (cells1 := 0) (slots1 := 0) (w_runV E kV_R_63 kc_X12_who (t_R_who l hfl G on x3 M r ((fun z => (.inl (some (.int z)), M, r)) z4) (by rw [hz]; rfl)) ⟨Nat.le_of_ble_eq_true rfl, Nat.le_of_ble_eq_true rfl⟩ hw (w_recvR E hw on) rfl hl.1 rfl (Nat.le_of_ble_eq_true rfl) dX12_areTied_33 ⟨Nat.le_of_ble_eq_true rfl, Nat.le_of_ble_eq_true rfl⟩) hw rfl (Nat.le_of_ble_eq_true rfl) (Nat.le_of_ble_eq_true rfl) (fun H locs hw => ?_)
    refine W.eq (g2 := F0 m 36 ls [.int z4]) rfl ?_
    have hw : w_W G M r s H locs := hw
    refine lv_iload_n hx hb dX12_areTied_36 rfl (lv_at hl 2 rfl) ?_
    refine cx_icmp_ne (tgt := 51) E dX12_areTied_37 (by decide) (fun _ => ?_) (fun _ => ?_)
    · refine lv_iinc (v := x3 + 1) (lv' := [(3, .int (x3 + 1)), (0, .ref (g_r G)), (1, .int a0), (2, .int a1)]) hx hb dX12_areTied_51 hl (k := 3) rfl rfl (by decide) rfl (fun ls hl => ?_)
      refine lv_goto (tgt := 2) hx hb dX12_areTied_54 (by decide) ?_
      exact hk2 (x3 + 1) _ _ _ hw (lv_sub hl [1, 2, 3, 0] rfl)
    · refine lv_aload_n hx hb dX12_areTied_40 rfl (lv_at hl 0 rfl) ?_
      refine lv_iload_n hx hb dX12_areTied_41 rfl (lv_at hl 3 rfl) ?_
      refine W_bind fun z5 hz => ?_
      refine w_after (cells1 := 0) (slots1 := 0) (w_runV E kV_R_67 kc_X12_whom (t_R_whom l hfl G on x3 M r ((fun z => (.inl (some (.int z)), M, r)) z5) (by rw [hz]; rfl)) ⟨Nat.le_of_ble_eq_true rfl, Nat.le_of_ble_eq_true rfl⟩ hw (w_recvR E hw on) rfl hl.1 rfl (Nat.le_of_ble_eq_true rfl) dX12_areTied_42 ⟨Nat.le_of_ble_eq_true rfl, Nat.le_of_ble_eq_true rfl⟩) hw rfl (Nat.le_of_ble_eq_true rfl) (Nat.le_of_ble_eq_true rfl) (fun H locs hw => ?_)
      refine W.eq (g2 := F0 m 45 ls [.int z5]) rfl ?_
      have hw : w_W G M r s H locs := hw
      refine lv_iload_n hx hb dX12_areTied_45 rfl (lv_at hl 1 rfl) ?_
      refine cx_icmp_ne (tgt := 51) E dX12_areTied_46 (by decide) (fun _ => ?_) (fun _ => ?_)
      · refine lv_iinc (v := x3 + 1) (lv' := [(3, .int (x3 + 1)), (0, .ref (g_r G)), (1, .int a0), (2, .int a1)]) hx hb dX12_areTied_51 hl (k := 3) rfl rfl (by decide) rfl (fun ls hl => ?_)
        refine lv_goto (tgt := 2) hx hb dX12_areTied_54 (by decide) ?_
        exact hk2 (x3 + 1) _ _ _ hw (lv_sub hl [1, 2, 3, 0] rfl)
      · refine lv_iconst (v := 1) hx hb dX12_areTied_49 (by decide) ?_
        exact p_zret E hw hr (by decide) (Nat.le_of_ble_eq_true rfl) (Nat.le_of_ble_eq_true rfl) rfl dX12_areTied_50
  have w2 : ∀ (n : Nat) (x3 : Int32) (H : Heap) (locs : List Loc) (ls : Array Slot), w_W G M r s H locs → lv_has ls 4 [(0, .ref (g_r G)), (1, .int a0), (2, .int a1), (3, .int x3)] → W p l e rm_R_areTied s m args below meth c H locs 0 0 (PQ G below args s rm_R_areTied.cells rm_R_areTied.slots (fun z => (.inl (some (.int z)), M, r)) (f_R_areTied_2 N a0 a1 r n x3)) (F0 m 2 ls []) := by
    intro n
    induction n with
    | zero => intros; exact W_none
    | succ n ih =>
      intro x3 H locs ls hw hl
      rw [f_R_areTied_2]
      refine lv_iload_n hx hb dX12_areTied_2 rfl (lv_at hl 3 rfl) ?_
      refine lv_aload_n hx hb dX12_areTied_3 rfl (lv_at hl 0 rfl) ?_
      refine rx_getA E hw on kF_R_7_11 (by decide) dX12_areTied_4 ?_
      refine lv_bipush (v := 6) hx hb dX12_areTied_7 (by decide) ?_
      refine rx_iald E hw on (by decide) dX12_areTied_9 (fun v1 => ?_)
      refine cx_icmp_ge (tgt := 57) E dX12_areTied_10 (by decide) (fun _ => ?_) (fun _ => ?_)
      · refine lv_iconst (v := 0) hx hb dX12_areTied_57 (by decide) ?_
        exact p_zret E hw hr (by decide) (Nat.le_of_ble_eq_true rfl) (Nat.le_of_ble_eq_true rfl) rfl dX12_areTied_58
      · refine lv_aload_n hx hb dX12_areTied_13 rfl (lv_at hl 0 rfl) ?_
        refine lv_iload_n hx hb dX12_areTied_14 rfl (lv_at hl 3 rfl) ?_
        refine W_bind fun z2 hz => ?_
        refine w_after (cells1 := 0) (slots1 := 0) (w_runV E kV_R_63 kc_X12_who (t_R_who l hfl G on x3 M r ((fun z => (.inl (some (.int z)), M, r)) z2) (by rw [hz]; rfl)) ⟨Nat.le_of_ble_eq_true rfl, Nat.le_of_ble_eq_true rfl⟩ hw (w_recvR E hw on) rfl hl.1 rfl (Nat.le_of_ble_eq_true rfl) dX12_areTied_15 ⟨Nat.le_of_ble_eq_true rfl, Nat.le_of_ble_eq_true rfl⟩) hw rfl (Nat.le_of_ble_eq_true rfl) (Nat.le_of_ble_eq_true rfl) (fun H locs hw => ?_)
        refine W.eq (g2 := F0 m 18 ls [.int z2]) rfl ?_
        have hw : w_W G M r s H locs := hw
        refine lv_iload_n hx hb dX12_areTied_18 rfl (lv_at hl 1 rfl) ?_
        refine cx_icmp_ne (tgt := 31) E dX12_areTied_19 (by decide) (fun _ => ?_) (fun _ => ?_)
        · exact w31 (f_R_areTied_2 N a0 a1 r n) ih x3 _ _ _ hw (lv_sub hl [0, 1, 2, 3] rfl)
        · refine lv_aload_n hx hb dX12_areTied_22 rfl (lv_at hl 0 rfl) ?_
          refine lv_iload_n hx hb dX12_areTied_23 rfl (lv_at hl 3 rfl) ?_
          refine W_bind fun z3 hz => ?_
          refine w_after (cells1 := 0) (slots1 := 0) (w_runV E kV_R_67 kc_X12_whom (t_R_whom l hfl G on x3 M r ((fun z => (.inl (some (.int z)), M, r)) z3) (by rw [hz]; rfl)) ⟨Nat.le_of_ble_eq_true rfl, Nat.le_of_ble_eq_true rfl⟩ hw (w_recvR E hw on) rfl hl.1 rfl (Nat.le_of_ble_eq_true rfl) dX12_areTied_24 ⟨Nat.le_of_ble_eq_true rfl, Nat.le_of_ble_eq_true rfl⟩) hw rfl (Nat.le_of_ble_eq_true rfl) (Nat.le_of_ble_eq_true rfl) (fun H locs hw => ?_)
          refine W.eq (g2 := F0 m 27 ls [.int z3]) rfl ?_
          have hw : w_W G M r s H locs := hw
          refine lv_iload_n hx hb dX12_areTied_27 rfl (lv_at hl 2 rfl) ?_
          refine cx_icmp_eq (tgt := 49) E dX12_areTied_28 (by decide) (fun _ => ?_) (fun _ => ?_)
          · refine lv_iconst (v := 1) hx hb dX12_areTied_49 (by decide) ?_
            exact p_zret E hw hr (by decide) (Nat.le_of_ble_eq_true rfl) (Nat.le_of_ble_eq_true rfl) rfl dX12_areTied_50
          · exact w31 (f_R_areTied_2 N a0 a1 r n) ih x3 _ _ _ hw (lv_sub hl [0, 1, 2, 3] rfl)
  unfold f_R_areTied
  refine lv_iconst (v := 0) hx hb dX12_areTied_0 (by decide) ?_
  refine lv_istore_n (lv' := [(3, .int 0), (0, .ref (g_r G)), (1, .int a0), (2, .int a1)]) hx hb dX12_areTied_1 rfl hl (by decide) rfl (fun ls hl => ?_)
  exact w2  N 0 _ _ _ hw (lv_sub hl [1, 2, 3, 0] rfl)
def f_R_binds (a0 : Int32) (a1 : Int32) (r : Rho) : Option (Rho) :=
  (rld r 1 6).bind fun v1 => (rst r 1 (372 + (2 * v1)) a0).bind fun r2 => (rld r2 1 6).bind fun v3 => (rst r2 1 ((372 + (2 * v3)) + 1) a1).bind fun r4 => (rld r4 1 6).bind fun v5 => (rst r4 1 6 (v5 + 1)).bind fun r6 => some r6
abbrev rm_R_binds : Room := { frames := 0, cells := 0, slots := 0, locals := 0 }
set_option maxHeartbeats 4000000 in
set_option maxRecDepth 100000 in
theorem t_R_binds (l : Launch) (hfl : l.stackTraces = false) (G : wG) (on : g_on G = true) (a0 : Int32) (a1 : Int32) (M : Mem) (r : Rho) : Ctr l yX12_binds (wWs yX12_binds cX12_binds 3 none) rm_R_binds rm_R_binds.cells rm_R_binds.slots G [.ref (g_r G), .int a0, .int a1] M r ((f_R_binds a0 a1 r).map (fun z => (.inl none, M, z))) := by
  refine Ctr.ofF (own := "CheekTownModel") (by decide +kernel) hfl rfl (Nat.le_of_ble_eq_true rfl) (fun p e s m args below meth c E hno hr hnm hw ls hl => ?_)
  obtain ⟨hx, hb, hts, hown, hml, hTT, -⟩ := id E
  have hl : lv_has ls 3 [(0, .ref (g_r G)), (1, .int a0), (2, .int a1)] := hl
  obtain ⟨H, hH⟩ : ∃ H, H = s.heap := ⟨_, rfl⟩
  obtain ⟨locs, hlo⟩ : ∃ L : List Loc, L = [] := ⟨_, rfl⟩
  rw [← hH, ← hlo]
  rw [← hlo] at hw
  replace hw : w_W G M r s H locs := by rw [hH]; exact hw
  unfold f_R_binds
  refine lv_aload_n hx hb dX12_binds_0 rfl (lv_at hl 0 rfl) ?_
  refine rx_getA E hw on kF_R_7_11 (by decide) dX12_binds_1 ?_
  refine lv_sipush (v := 372) hx hb dX12_binds_4 (by decide) ?_
  refine lv_iconst (v := 2) hx hb dX12_binds_7 (by decide) ?_
  refine lv_aload_n hx hb dX12_binds_8 rfl (lv_at hl 0 rfl) ?_
  refine rx_getA E hw on kF_R_7_11 (by decide) dX12_binds_9 ?_
  refine lv_bipush (v := 6) hx hb dX12_binds_12 (by decide) ?_
  refine rx_iald E hw on (by decide) dX12_binds_14 (fun v1 => ?_)
  refine lv_imul hx hb dX12_binds_15 ?_
  refine lv_iadd hx hb dX12_binds_16 ?_
  refine lv_iload_n hx hb dX12_binds_17 rfl (lv_at hl 1 rfl) ?_
  refine rx_iast E hw on (by decide) dX12_binds_18 (fun r2 H locs hw => ?_)
  refine lv_aload_n hx hb dX12_binds_19 rfl (lv_at hl 0 rfl) ?_
  refine rx_getA E hw on kF_R_7_11 (by decide) dX12_binds_20 ?_
  refine lv_sipush (v := 372) hx hb dX12_binds_23 (by decide) ?_
  refine lv_iconst (v := 2) hx hb dX12_binds_26 (by decide) ?_
  refine lv_aload_n hx hb dX12_binds_27 rfl (lv_at hl 0 rfl) ?_
  refine rx_getA E hw on kF_R_7_11 (by decide) dX12_binds_28 ?_
  refine lv_bipush (v := 6) hx hb dX12_binds_31 (by decide) ?_
  refine rx_iald E hw on (by decide) dX12_binds_33 (fun v3 => ?_)
  refine lv_imul hx hb dX12_binds_34 ?_
  refine lv_iadd hx hb dX12_binds_35 ?_
  refine lv_iconst (v := 1) hx hb dX12_binds_36 (by decide) ?_
  refine lv_iadd hx hb dX12_binds_37 ?_
  refine lv_iload_n hx hb dX12_binds_38 rfl (lv_at hl 2 rfl) ?_
  refine rx_iast E hw on (by decide) dX12_binds_39 (fun r4 H locs hw => ?_)
  refine lv_aload_n hx hb dX12_binds_40 rfl (lv_at hl 0 rfl) ?_
  refine rx_getA E hw on kF_R_7_11 (by decide) dX12_binds_41 ?_
  refine lv_bipush (v := 6) hx hb dX12_binds_44 (by decide) ?_
  refine lv_dup2_11 hx hb dX12_binds_46 rfl rfl ?_
  refine rx_iald E hw on (by decide) dX12_binds_47 (fun v5 => ?_)
  refine lv_iconst (v := 1) hx hb dX12_binds_48 (by decide) ?_
  refine lv_iadd hx hb dX12_binds_49 ?_
  refine rx_iast E hw on (by decide) dX12_binds_50 (fun r6 H locs hw => ?_)
  exact p_vret E hw hr (Nat.le_of_ble_eq_true rfl) (Nat.le_of_ble_eq_true rfl) rfl dX12_binds_51
def f_R_tieLine_80 (N : Nat) (a0 : Int32) (x2 : Int32) (x4 : Int32) (r : Rho) : Option (Rho) :=
  if (r.1 12) = (-1) then ((f_R_binds x2 x4 r).bind fun z9 => some z9) else (some r)
def f_R_tieLine_75 (N : Nat) (a0 : Int32) (x2 : Int32) (x3 : Int32) (x4 : Int32) (r : Rho) : Option (Rho) :=
  (f_R_wrong x3 r).bind fun z10 => f_R_tieLine_80 N a0 x2 x4 z10
def f_R_tieLine_17 (N : Nat) (a0 : Int32) (r : Rho) : Option (Rho) :=
  (rld r 1 5).bind fun v3 => (f_R_figures N 0 (v3 - 1) r).bind fun z4 => (f_R_place N z4.2).bind fun z5 => (rld z5.2 1 5).bind fun v6 => (f_R_figures N 0 (v6 - 1) z5.2).bind fun z7 => if (z7.2.1 12) = (-1) then (if z4.1 = z7.1 then (f_R_tieLine_75 N a0 z4.1 z5.1 z7.1 z7.2) else ((f_R_areTied N z4.1 z7.1 z7.2).bind fun z8 => if z8 = 0 then (f_R_tieLine_80 N a0 z4.1 z7.1 z7.2) else (f_R_tieLine_75 N a0 z4.1 z5.1 z7.1 z7.2))) else (f_R_tieLine_80 N a0 z4.1 z7.1 z7.2)
def f_R_tieLine (N : Nat) (a0 : Int32) (r : Rho) : Option (Rho) :=
  (rld r 1 6).bind fun v1 => if v1 = 24 then ((f_R_wrong a0 r).bind fun z2 => f_R_tieLine_17 N a0 z2) else (f_R_tieLine_17 N a0 r)
abbrev rm_R_tieLine : Room := { frames := 4, cells := 0, slots := 0, locals := 85 }
set_option maxHeartbeats 4000000 in
set_option maxRecDepth 100000 in
theorem t_R_tieLine (l : Launch) (hfl : l.stackTraces = false) (G : wG) (on : g_on G = true) (N : Nat) (a0 : Int32) (M : Mem) (r : Rho) : Ctr l yX12_tieLine (wWs yX12_tieLine cX12_tieLine 5 none) rm_R_tieLine rm_R_tieLine.cells rm_R_tieLine.slots G [.ref (g_r G), .int a0] M r ((f_R_tieLine N a0 r).map (fun z => (.inl none, M, z))) := by
  refine Ctr.ofF (own := "CheekTownModel") (by decide +kernel) hfl rfl (Nat.le_of_ble_eq_true rfl) (fun p e s m args below meth c E hno hr hnm hw ls hl => ?_)
  obtain ⟨hx, hb, hts, hown, hml, hTT, -⟩ := id E
  have hl : lv_has ls 5 [(0, .ref (g_r G)), (1, .int a0)] := hl
  obtain ⟨H, hH⟩ : ∃ H, H = s.heap := ⟨_, rfl⟩
  obtain ⟨locs, hlo⟩ : ∃ L : List Loc, L = [] := ⟨_, rfl⟩
  rw [← hH, ← hlo]
  rw [← hlo] at hw
  replace hw : w_W G M r s H locs := by rw [hH]; exact hw
  have w80 : ∀ (x2 : Int32) (x4 : Int32) (r : Rho) (H : Heap) (locs : List Loc) (ls : Array Slot), w_W G M r s H locs → lv_has ls 5 [(0, .ref (g_r G)), (2, .int x2), (4, .int x4)] → W p l e rm_R_tieLine s m args below meth c H locs 0 0 (PQ G below args s rm_R_tieLine.cells rm_R_tieLine.slots (fun z => (.inl none, M, z)) (f_R_tieLine_80 N a0 x2 x4 r)) (F0 m 80 ls []) := by
    intro x2 x4 r H locs ls hw hl
    unfold f_R_tieLine_80
    refine lv_aload_n hx hb dX12_tieLine_80 rfl (lv_at hl 0 rfl) ?_
    refine rx_getI E hw on kF_R_25_11 (by decide) dX12_tieLine_81 ?_
    refine lv_iconst (v := (-1)) hx hb dX12_tieLine_84 (by decide) ?_
    refine cx_icmp_ne (tgt := 95) E dX12_tieLine_85 (by decide) (fun _ => ?_) (fun _ => ?_)
    · exact p_vret E hw hr (Nat.le_of_ble_eq_true rfl) (Nat.le_of_ble_eq_true rfl) rfl dX12_tieLine_95
    · refine lv_aload_n hx hb dX12_tieLine_88 rfl (lv_at hl 0 rfl) ?_
      refine lv_iload_n hx hb dX12_tieLine_89 rfl (lv_at hl 1 rfl) ?_
      refine lv_iload hx hb dX12_tieLine_90 (lv_at hl 2 rfl) ?_
      refine W_bind fun z9 hz => ?_
      refine w_after (cells1 := 0) (slots1 := 0) (w_runV E kV_R_152 kc_X12_binds (t_R_binds l hfl G on x2 x4 M r ((fun z => (.inl none, M, z)) z9) (by rw [hz]; rfl)) ⟨Nat.le_of_ble_eq_true rfl, Nat.le_of_ble_eq_true rfl⟩ hw (w_recvR E hw on) rfl hl.1 rfl (Nat.le_of_ble_eq_true rfl) dX12_tieLine_92 ⟨Nat.le_of_ble_eq_true rfl, Nat.le_of_ble_eq_true rfl⟩) hw rfl (Nat.le_of_ble_eq_true rfl) (Nat.le_of_ble_eq_true rfl) (fun H locs hw => ?_)
      refine W.eq (g2 := F0 m 95 ls []) rfl ?_
      have hw : w_W G M z9 s H locs := hw
      exact p_vret E hw hr (Nat.le_of_ble_eq_true rfl) (Nat.le_of_ble_eq_true rfl) rfl dX12_tieLine_95
  have w75 : ∀ (x2 : Int32) (x3 : Int32) (x4 : Int32) (r : Rho) (H : Heap) (locs : List Loc) (ls : Array Slot), w_W G M r s H locs → lv_has ls 5 [(0, .ref (g_r G)), (2, .int x2), (3, .int x3), (4, .int x4)] → W p l e rm_R_tieLine s m args below meth c H locs 0 0 (PQ G below args s rm_R_tieLine.cells rm_R_tieLine.slots (fun z => (.inl none, M, z)) (f_R_tieLine_75 N a0 x2 x3 x4 r)) (F0 m 75 ls []) := by
    intro x2 x3 x4 r H locs ls hw hl
    unfold f_R_tieLine_75
    refine lv_aload_n hx hb dX12_tieLine_75 rfl (lv_at hl 0 rfl) ?_
    refine lv_iload_n hx hb dX12_tieLine_76 rfl (lv_at hl 2 rfl) ?_
    refine W_bind fun z10 hz => ?_
    refine w_after (cells1 := 0) (slots1 := 0) (w_runV E kV_R_105 kc_X12_wrong (t_R_wrong l hfl G on x3 M r ((fun z => (.inl none, M, z)) z10) (by rw [hz]; rfl)) ⟨Nat.le_of_ble_eq_true rfl, Nat.le_of_ble_eq_true rfl⟩ hw (w_recvR E hw on) rfl hl.1 rfl (Nat.le_of_ble_eq_true rfl) dX12_tieLine_77 ⟨Nat.le_of_ble_eq_true rfl, Nat.le_of_ble_eq_true rfl⟩) hw rfl (Nat.le_of_ble_eq_true rfl) (Nat.le_of_ble_eq_true rfl) (fun H locs hw => ?_)
    refine W.eq (g2 := F0 m 80 ls []) rfl ?_
    have hw : w_W G M z10 s H locs := hw
    exact w80  x2 x4 z10 _ _ _ hw (lv_sub hl [0, 1, 3] rfl)
  have w17 : ∀ (r : Rho) (H : Heap) (locs : List Loc) (ls : Array Slot), w_W G M r s H locs → lv_has ls 5 [(0, .ref (g_r G))] → W p l e rm_R_tieLine s m args below meth c H locs 0 0 (PQ G below args s rm_R_tieLine.cells rm_R_tieLine.slots (fun z => (.inl none, M, z)) (f_R_tieLine_17 N a0 r)) (F0 m 17 ls []) := by
    intro r H locs ls hw hl
    unfold f_R_tieLine_17
    refine lv_aload_n hx hb dX12_tieLine_17 rfl (lv_at hl 0 rfl) ?_
    refine lv_iconst (v := 0) hx hb dX12_tieLine_18 (by decide) ?_
    refine lv_aload_n hx hb dX12_tieLine_19 rfl (lv_at hl 0 rfl) ?_
    refine rx_getA E hw on kF_R_7_11 (by decide) dX12_tieLine_20 ?_
    refine lv_iconst (v := 5) hx hb dX12_tieLine_23 (by decide) ?_
    refine rx_iald E hw on (by decide) dX12_tieLine_24 (fun v3 => ?_)
    refine lv_iconst (v := 1) hx hb dX12_tieLine_25 (by decide) ?_
    refine lv_isub hx hb dX12_tieLine_26 ?_
    refine W_bind fun z4 hz => ?_
    refine w_after (cells1 := 0) (slots1 := 0) (w_runV E kV_R_124 kc_X12_figures (t_R_figures l hfl G on N 0 (v3 - 1) M r ((fun z => (.inl (some (.int z.1)), M, z.2)) z4) (by rw [hz]; rfl)) ⟨Nat.le_of_ble_eq_true rfl, Nat.le_of_ble_eq_true rfl⟩ hw (w_recvR E hw on) rfl hl.1 rfl (Nat.le_of_ble_eq_true rfl) dX12_tieLine_27 ⟨Nat.le_of_ble_eq_true rfl, Nat.le_of_ble_eq_true rfl⟩) hw rfl (Nat.le_of_ble_eq_true rfl) (Nat.le_of_ble_eq_true rfl) (fun H locs hw => ?_)
    refine W.eq (g2 := F0 m 30 ls [.int z4.1]) rfl ?_
    have hw : w_W G M z4.2 s H locs := hw
    refine lv_istore_n (lv' := [(2, .int z4.1), (0, .ref (g_r G))]) hx hb dX12_tieLine_30 rfl hl (by decide) rfl (fun ls hl => ?_)
    refine lv_aload_n hx hb dX12_tieLine_31 rfl (lv_at hl 1 rfl) ?_
    refine W_bind fun z5 hz => ?_
    refine w_after (cells1 := 0) (slots1 := 0) (w_runV E kV_R_109 kc_X12_place (t_R_place l hfl G on N M z4.2 ((fun z => (.inl (some (.int z.1)), M, z.2)) z5) (by rw [hz]; rfl)) ⟨Nat.le_of_ble_eq_true rfl, Nat.le_of_ble_eq_true rfl⟩ hw (w_recvR E hw on) rfl hl.1 rfl (Nat.le_of_ble_eq_true rfl) dX12_tieLine_32 ⟨Nat.le_of_ble_eq_true rfl, Nat.le_of_ble_eq_true rfl⟩) hw rfl (Nat.le_of_ble_eq_true rfl) (Nat.le_of_ble_eq_true rfl) (fun H locs hw => ?_)
    refine W.eq (g2 := F0 m 35 ls [.int z5.1]) rfl ?_
    have hw : w_W G M z5.2 s H locs := hw
    refine lv_istore_n (lv' := [(3, .int z5.1), (2, .int z4.1), (0, .ref (g_r G))]) hx hb dX12_tieLine_35 rfl hl (by decide) rfl (fun ls hl => ?_)
    refine lv_aload_n hx hb dX12_tieLine_36 rfl (lv_at hl 2 rfl) ?_
    refine lv_iconst (v := 0) hx hb dX12_tieLine_37 (by decide) ?_
    refine lv_aload_n hx hb dX12_tieLine_38 rfl (lv_at hl 2 rfl) ?_
    refine rx_getA E hw on kF_R_7_11 (by decide) dX12_tieLine_39 ?_
    refine lv_iconst (v := 5) hx hb dX12_tieLine_42 (by decide) ?_
    refine rx_iald E hw on (by decide) dX12_tieLine_43 (fun v6 => ?_)
    refine lv_iconst (v := 1) hx hb dX12_tieLine_44 (by decide) ?_
    refine lv_isub hx hb dX12_tieLine_45 ?_
    refine W_bind fun z7 hz => ?_
    refine w_after (cells1 := 0) (slots1 := 0) (w_runV E kV_R_124 kc_X12_figures (t_R_figures l hfl G on N 0 (v6 - 1) M z5.2 ((fun z => (.inl (some (.int z.1)), M, z.2)) z7) (by rw [hz]; rfl)) ⟨Nat.le_of_ble_eq_true rfl, Nat.le_of_ble_eq_true rfl⟩ hw (w_recvR E hw on) rfl hl.1 rfl (Nat.le_of_ble_eq_true rfl) dX12_tieLine_46 ⟨Nat.le_of_ble_eq_true rfl, Nat.le_of_ble_eq_true rfl⟩) hw rfl (Nat.le_of_ble_eq_true rfl) (Nat.le_of_ble_eq_true rfl) (fun H locs hw => ?_)
    refine W.eq (g2 := F0 m 49 ls [.int z7.1]) rfl ?_
    have hw : w_W G M z7.2 s H locs := hw
    refine lv_istore (lv' := [(4, .int z7.1), (3, .int z5.1), (2, .int z4.1), (0, .ref (g_r G))]) hx hb dX12_tieLine_49 hl (by decide) rfl (fun ls hl => ?_)
    refine lv_aload_n hx hb dX12_tieLine_51 rfl (lv_at hl 3 rfl) ?_
    refine rx_getI E hw on kF_R_25_11 (by decide) dX12_tieLine_52 ?_
    refine lv_iconst (v := (-1)) hx hb dX12_tieLine_55 (by decide) ?_
    refine cx_icmp_ne (tgt := 80) E dX12_tieLine_56 (by decide) (fun _ => ?_) (fun _ => ?_)
    · exact w80  z4.1 z7.1 z7.2 _ _ _ hw (lv_sub hl [3, 2, 0] rfl)
    · refine lv_iload_n hx hb dX12_tieLine_59 rfl (lv_at hl 2 rfl) ?_
      refine lv_iload hx hb dX12_tieLine_60 (lv_at hl 0 rfl) ?_
      refine cx_icmp_eq (tgt := 75) E dX12_tieLine_62 (by decide) (fun _ => ?_) (fun _ => ?_)
      · exact w75  z4.1 z5.1 z7.1 z7.2 _ _ _ hw (lv_sub hl [3, 2, 1, 0] rfl)
      · refine lv_aload_n hx hb dX12_tieLine_65 rfl (lv_at hl 3 rfl) ?_
        refine lv_iload_n hx hb dX12_tieLine_66 rfl (lv_at hl 2 rfl) ?_
        refine lv_iload hx hb dX12_tieLine_67 (lv_at hl 0 rfl) ?_
        refine W_bind fun z8 hz => ?_
        refine w_after (cells1 := 0) (slots1 := 0) (w_runV E kV_R_148 kc_X12_areTied (t_R_areTied l hfl G on N z4.1 z7.1 M z7.2 ((fun z => (.inl (some (.int z)), M, z7.2)) z8) (by rw [hz]; rfl)) ⟨Nat.le_of_ble_eq_true rfl, Nat.le_of_ble_eq_true rfl⟩ hw (w_recvR E hw on) rfl hl.1 rfl (Nat.le_of_ble_eq_true rfl) dX12_tieLine_69 ⟨Nat.le_of_ble_eq_true rfl, Nat.le_of_ble_eq_true rfl⟩) hw rfl (Nat.le_of_ble_eq_true rfl) (Nat.le_of_ble_eq_true rfl) (fun H locs hw => ?_)
        refine W.eq (g2 := F0 m 72 ls [.int z8]) rfl ?_
        have hw : w_W G M z7.2 s H locs := hw
        refine cx_if_eq (tgt := 80) E dX12_tieLine_72 (by decide) (fun _ => ?_) (fun _ => ?_)
        · exact w80  z4.1 z7.1 z7.2 _ _ _ hw (lv_sub hl [3, 2, 0] rfl)
        · exact w75  z4.1 z5.1 z7.1 z7.2 _ _ _ hw (lv_sub hl [3, 2, 1, 0] rfl)
  unfold f_R_tieLine
  refine lv_aload_n hx hb dX12_tieLine_0 rfl (lv_at hl 0 rfl) ?_
  refine rx_getA E hw on kF_R_7_11 (by decide) dX12_tieLine_1 ?_
  refine lv_bipush (v := 6) hx hb dX12_tieLine_4 (by decide) ?_
  refine rx_iald E hw on (by decide) dX12_tieLine_6 (fun v1 => ?_)
  refine lv_bipush (v := 24) hx hb dX12_tieLine_7 (by decide) ?_
  refine cx_icmp_ne (tgt := 17) E dX12_tieLine_9 (by decide) (fun _ => ?_) (fun _ => ?_)
  · exact w17  r _ _ _ hw (lv_sub hl [0] rfl)
  · refine lv_aload_n hx hb dX12_tieLine_12 rfl (lv_at hl 0 rfl) ?_
    refine lv_iload_n hx hb dX12_tieLine_13 rfl (lv_at hl 1 rfl) ?_
    refine W_bind fun z2 hz => ?_
    refine w_after (cells1 := 0) (slots1 := 0) (w_runV E kV_R_105 kc_X12_wrong (t_R_wrong l hfl G on a0 M r ((fun z => (.inl none, M, z)) z2) (by rw [hz]; rfl)) ⟨Nat.le_of_ble_eq_true rfl, Nat.le_of_ble_eq_true rfl⟩ hw (w_recvR E hw on) rfl hl.1 rfl (Nat.le_of_ble_eq_true rfl) dX12_tieLine_14 ⟨Nat.le_of_ble_eq_true rfl, Nat.le_of_ble_eq_true rfl⟩) hw rfl (Nat.le_of_ble_eq_true rfl) (Nat.le_of_ble_eq_true rfl) (fun H locs hw => ?_)
    refine W.eq (g2 := F0 m 17 ls []) rfl ?_
    have hw : w_W G M z2 s H locs := hw
    exact w17  z2 _ _ _ hw (lv_sub hl [0] rfl)
def f_R_tells (N : Nat) (a0 : Int32) (r : Rho) : Option (Rho) :=
  (f_R_figures N 0 99 r).bind fun z1 => if (z1.2.1 12) = (-1) then ((rst z1.2 1 a0 z1.1).bind fun r2 => some r2) else (some z1.2)
abbrev rm_R_tells : Room := { frames := 4, cells := 0, slots := 0, locals := 85 }
set_option maxHeartbeats 4000000 in
set_option maxRecDepth 100000 in
theorem t_R_tells (l : Launch) (hfl : l.stackTraces = false) (G : wG) (on : g_on G = true) (N : Nat) (a0 : Int32) (M : Mem) (r : Rho) : Ctr l yX12_tells (wWs yX12_tells cX12_tells 3 none) rm_R_tells rm_R_tells.cells rm_R_tells.slots G [.ref (g_r G), .int a0] M r ((f_R_tells N a0 r).map (fun z => (.inl none, M, z))) := by
  refine Ctr.ofF (own := "CheekTownModel") (by decide +kernel) hfl rfl (Nat.le_of_ble_eq_true rfl) (fun p e s m args below meth c E hno hr hnm hw ls hl => ?_)
  obtain ⟨hx, hb, hts, hown, hml, hTT, -⟩ := id E
  have hl : lv_has ls 3 [(0, .ref (g_r G)), (1, .int a0)] := hl
  obtain ⟨H, hH⟩ : ∃ H, H = s.heap := ⟨_, rfl⟩
  obtain ⟨locs, hlo⟩ : ∃ L : List Loc, L = [] := ⟨_, rfl⟩
  rw [← hH, ← hlo]
  rw [← hlo] at hw
  replace hw : w_W G M r s H locs := by rw [hH]; exact hw
  unfold f_R_tells
  refine lv_aload_n hx hb dX12_tells_0 rfl (lv_at hl 0 rfl) ?_
  refine lv_iconst (v := 0) hx hb dX12_tells_1 (by decide) ?_
  refine lv_bipush (v := 99) hx hb dX12_tells_2 (by decide) ?_
  refine W_bind fun z1 hz => ?_
  refine w_after (cells1 := 0) (slots1 := 0) (w_runV E kV_R_124 kc_X12_figures (t_R_figures l hfl G on N 0 99 M r ((fun z => (.inl (some (.int z.1)), M, z.2)) z1) (by rw [hz]; rfl)) ⟨Nat.le_of_ble_eq_true rfl, Nat.le_of_ble_eq_true rfl⟩ hw (w_recvR E hw on) rfl hl.1 rfl (Nat.le_of_ble_eq_true rfl) dX12_tells_4 ⟨Nat.le_of_ble_eq_true rfl, Nat.le_of_ble_eq_true rfl⟩) hw rfl (Nat.le_of_ble_eq_true rfl) (Nat.le_of_ble_eq_true rfl) (fun H locs hw => ?_)
  refine W.eq (g2 := F0 m 7 ls [.int z1.1]) rfl ?_
  have hw : w_W G M z1.2 s H locs := hw
  refine lv_istore_n (lv' := [(2, .int z1.1), (0, .ref (g_r G)), (1, .int a0)]) hx hb dX12_tells_7 rfl hl (by decide) rfl (fun ls hl => ?_)
  refine lv_aload_n hx hb dX12_tells_8 rfl (lv_at hl 1 rfl) ?_
  refine rx_getI E hw on kF_R_25_11 (by decide) dX12_tells_9 ?_
  refine lv_iconst (v := (-1)) hx hb dX12_tells_12 (by decide) ?_
  refine cx_icmp_ne (tgt := 23) E dX12_tells_13 (by decide) (fun _ => ?_) (fun _ => ?_)
  · exact p_vret E hw hr (Nat.le_of_ble_eq_true rfl) (Nat.le_of_ble_eq_true rfl) rfl dX12_tells_23
  · refine lv_aload_n hx hb dX12_tells_16 rfl (lv_at hl 1 rfl) ?_
    refine rx_getA E hw on kF_R_7_11 (by decide) dX12_tells_17 ?_
    refine lv_iload_n hx hb dX12_tells_20 rfl (lv_at hl 2 rfl) ?_
    refine lv_iload_n hx hb dX12_tells_21 rfl (lv_at hl 0 rfl) ?_
    refine rx_iast E hw on (by decide) dX12_tells_22 (fun r2 H locs hw => ?_)
    exact p_vret E hw hr (Nat.le_of_ble_eq_true rfl) (Nat.le_of_ble_eq_true rfl) rfl dX12_tells_23
def f_R_townLine_30 (N : Nat) (r : Rho) : Option (Rho) :=
  if (r.1 12) = (-1) then ((rld r 1 3).bind fun v22 => (rst r 1 3 (v22 + 1)).bind fun r23 => some r23) else (some r)
def f_R_townLine (N : Nat) (r : Rho) : Option (Rho) :=
  (f_R_place N r).bind fun z1 => (f_R_has_ N 60 z1.2).bind fun z2 => if z2.1 = 0 then ((f_R_has_ N 61 z2.2).bind fun z3 => if z3.1 = 0 then ((f_R_has_ N 63 z3.2).bind fun z4 => if z4.1 = 0 then ((f_R_has_ N 51 z4.2).bind fun z5 => if z5.1 = 0 then ((f_R_has_ N 65 z5.2).bind fun z6 => if z6.1 = 0 then ((f_R_has_ N 66 z6.2).bind fun z7 => if z7.1 = 0 then ((f_R_has_ N 67 z7.2).bind fun z8 => if z8.1 = 0 then ((f_R_has_ N 68 z8.2).bind fun z9 => if z9.1 = 0 then ((f_R_wrong (z9.2.1 11) z9.2).bind fun z10 => some z10) else ((f_R_tells N 15 z9.2).bind fun z11 => some z11)) else ((f_R_tells N 14 z8.2).bind fun z12 => some z12)) else ((f_R_tells N 13 z7.2).bind fun z13 => some z13)) else ((f_R_tieLine N z1.1 z6.2).bind fun z14 => some z14)) else ((rld z5.2 1 5).bind fun v15 => (f_R_figures N 0 (v15 - 1) z5.2).bind fun z16 => if (z16.2.1 12) = (-1) then ((f_R_has z16.1 4 1 z16.2).bind fun z17 => some z17) else (some z16.2))) else ((f_R_personLine N z1.1 z4.2).bind fun z18 => some z18)) else ((f_R_habitLine N z1.1 z3.2).bind fun z19 => some z19)) else ((rld z2.2 1 3).bind fun v20 => if v20 = 6 then ((f_R_wrong z1.1 z2.2).bind fun z21 => f_R_townLine_30 N z21) else (f_R_townLine_30 N z2.2))
abbrev rm_R_townLine : Room := { frames := 12, cells := 0, slots := 0, locals := 493 }
set_option maxHeartbeats 4000000 in
set_option maxRecDepth 100000 in
theorem t_R_townLine (l : Launch) (hfl : l.stackTraces = false) (G : wG) (on : g_on G = true) (N : Nat) (M : Mem) (r : Rho) : Ctr l yX12_townLine (wWs yX12_townLine cX12_townLine 3 none) rm_R_townLine rm_R_townLine.cells rm_R_townLine.slots G [.ref (g_r G)] M r ((f_R_townLine N r).map (fun z => (.inl none, M, z))) := by
  refine Ctr.ofF (own := "CheekTownModel") (by decide +kernel) hfl rfl (Nat.le_of_ble_eq_true rfl) (fun p e s m args below meth c E hno hr hnm hw ls hl => ?_)
  obtain ⟨hx, hb, hts, hown, hml, hTT, -⟩ := id E
  have hl : lv_has ls 3 [(0, .ref (g_r G))] := hl
  obtain ⟨H, hH⟩ : ∃ H, H = s.heap := ⟨_, rfl⟩
  obtain ⟨locs, hlo⟩ : ∃ L : List Loc, L = [] := ⟨_, rfl⟩
  rw [← hH, ← hlo]
  rw [← hlo] at hw
  replace hw : w_W G M r s H locs := by rw [hH]; exact hw
  have w30 : ∀ (r : Rho) (H : Heap) (locs : List Loc) (ls : Array Slot), w_W G M r s H locs → lv_has ls 3 [(0, .ref (g_r G))] → W p l e rm_R_townLine s m args below meth c H locs 0 0 (PQ G below args s rm_R_townLine.cells rm_R_townLine.slots (fun z => (.inl none, M, z)) (f_R_townLine_30 N r)) (F0 m 30 ls []) := by
    intro r H locs ls hw hl
    unfold f_R_townLine_30
    refine lv_aload_n hx hb dX12_townLine_30 rfl (lv_at hl 0 rfl) ?_
    refine rx_getI E hw on kF_R_25_11 (by decide) dX12_townLine_31 ?_
    refine lv_iconst (v := (-1)) hx hb dX12_townLine_34 (by decide) ?_
    refine cx_icmp_ne (tgt := 205) E dX12_townLine_35 (by decide) (fun _ => ?_) (fun _ => ?_)
    · exact p_vret E hw hr (Nat.le_of_ble_eq_true rfl) (Nat.le_of_ble_eq_true rfl) rfl dX12_townLine_205
    · refine lv_aload_n hx hb dX12_townLine_38 rfl (lv_at hl 0 rfl) ?_
      refine rx_getA E hw on kF_R_7_11 (by decide) dX12_townLine_39 ?_
      refine lv_iconst (v := 3) hx hb dX12_townLine_42 (by decide) ?_
      refine lv_dup2_11 hx hb dX12_townLine_43 rfl rfl ?_
      refine rx_iald E hw on (by decide) dX12_townLine_44 (fun v22 => ?_)
      refine lv_iconst (v := 1) hx hb dX12_townLine_45 (by decide) ?_
      refine lv_iadd hx hb dX12_townLine_46 ?_
      refine rx_iast E hw on (by decide) dX12_townLine_47 (fun r23 H locs hw => ?_)
      refine lv_goto (tgt := 205) hx hb dX12_townLine_48 (by decide) ?_
      exact p_vret E hw hr (Nat.le_of_ble_eq_true rfl) (Nat.le_of_ble_eq_true rfl) rfl dX12_townLine_205
  unfold f_R_townLine
  refine lv_aload_n hx hb dX12_townLine_0 rfl (lv_at hl 0 rfl) ?_
  refine W_bind fun z1 hz => ?_
  refine w_after (cells1 := 0) (slots1 := 0) (w_runV E kV_R_109 kc_X12_place (t_R_place l hfl G on N M r ((fun z => (.inl (some (.int z.1)), M, z.2)) z1) (by rw [hz]; rfl)) ⟨Nat.le_of_ble_eq_true rfl, Nat.le_of_ble_eq_true rfl⟩ hw (w_recvR E hw on) rfl hl.1 rfl (Nat.le_of_ble_eq_true rfl) dX12_townLine_1 ⟨Nat.le_of_ble_eq_true rfl, Nat.le_of_ble_eq_true rfl⟩) hw rfl (Nat.le_of_ble_eq_true rfl) (Nat.le_of_ble_eq_true rfl) (fun H locs hw => ?_)
  refine W.eq (g2 := F0 m 4 ls [.int z1.1]) rfl ?_
  have hw : w_W G M z1.2 s H locs := hw
  refine lv_istore_n (lv' := [(1, .int z1.1), (0, .ref (g_r G))]) hx hb dX12_townLine_4 rfl hl (by decide) rfl (fun ls hl => ?_)
  refine lv_aload_n hx hb dX12_townLine_5 rfl (lv_at hl 1 rfl) ?_
  refine va_ldcS hx hb hown (hTT.2.2.1 60 _ rfl) dX12_townLine_6 ?_
  refine W_bind fun z2 hz => ?_
  refine w_after (cells1 := 0) (slots1 := 0) (w_runV E kV_R_101 kc_X12_has_ (t_R_has_ l hfl G on N 60 M z1.2 ((fun z => (.inl (some (.int z.1)), M, z.2)) z2) (by rw [hz]; rfl)) ⟨Nat.le_of_ble_eq_true rfl, Nat.le_of_ble_eq_true rfl⟩ hw (w_recvR E hw on) rfl hl.1 rfl (Nat.le_of_ble_eq_true rfl) dX12_townLine_8 ⟨Nat.le_of_ble_eq_true rfl, Nat.le_of_ble_eq_true rfl⟩) hw rfl (Nat.le_of_ble_eq_true rfl) (Nat.le_of_ble_eq_true rfl) (fun H locs hw => ?_)
  refine W.eq (g2 := F0 m 11 ls [.int z2.1]) rfl ?_
  have hw : w_W G M z2.2 s H locs := hw
  refine cx_if_eq (tgt := 51) E dX12_townLine_11 (by decide) (fun _ => ?_) (fun _ => ?_)
  · refine lv_aload_n hx hb dX12_townLine_51 rfl (lv_at hl 1 rfl) ?_
    refine va_ldcS hx hb hown (hTT.2.2.1 61 _ rfl) dX12_townLine_52 ?_
    refine W_bind fun z3 hz => ?_
    refine w_after (cells1 := 0) (slots1 := 0) (w_runV E kV_R_101 kc_X12_has_ (t_R_has_ l hfl G on N 61 M z2.2 ((fun z => (.inl (some (.int z.1)), M, z.2)) z3) (by rw [hz]; rfl)) ⟨Nat.le_of_ble_eq_true rfl, Nat.le_of_ble_eq_true rfl⟩ hw (w_recvR E hw on) rfl hl.1 rfl (Nat.le_of_ble_eq_true rfl) dX12_townLine_54 ⟨Nat.le_of_ble_eq_true rfl, Nat.le_of_ble_eq_true rfl⟩) hw rfl (Nat.le_of_ble_eq_true rfl) (Nat.le_of_ble_eq_true rfl) (fun H locs hw => ?_)
    refine W.eq (g2 := F0 m 57 ls [.int z3.1]) rfl ?_
    have hw : w_W G M z3.2 s H locs := hw
    refine cx_if_eq (tgt := 68) E dX12_townLine_57 (by decide) (fun _ => ?_) (fun _ => ?_)
    · refine lv_aload_n hx hb dX12_townLine_68 rfl (lv_at hl 1 rfl) ?_
      refine va_ldcS hx hb hown (hTT.2.2.1 63 _ rfl) dX12_townLine_69 ?_
      refine W_bind fun z4 hz => ?_
      refine w_after (cells1 := 0) (slots1 := 0) (w_runV E kV_R_101 kc_X12_has_ (t_R_has_ l hfl G on N 63 M z3.2 ((fun z => (.inl (some (.int z.1)), M, z.2)) z4) (by rw [hz]; rfl)) ⟨Nat.le_of_ble_eq_true rfl, Nat.le_of_ble_eq_true rfl⟩ hw (w_recvR E hw on) rfl hl.1 rfl (Nat.le_of_ble_eq_true rfl) dX12_townLine_71 ⟨Nat.le_of_ble_eq_true rfl, Nat.le_of_ble_eq_true rfl⟩) hw rfl (Nat.le_of_ble_eq_true rfl) (Nat.le_of_ble_eq_true rfl) (fun H locs hw => ?_)
      refine W.eq (g2 := F0 m 74 ls [.int z4.1]) rfl ?_
      have hw : w_W G M z4.2 s H locs := hw
      refine cx_if_eq (tgt := 85) E dX12_townLine_74 (by decide) (fun _ => ?_) (fun _ => ?_)
      · refine lv_aload_n hx hb dX12_townLine_85 rfl (lv_at hl 1 rfl) ?_
        refine va_ldcS hx hb hown (hTT.2.2.1 51 _ rfl) dX12_townLine_86 ?_
        refine W_bind fun z5 hz => ?_
        refine w_after (cells1 := 0) (slots1 := 0) (w_runV E kV_R_101 kc_X12_has_ (t_R_has_ l hfl G on N 51 M z4.2 ((fun z => (.inl (some (.int z.1)), M, z.2)) z5) (by rw [hz]; rfl)) ⟨Nat.le_of_ble_eq_true rfl, Nat.le_of_ble_eq_true rfl⟩ hw (w_recvR E hw on) rfl hl.1 rfl (Nat.le_of_ble_eq_true rfl) dX12_townLine_88 ⟨Nat.le_of_ble_eq_true rfl, Nat.le_of_ble_eq_true rfl⟩) hw rfl (Nat.le_of_ble_eq_true rfl) (Nat.le_of_ble_eq_true rfl) (fun H locs hw => ?_)
        refine W.eq (g2 := F0 m 91 ls [.int z5.1]) rfl ?_
        have hw : w_W G M z5.2 s H locs := hw
        refine cx_if_eq (tgt := 126) E dX12_townLine_91 (by decide) (fun _ => ?_) (fun _ => ?_)
        · refine lv_aload_n hx hb dX12_townLine_126 rfl (lv_at hl 1 rfl) ?_
          refine va_ldcS hx hb hown (hTT.2.2.1 65 _ rfl) dX12_townLine_127 ?_
          refine W_bind fun z6 hz => ?_
          refine w_after (cells1 := 0) (slots1 := 0) (w_runV E kV_R_101 kc_X12_has_ (t_R_has_ l hfl G on N 65 M z5.2 ((fun z => (.inl (some (.int z.1)), M, z.2)) z6) (by rw [hz]; rfl)) ⟨Nat.le_of_ble_eq_true rfl, Nat.le_of_ble_eq_true rfl⟩ hw (w_recvR E hw on) rfl hl.1 rfl (Nat.le_of_ble_eq_true rfl) dX12_townLine_129 ⟨Nat.le_of_ble_eq_true rfl, Nat.le_of_ble_eq_true rfl⟩) hw rfl (Nat.le_of_ble_eq_true rfl) (Nat.le_of_ble_eq_true rfl) (fun H locs hw => ?_)
          refine W.eq (g2 := F0 m 132 ls [.int z6.1]) rfl ?_
          have hw : w_W G M z6.2 s H locs := hw
          refine cx_if_eq (tgt := 143) E dX12_townLine_132 (by decide) (fun _ => ?_) (fun _ => ?_)
          · refine lv_aload_n hx hb dX12_townLine_143 rfl (lv_at hl 1 rfl) ?_
            refine va_ldcS hx hb hown (hTT.2.2.1 66 _ rfl) dX12_townLine_144 ?_
            refine W_bind fun z7 hz => ?_
            refine w_after (cells1 := 0) (slots1 := 0) (w_runV E kV_R_101 kc_X12_has_ (t_R_has_ l hfl G on N 66 M z6.2 ((fun z => (.inl (some (.int z.1)), M, z.2)) z7) (by rw [hz]; rfl)) ⟨Nat.le_of_ble_eq_true rfl, Nat.le_of_ble_eq_true rfl⟩ hw (w_recvR E hw on) rfl hl.1 rfl (Nat.le_of_ble_eq_true rfl) dX12_townLine_146 ⟨Nat.le_of_ble_eq_true rfl, Nat.le_of_ble_eq_true rfl⟩) hw rfl (Nat.le_of_ble_eq_true rfl) (Nat.le_of_ble_eq_true rfl) (fun H locs hw => ?_)
            refine W.eq (g2 := F0 m 149 ls [.int z7.1]) rfl ?_
            have hw : w_W G M z7.2 s H locs := hw
            refine cx_if_eq (tgt := 161) E dX12_townLine_149 (by decide) (fun _ => ?_) (fun _ => ?_)
            · refine lv_aload_n hx hb dX12_townLine_161 rfl (lv_at hl 1 rfl) ?_
              refine va_ldcS hx hb hown (hTT.2.2.1 67 _ rfl) dX12_townLine_162 ?_
              refine W_bind fun z8 hz => ?_
              refine w_after (cells1 := 0) (slots1 := 0) (w_runV E kV_R_101 kc_X12_has_ (t_R_has_ l hfl G on N 67 M z7.2 ((fun z => (.inl (some (.int z.1)), M, z.2)) z8) (by rw [hz]; rfl)) ⟨Nat.le_of_ble_eq_true rfl, Nat.le_of_ble_eq_true rfl⟩ hw (w_recvR E hw on) rfl hl.1 rfl (Nat.le_of_ble_eq_true rfl) dX12_townLine_164 ⟨Nat.le_of_ble_eq_true rfl, Nat.le_of_ble_eq_true rfl⟩) hw rfl (Nat.le_of_ble_eq_true rfl) (Nat.le_of_ble_eq_true rfl) (fun H locs hw => ?_)
              refine W.eq (g2 := F0 m 167 ls [.int z8.1]) rfl ?_
              have hw : w_W G M z8.2 s H locs := hw
              refine cx_if_eq (tgt := 179) E dX12_townLine_167 (by decide) (fun _ => ?_) (fun _ => ?_)
              · refine lv_aload_n hx hb dX12_townLine_179 rfl (lv_at hl 1 rfl) ?_
                refine va_ldcS hx hb hown (hTT.2.2.1 68 _ rfl) dX12_townLine_180 ?_
                refine W_bind fun z9 hz => ?_
                refine w_after (cells1 := 0) (slots1 := 0) (w_runV E kV_R_101 kc_X12_has_ (t_R_has_ l hfl G on N 68 M z8.2 ((fun z => (.inl (some (.int z.1)), M, z.2)) z9) (by rw [hz]; rfl)) ⟨Nat.le_of_ble_eq_true rfl, Nat.le_of_ble_eq_true rfl⟩ hw (w_recvR E hw on) rfl hl.1 rfl (Nat.le_of_ble_eq_true rfl) dX12_townLine_182 ⟨Nat.le_of_ble_eq_true rfl, Nat.le_of_ble_eq_true rfl⟩) hw rfl (Nat.le_of_ble_eq_true rfl) (Nat.le_of_ble_eq_true rfl) (fun H locs hw => ?_)
                refine W.eq (g2 := F0 m 185 ls [.int z9.1]) rfl ?_
                have hw : w_W G M z9.2 s H locs := hw
                refine cx_if_eq (tgt := 197) E dX12_townLine_185 (by decide) (fun _ => ?_) (fun _ => ?_)
                · refine lv_aload_n hx hb dX12_townLine_197 rfl (lv_at hl 1 rfl) ?_
                  refine lv_aload_n hx hb dX12_townLine_198 rfl (lv_at hl 1 rfl) ?_
                  refine rx_getI E hw on kF_R_79_11 (by decide) dX12_townLine_199 ?_
                  refine W_bind fun z10 hz => ?_
                  refine w_after (cells1 := 0) (slots1 := 0) (w_runV E kV_R_105 kc_X12_wrong (t_R_wrong l hfl G on (z9.2.1 11) M z9.2 ((fun z => (.inl none, M, z)) z10) (by rw [hz]; rfl)) ⟨Nat.le_of_ble_eq_true rfl, Nat.le_of_ble_eq_true rfl⟩ hw (w_recvR E hw on) rfl hl.1 rfl (Nat.le_of_ble_eq_true rfl) dX12_townLine_202 ⟨Nat.le_of_ble_eq_true rfl, Nat.le_of_ble_eq_true rfl⟩) hw rfl (Nat.le_of_ble_eq_true rfl) (Nat.le_of_ble_eq_true rfl) (fun H locs hw => ?_)
                  refine W.eq (g2 := F0 m 205 ls []) rfl ?_
                  have hw : w_W G M z10 s H locs := hw
                  exact p_vret E hw hr (Nat.le_of_ble_eq_true rfl) (Nat.le_of_ble_eq_true rfl) rfl dX12_townLine_205
                · refine lv_aload_n hx hb dX12_townLine_188 rfl (lv_at hl 1 rfl) ?_
                  refine lv_bipush (v := 15) hx hb dX12_townLine_189 (by decide) ?_
                  refine W_bind fun z11 hz => ?_
                  refine w_after (cells1 := 0) (slots1 := 0) (w_runV E kV_R_177 kc_X12_tells (t_R_tells l hfl G on N 15 M z9.2 ((fun z => (.inl none, M, z)) z11) (by rw [hz]; rfl)) ⟨Nat.le_of_ble_eq_true rfl, Nat.le_of_ble_eq_true rfl⟩ hw (w_recvR E hw on) rfl hl.1 rfl (Nat.le_of_ble_eq_true rfl) dX12_townLine_191 ⟨Nat.le_of_ble_eq_true rfl, Nat.le_of_ble_eq_true rfl⟩) hw rfl (Nat.le_of_ble_eq_true rfl) (Nat.le_of_ble_eq_true rfl) (fun H locs hw => ?_)
                  refine W.eq (g2 := F0 m 194 ls []) rfl ?_
                  have hw : w_W G M z11 s H locs := hw
                  refine lv_goto (tgt := 205) hx hb dX12_townLine_194 (by decide) ?_
                  exact p_vret E hw hr (Nat.le_of_ble_eq_true rfl) (Nat.le_of_ble_eq_true rfl) rfl dX12_townLine_205
              · refine lv_aload_n hx hb dX12_townLine_170 rfl (lv_at hl 1 rfl) ?_
                refine lv_bipush (v := 14) hx hb dX12_townLine_171 (by decide) ?_
                refine W_bind fun z12 hz => ?_
                refine w_after (cells1 := 0) (slots1 := 0) (w_runV E kV_R_177 kc_X12_tells (t_R_tells l hfl G on N 14 M z8.2 ((fun z => (.inl none, M, z)) z12) (by rw [hz]; rfl)) ⟨Nat.le_of_ble_eq_true rfl, Nat.le_of_ble_eq_true rfl⟩ hw (w_recvR E hw on) rfl hl.1 rfl (Nat.le_of_ble_eq_true rfl) dX12_townLine_173 ⟨Nat.le_of_ble_eq_true rfl, Nat.le_of_ble_eq_true rfl⟩) hw rfl (Nat.le_of_ble_eq_true rfl) (Nat.le_of_ble_eq_true rfl) (fun H locs hw => ?_)
                refine W.eq (g2 := F0 m 176 ls []) rfl ?_
                have hw : w_W G M z12 s H locs := hw
                refine lv_goto (tgt := 205) hx hb dX12_townLine_176 (by decide) ?_
                exact p_vret E hw hr (Nat.le_of_ble_eq_true rfl) (Nat.le_of_ble_eq_true rfl) rfl dX12_townLine_205
            · refine lv_aload_n hx hb dX12_townLine_152 rfl (lv_at hl 1 rfl) ?_
              refine lv_bipush (v := 13) hx hb dX12_townLine_153 (by decide) ?_
              refine W_bind fun z13 hz => ?_
              refine w_after (cells1 := 0) (slots1 := 0) (w_runV E kV_R_177 kc_X12_tells (t_R_tells l hfl G on N 13 M z7.2 ((fun z => (.inl none, M, z)) z13) (by rw [hz]; rfl)) ⟨Nat.le_of_ble_eq_true rfl, Nat.le_of_ble_eq_true rfl⟩ hw (w_recvR E hw on) rfl hl.1 rfl (Nat.le_of_ble_eq_true rfl) dX12_townLine_155 ⟨Nat.le_of_ble_eq_true rfl, Nat.le_of_ble_eq_true rfl⟩) hw rfl (Nat.le_of_ble_eq_true rfl) (Nat.le_of_ble_eq_true rfl) (fun H locs hw => ?_)
              refine W.eq (g2 := F0 m 158 ls []) rfl ?_
              have hw : w_W G M z13 s H locs := hw
              refine lv_goto (tgt := 205) hx hb dX12_townLine_158 (by decide) ?_
              exact p_vret E hw hr (Nat.le_of_ble_eq_true rfl) (Nat.le_of_ble_eq_true rfl) rfl dX12_townLine_205
          · refine lv_aload_n hx hb dX12_townLine_135 rfl (lv_at hl 1 rfl) ?_
            refine lv_iload_n hx hb dX12_townLine_136 rfl (lv_at hl 0 rfl) ?_
            refine W_bind fun z14 hz => ?_
            refine w_after (cells1 := 0) (slots1 := 0) (w_runV E kV_R_172 kc_X12_tieLine (t_R_tieLine l hfl G on N z1.1 M z6.2 ((fun z => (.inl none, M, z)) z14) (by rw [hz]; rfl)) ⟨Nat.le_of_ble_eq_true rfl, Nat.le_of_ble_eq_true rfl⟩ hw (w_recvR E hw on) rfl hl.1 rfl (Nat.le_of_ble_eq_true rfl) dX12_townLine_137 ⟨Nat.le_of_ble_eq_true rfl, Nat.le_of_ble_eq_true rfl⟩) hw rfl (Nat.le_of_ble_eq_true rfl) (Nat.le_of_ble_eq_true rfl) (fun H locs hw => ?_)
            refine W.eq (g2 := F0 m 140 ls []) rfl ?_
            have hw : w_W G M z14 s H locs := hw
            refine lv_goto (tgt := 205) hx hb dX12_townLine_140 (by decide) ?_
            exact p_vret E hw hr (Nat.le_of_ble_eq_true rfl) (Nat.le_of_ble_eq_true rfl) rfl dX12_townLine_205
        · refine lv_aload_n hx hb dX12_townLine_94 rfl (lv_at hl 1 rfl) ?_
          refine lv_iconst (v := 0) hx hb dX12_townLine_95 (by decide) ?_
          refine lv_aload_n hx hb dX12_townLine_96 rfl (lv_at hl 1 rfl) ?_
          refine rx_getA E hw on kF_R_7_11 (by decide) dX12_townLine_97 ?_
          refine lv_iconst (v := 5) hx hb dX12_townLine_100 (by decide) ?_
          refine rx_iald E hw on (by decide) dX12_townLine_101 (fun v15 => ?_)
          refine lv_iconst (v := 1) hx hb dX12_townLine_102 (by decide) ?_
          refine lv_isub hx hb dX12_townLine_103 ?_
          refine W_bind fun z16 hz => ?_
          refine w_after (cells1 := 0) (slots1 := 0) (w_runV E kV_R_124 kc_X12_figures (t_R_figures l hfl G on N 0 (v15 - 1) M z5.2 ((fun z => (.inl (some (.int z.1)), M, z.2)) z16) (by rw [hz]; rfl)) ⟨Nat.le_of_ble_eq_true rfl, Nat.le_of_ble_eq_true rfl⟩ hw (w_recvR E hw on) rfl hl.1 rfl (Nat.le_of_ble_eq_true rfl) dX12_townLine_104 ⟨Nat.le_of_ble_eq_true rfl, Nat.le_of_ble_eq_true rfl⟩) hw rfl (Nat.le_of_ble_eq_true rfl) (Nat.le_of_ble_eq_true rfl) (fun H locs hw => ?_)
          refine W.eq (g2 := F0 m 107 ls [.int z16.1]) rfl ?_
          have hw : w_W G M z16.2 s H locs := hw
          refine lv_istore_n (lv' := [(2, .int z16.1), (1, .int z1.1), (0, .ref (g_r G))]) hx hb dX12_townLine_107 rfl hl (by decide) rfl (fun ls hl => ?_)
          refine lv_aload_n hx hb dX12_townLine_108 rfl (lv_at hl 2 rfl) ?_
          refine rx_getI E hw on kF_R_25_11 (by decide) dX12_townLine_109 ?_
          refine lv_iconst (v := (-1)) hx hb dX12_townLine_112 (by decide) ?_
          refine cx_icmp_ne (tgt := 123) E dX12_townLine_113 (by decide) (fun _ => ?_) (fun _ => ?_)
          · refine lv_goto (tgt := 205) hx hb dX12_townLine_123 (by decide) ?_
            exact p_vret E hw hr (Nat.le_of_ble_eq_true rfl) (Nat.le_of_ble_eq_true rfl) rfl dX12_townLine_205
          · refine lv_aload_n hx hb dX12_townLine_116 rfl (lv_at hl 2 rfl) ?_
            refine lv_iload_n hx hb dX12_townLine_117 rfl (lv_at hl 0 rfl) ?_
            refine lv_iconst (v := 4) hx hb dX12_townLine_118 (by decide) ?_
            refine lv_iconst (v := 1) hx hb dX12_townLine_119 (by decide) ?_
            refine W_bind fun z17 hz => ?_
            refine w_after (cells1 := 0) (slots1 := 0) (w_runV E kV_R_141 kc_X12_has (t_R_has l hfl G on z16.1 4 1 M z16.2 ((fun z => (.inl none, M, z)) z17) (by rw [hz]; rfl)) ⟨Nat.le_of_ble_eq_true rfl, Nat.le_of_ble_eq_true rfl⟩ hw (w_recvR E hw on) rfl hl.1 rfl (Nat.le_of_ble_eq_true rfl) dX12_townLine_120 ⟨Nat.le_of_ble_eq_true rfl, Nat.le_of_ble_eq_true rfl⟩) hw rfl (Nat.le_of_ble_eq_true rfl) (Nat.le_of_ble_eq_true rfl) (fun H locs hw => ?_)
            refine W.eq (g2 := F0 m 123 ls []) rfl ?_
            have hw : w_W G M z17 s H locs := hw
            refine lv_goto (tgt := 205) hx hb dX12_townLine_123 (by decide) ?_
            exact p_vret E hw hr (Nat.le_of_ble_eq_true rfl) (Nat.le_of_ble_eq_true rfl) rfl dX12_townLine_205
      · refine lv_aload_n hx hb dX12_townLine_77 rfl (lv_at hl 1 rfl) ?_
        refine lv_iload_n hx hb dX12_townLine_78 rfl (lv_at hl 0 rfl) ?_
        refine W_bind fun z18 hz => ?_
        refine w_after (cells1 := 0) (slots1 := 0) (w_runV E kV_R_165 kc_X12_personLine (t_R_personLine l hfl G on N z1.1 M z4.2 ((fun z => (.inl none, M, z)) z18) (by rw [hz]; rfl)) ⟨Nat.le_of_ble_eq_true rfl, Nat.le_of_ble_eq_true rfl⟩ hw (w_recvR E hw on) rfl hl.1 rfl (Nat.le_of_ble_eq_true rfl) dX12_townLine_79 ⟨Nat.le_of_ble_eq_true rfl, Nat.le_of_ble_eq_true rfl⟩) hw rfl (Nat.le_of_ble_eq_true rfl) (Nat.le_of_ble_eq_true rfl) (fun H locs hw => ?_)
        refine W.eq (g2 := F0 m 82 ls []) rfl ?_
        have hw : w_W G M z18 s H locs := hw
        refine lv_goto (tgt := 205) hx hb dX12_townLine_82 (by decide) ?_
        exact p_vret E hw hr (Nat.le_of_ble_eq_true rfl) (Nat.le_of_ble_eq_true rfl) rfl dX12_townLine_205
    · refine lv_aload_n hx hb dX12_townLine_60 rfl (lv_at hl 1 rfl) ?_
      refine lv_iload_n hx hb dX12_townLine_61 rfl (lv_at hl 0 rfl) ?_
      refine W_bind fun z19 hz => ?_
      refine w_after (cells1 := 0) (slots1 := 0) (w_runV E kV_R_160 kc_X12_habitLine (t_R_habitLine l hfl G on N z1.1 M z3.2 ((fun z => (.inl none, M, z)) z19) (by rw [hz]; rfl)) ⟨Nat.le_of_ble_eq_true rfl, Nat.le_of_ble_eq_true rfl⟩ hw (w_recvR E hw on) rfl hl.1 rfl (Nat.le_of_ble_eq_true rfl) dX12_townLine_62 ⟨Nat.le_of_ble_eq_true rfl, Nat.le_of_ble_eq_true rfl⟩) hw rfl (Nat.le_of_ble_eq_true rfl) (Nat.le_of_ble_eq_true rfl) (fun H locs hw => ?_)
      refine W.eq (g2 := F0 m 65 ls []) rfl ?_
      have hw : w_W G M z19 s H locs := hw
      refine lv_goto (tgt := 205) hx hb dX12_townLine_65 (by decide) ?_
      exact p_vret E hw hr (Nat.le_of_ble_eq_true rfl) (Nat.le_of_ble_eq_true rfl) rfl dX12_townLine_205
  · refine lv_aload_n hx hb dX12_townLine_14 rfl (lv_at hl 1 rfl) ?_
    refine rx_getA E hw on kF_R_7_11 (by decide) dX12_townLine_15 ?_
    refine lv_iconst (v := 3) hx hb dX12_townLine_18 (by decide) ?_
    refine rx_iald E hw on (by decide) dX12_townLine_19 (fun v20 => ?_)
    refine lv_bipush (v := 6) hx hb dX12_townLine_20 (by decide) ?_
    refine cx_icmp_ne (tgt := 30) E dX12_townLine_22 (by decide) (fun _ => ?_) (fun _ => ?_)
    · exact w30  z2.2 _ _ _ hw (lv_sub hl [1] rfl)
    · refine lv_aload_n hx hb dX12_townLine_25 rfl (lv_at hl 1 rfl) ?_
      refine lv_iload_n hx hb dX12_townLine_26 rfl (lv_at hl 0 rfl) ?_
      refine W_bind fun z21 hz => ?_
      refine w_after (cells1 := 0) (slots1 := 0) (w_runV E kV_R_105 kc_X12_wrong (t_R_wrong l hfl G on z1.1 M z2.2 ((fun z => (.inl none, M, z)) z21) (by rw [hz]; rfl)) ⟨Nat.le_of_ble_eq_true rfl, Nat.le_of_ble_eq_true rfl⟩ hw (w_recvR E hw on) rfl hl.1 rfl (Nat.le_of_ble_eq_true rfl) dX12_townLine_27 ⟨Nat.le_of_ble_eq_true rfl, Nat.le_of_ble_eq_true rfl⟩) hw rfl (Nat.le_of_ble_eq_true rfl) (Nat.le_of_ble_eq_true rfl) (fun H locs hw => ?_)
      refine W.eq (g2 := F0 m 30 ls []) rfl ?_
      have hw : w_W G M z21 s H locs := hw
      exact w30  z21 _ _ _ hw (lv_sub hl [1] rfl)
def f_R_isSign (N : Nat) (a0 : Int32) (r : Rho) : Option (Int32 × Rho) :=
  (f_R_skip N r).bind fun z1 => if (z1.1 10) ≤ (z1.1 11) then (some (0, z1)) else ((f_R_letter (z1.1 11) z1).bind fun z2 => if z2 = a0 then (some (1, z1)) else (some (0, z1)))
abbrev rm_R_isSign : Room := { frames := 2, cells := 0, slots := 0, locals := 41 }
set_option maxHeartbeats 4000000 in
set_option maxRecDepth 100000 in
theorem t_R_isSign (l : Launch) (hfl : l.stackTraces = false) (G : wG) (on : g_on G = true) (N : Nat) (a0 : Int32) (M : Mem) (r : Rho) : Ctr l yX12_isSign (wWs yX12_isSign cX12_isSign 2 (some .boolean)) rm_R_isSign rm_R_isSign.cells rm_R_isSign.slots G [.ref (g_r G), .int a0] M r ((f_R_isSign N a0 r).map (fun z => (.inl (some (.int z.1)), M, z.2))) := by
  refine Ctr.ofF (own := "CheekTownModel") (by decide +kernel) hfl rfl (Nat.le_of_ble_eq_true rfl) (fun p e s m args below meth c E hno hr hnm hw ls hl => ?_)
  obtain ⟨hx, hb, hts, hown, hml, hTT, -⟩ := id E
  have hl : lv_has ls 2 [(0, .ref (g_r G)), (1, .int a0)] := hl
  obtain ⟨H, hH⟩ : ∃ H, H = s.heap := ⟨_, rfl⟩
  obtain ⟨locs, hlo⟩ : ∃ L : List Loc, L = [] := ⟨_, rfl⟩
  rw [← hH, ← hlo]
  rw [← hlo] at hw
  replace hw : w_W G M r s H locs := by rw [hH]; exact hw
  unfold f_R_isSign
  refine lv_aload_n hx hb dX12_isSign_0 rfl (lv_at hl 0 rfl) ?_
  refine W_bind fun z1 hz => ?_
  refine w_after (cells1 := 0) (slots1 := 0) (w_runV E kV_R_88 kc_X12_skip (t_R_skip l hfl G on N M r ((fun z => (.inl none, M, z)) z1) (by rw [hz]; rfl)) ⟨Nat.le_of_ble_eq_true rfl, Nat.le_of_ble_eq_true rfl⟩ hw (w_recvR E hw on) rfl hl.1 rfl (Nat.le_of_ble_eq_true rfl) dX12_isSign_1 ⟨Nat.le_of_ble_eq_true rfl, Nat.le_of_ble_eq_true rfl⟩) hw rfl (Nat.le_of_ble_eq_true rfl) (Nat.le_of_ble_eq_true rfl) (fun H locs hw => ?_)
  refine W.eq (g2 := F0 m 4 ls []) rfl ?_
  have hw : w_W G M z1 s H locs := hw
  refine lv_aload_n hx hb dX12_isSign_4 rfl (lv_at hl 0 rfl) ?_
  refine rx_getI E hw on kF_R_79_11 (by decide) dX12_isSign_5 ?_
  refine lv_aload_n hx hb dX12_isSign_8 rfl (lv_at hl 0 rfl) ?_
  refine rx_getI E hw on kF_R_82_11 (by decide) dX12_isSign_9 ?_
  refine cx_icmp_ge (tgt := 31) E dX12_isSign_12 (by decide) (fun _ => ?_) (fun _ => ?_)
  · refine lv_iconst (v := 0) hx hb dX12_isSign_31 (by decide) ?_
    exact p_zret E hw hr (by decide) (Nat.le_of_ble_eq_true rfl) (Nat.le_of_ble_eq_true rfl) rfl dX12_isSign_32
  · refine lv_aload_n hx hb dX12_isSign_15 rfl (lv_at hl 0 rfl) ?_
    refine lv_aload_n hx hb dX12_isSign_16 rfl (lv_at hl 0 rfl) ?_
    refine rx_getI E hw on kF_R_79_11 (by decide) dX12_isSign_17 ?_
    refine W_bind fun z2 hz => ?_
    refine w_after (cells1 := 0) (slots1 := 0) (w_runV E kV_R_85 kc_X12_letter (t_R_letter l hfl G on (z1.1 11) M z1 ((fun z => (.inl (some (.int z)), M, z1)) z2) (by rw [hz]; rfl)) ⟨Nat.le_of_ble_eq_true rfl, Nat.le_of_ble_eq_true rfl⟩ hw (w_recvR E hw on) rfl hl.1 rfl (Nat.le_of_ble_eq_true rfl) dX12_isSign_20 ⟨Nat.le_of_ble_eq_true rfl, Nat.le_of_ble_eq_true rfl⟩) hw rfl (Nat.le_of_ble_eq_true rfl) (Nat.le_of_ble_eq_true rfl) (fun H locs hw => ?_)
    refine W.eq (g2 := F0 m 23 ls [.int z2]) rfl ?_
    have hw : w_W G M z1 s H locs := hw
    refine lv_iload_n hx hb dX12_isSign_23 rfl (lv_at hl 1 rfl) ?_
    refine cx_icmp_ne (tgt := 31) E dX12_isSign_24 (by decide) (fun _ => ?_) (fun _ => ?_)
    · refine lv_iconst (v := 0) hx hb dX12_isSign_31 (by decide) ?_
      exact p_zret E hw hr (by decide) (Nat.le_of_ble_eq_true rfl) (Nat.le_of_ble_eq_true rfl) rfl dX12_isSign_32
    · refine lv_iconst (v := 1) hx hb dX12_isSign_27 (by decide) ?_
      refine lv_goto (tgt := 32) hx hb dX12_isSign_28 (by decide) ?_
      exact p_zret E hw hr (by decide) (Nat.le_of_ble_eq_true rfl) (Nat.le_of_ble_eq_true rfl) rfl dX12_isSign_32
def f_R_read_106 (N : Nat) (a0 : Int32) (k23 : Int32 → Int32 → Rho → Option (Int32 × Rho)) (x3 : Int32) (r : Rho) : Option (Int32 × Rho) :=
  k23 0 x3 r
def f_R_read_80 (N : Nat) (a0 : Int32) (k23 : Int32 → Int32 → Rho → Option (Int32 × Rho)) (x2 : Int32) (x3 : Int32) (r : Rho) : Option (Int32 × Rho) :=
  (f_R_skip N r).bind fun z6 => if (z6.1 12) = (-1) then (if (z6.1 11) = (z6.1 10) then (f_R_read_106 N a0 k23 (x3 + 1) z6) else ((f_R_isSign N 59 z6).bind fun z7 => if z7.1 = 0 then ((f_R_wrong (z7.2.1 11) z7.2).bind fun z8 => k23 x2 (x3 + 1) z8) else (k23 x2 (x3 + 1) (r_set z7.2 11 ((z7.2.1 11) + 1))))) else (f_R_read_106 N a0 k23 (x3 + 1) z6)
def f_R_read_51 (N : Nat) (a0 : Int32) (k23 : Int32 → Int32 → Rho → Option (Int32 × Rho)) (x2 : Int32) (x3 : Int32) (y0 : Int32) (y1 : Int32) (r : Rho) : Option (Int32 × Rho) :=
  if y0 = y1 then ((f_R_wrong (r.1 11) r).bind fun z5 => f_R_read_80 N a0 k23 x2 x3 z5) else (if a0 = 0 then ((f_R_townLine N r).bind fun z3 => f_R_read_80 N a0 k23 x2 x3 z3) else ((f_R_lawLine N r).bind fun z4 => f_R_read_80 N a0 k23 x2 x3 z4))
def f_R_read_23 (N : Nat) (a0 : Int32) : Nat → Int32 → Int32 → Rho → Option (Int32 × Rho)
  | 0, _, _, _ => none
  | n + 1, x2, x3, r => if x2 = 0 then (some (x3, r)) else (if (r.1 12) = (-1) then ((f_R_skip N r).bind fun z2 => if a0 = 0 then (f_R_read_51 N a0 (f_R_read_23 N a0 n) x2 x3 x3 14 z2) else (f_R_read_51 N a0 (f_R_read_23 N a0 n) x2 x3 x3 12 z2)) else (some (x3, r)))
def f_R_read_20 (N : Nat) (a0 : Int32) (y0 : Int32) (r : Rho) : Option (Int32 × Rho) :=
  f_R_read_23 N a0 N y0 0 r
def f_R_read (N : Nat) (a0 : Int32) (r : Rho) : Option (Int32 × Rho) :=
  (f_R_skip N r).bind fun z1 => if (z1.1 10) ≤ (z1.1 11) then (f_R_read_20 N a0 0 z1) else (f_R_read_20 N a0 1 z1)
abbrev rm_R_read : Room := { frames := 184, cells := 0, slots := 0, locals := 7164 }
set_option maxHeartbeats 4000000 in
set_option maxRecDepth 100000 in
theorem t_R_read (l : Launch) (hfl : l.stackTraces = false) (G : wG) (on : g_on G = true) (N : Nat) (a0 : Int32) (M : Mem) (r : Rho) : Ctr l yX12_read (wWs yX12_read cX12_read 4 (some .int)) rm_R_read rm_R_read.cells rm_R_read.slots G [.ref (g_r G), .int a0] M r ((f_R_read N a0 r).map (fun z => (.inl (some (.int z.1)), M, z.2))) := by
  refine Ctr.ofF (own := "CheekTownModel") (by decide +kernel) hfl rfl (Nat.le_of_ble_eq_true rfl) (fun p e s m args below meth c E hno hr hnm hw ls hl => ?_)
  obtain ⟨hx, hb, hts, hown, hml, hTT, -⟩ := id E
  have hl : lv_has ls 4 [(0, .ref (g_r G)), (1, .int a0)] := hl
  obtain ⟨H, hH⟩ : ∃ H, H = s.heap := ⟨_, rfl⟩
  obtain ⟨locs, hlo⟩ : ∃ L : List Loc, L = [] := ⟨_, rfl⟩
  rw [← hH, ← hlo]
  rw [← hlo] at hw
  replace hw : w_W G M r s H locs := by rw [hH]; exact hw
  have w106 : ∀ (k23 : Int32 → Int32 → Rho → Option (Int32 × Rho)) (hk23 : ∀ (x2 : Int32) (x3 : Int32) (r : Rho) (H : Heap) (locs : List Loc) (ls : Array Slot), w_W G M r s H locs → lv_has ls 4 [(0, .ref (g_r G)), (1, .int a0), (2, .int x2), (3, .int x3)] → W p l e rm_R_read s m args below meth c H locs 0 0 (PQ G below args s rm_R_read.cells rm_R_read.slots (fun z => (.inl (some (.int z.1)), M, z.2)) (k23 x2 x3 r)) (F0 m 23 ls [])) (x3 : Int32) (r : Rho) (H : Heap) (locs : List Loc) (ls : Array Slot), w_W G M r s H locs → lv_has ls 4 [(0, .ref (g_r G)), (1, .int a0), (3, .int x3)] → W p l e rm_R_read s m args below meth c H locs 0 0 (PQ G below args s rm_R_read.cells rm_R_read.slots (fun z => (.inl (some (.int z.1)), M, z.2)) (f_R_read_106 N a0 k23 x3 r)) (F0 m 106 ls []) := by
    intro k23 hk23 x3 r H locs ls hw hl
    unfold f_R_read_106
    refine lv_iconst (v := 0) hx hb dX12_read_106 (by decide) ?_
    refine lv_istore_n (lv' := [(2, .int 0), (0, .ref (g_r G)), (1, .int a0), (3, .int x3)]) hx hb dX12_read_107 rfl hl (by decide) rfl (fun ls hl => ?_)
    refine lv_goto (tgt := 23) hx hb dX12_read_108 (by decide) ?_
    exact hk23 0 x3 r _ _ _ hw (lv_sub hl [1, 2, 0, 3] rfl)
  have w80 : ∀ (k23 : Int32 → Int32 → Rho → Option (Int32 × Rho)) (hk23 : ∀ (x2 : Int32) (x3 : Int32) (r : Rho) (H : Heap) (locs : List Loc) (ls : Array Slot), w_W G M r s H locs → lv_has ls 4 [(0, .ref (g_r G)), (1, .int a0), (2, .int x2), (3, .int x3)] → W p l e rm_R_read s m args below meth c H locs 0 0 (PQ G below args s rm_R_read.cells rm_R_read.slots (fun z => (.inl (some (.int z.1)), M, z.2)) (k23 x2 x3 r)) (F0 m 23 ls [])) (x2 : Int32) (x3 : Int32) (r : Rho) (H : Heap) (locs : List Loc) (ls : Array Slot), w_W G M r s H locs → lv_has ls 4 [(0, .ref (g_r G)), (1, .int a0), (2, .int x2), (3, .int x3)] → W p l e rm_R_read s m args below meth c H locs 0 0 (PQ G below args s rm_R_read.cells rm_R_read.slots (fun z => (.inl (some (.int z.1)), M, z.2)) (f_R_read_80 N a0 k23 x2 x3 r)) (F0 m 80 ls []) := by
    intro k23 hk23 x2 x3 r H locs ls hw hl
    unfold f_R_read_80
    refine lv_iinc (v := x3 + 1) (lv' := [(3, .int (x3 + 1)), (0, .ref (g_r G)), (1, .int a0), (2, .int x2)]) hx hb dX12_read_80 hl (k := 3) rfl rfl (by decide) rfl (fun ls hl => ?_)
    refine lv_aload_n hx hb dX12_read_83 rfl (lv_at hl 1 rfl) ?_
    refine W_bind fun z6 hz => ?_
    refine w_after (cells1 := 0) (slots1 := 0) (w_runV E kV_R_88 kc_X12_skip (t_R_skip l hfl G on N M r ((fun z => (.inl none, M, z)) z6) (by rw [hz]; rfl)) ⟨Nat.le_of_ble_eq_true rfl, Nat.le_of_ble_eq_true rfl⟩ hw (w_recvR E hw on) rfl hl.1 rfl (Nat.le_of_ble_eq_true rfl) dX12_read_84 ⟨Nat.le_of_ble_eq_true rfl, Nat.le_of_ble_eq_true rfl⟩) hw rfl (Nat.le_of_ble_eq_true rfl) (Nat.le_of_ble_eq_true rfl) (fun H locs hw => ?_)
    refine W.eq (g2 := F0 m 87 ls []) rfl ?_
    have hw : w_W G M z6 s H locs := hw
    refine lv_aload_n hx hb dX12_read_87 rfl (lv_at hl 1 rfl) ?_
    refine rx_getI E hw on kF_R_25_11 (by decide) dX12_read_88 ?_
    refine lv_iconst (v := (-1)) hx hb dX12_read_91 (by decide) ?_
    refine cx_icmp_ne (tgt := 106) E dX12_read_92 (by decide) (fun _ => ?_) (fun _ => ?_)
    · exact w106 k23 hk23 (x3 + 1) z6 _ _ _ hw (lv_sub hl [1, 2, 0] rfl)
    · refine lv_aload_n hx hb dX12_read_95 rfl (lv_at hl 1 rfl) ?_
      refine rx_getI E hw on kF_R_79_11 (by decide) dX12_read_96 ?_
      refine lv_aload_n hx hb dX12_read_99 rfl (lv_at hl 1 rfl) ?_
      refine rx_getI E hw on kF_R_82_11 (by decide) dX12_read_100 ?_
      refine cx_icmp_ne (tgt := 111) E dX12_read_103 (by decide) (fun _ => ?_) (fun _ => ?_)
      · refine lv_aload_n hx hb dX12_read_111 rfl (lv_at hl 1 rfl) ?_
        refine lv_bipush (v := 59) hx hb dX12_read_112 (by decide) ?_
        refine W_bind fun z7 hz => ?_
        refine w_after (cells1 := 0) (slots1 := 0) (w_runV E kV_R_193 kc_X12_isSign (t_R_isSign l hfl G on N 59 M z6 ((fun z => (.inl (some (.int z.1)), M, z.2)) z7) (by rw [hz]; rfl)) ⟨Nat.le_of_ble_eq_true rfl, Nat.le_of_ble_eq_true rfl⟩ hw (w_recvR E hw on) rfl hl.1 rfl (Nat.le_of_ble_eq_true rfl) dX12_read_114 ⟨Nat.le_of_ble_eq_true rfl, Nat.le_of_ble_eq_true rfl⟩) hw rfl (Nat.le_of_ble_eq_true rfl) (Nat.le_of_ble_eq_true rfl) (fun H locs hw => ?_)
        refine W.eq (g2 := F0 m 117 ls [.int z7.1]) rfl ?_
        have hw : w_W G M z7.2 s H locs := hw
        refine cx_if_eq (tgt := 133) E dX12_read_117 (by decide) (fun _ => ?_) (fun _ => ?_)
        · refine lv_aload_n hx hb dX12_read_133 rfl (lv_at hl 1 rfl) ?_
          refine lv_aload_n hx hb dX12_read_134 rfl (lv_at hl 1 rfl) ?_
          refine rx_getI E hw on kF_R_79_11 (by decide) dX12_read_135 ?_
          refine W_bind fun z8 hz => ?_
          refine w_after (cells1 := 0) (slots1 := 0) (w_runV E kV_R_105 kc_X12_wrong (t_R_wrong l hfl G on (z7.2.1 11) M z7.2 ((fun z => (.inl none, M, z)) z8) (by rw [hz]; rfl)) ⟨Nat.le_of_ble_eq_true rfl, Nat.le_of_ble_eq_true rfl⟩ hw (w_recvR E hw on) rfl hl.1 rfl (Nat.le_of_ble_eq_true rfl) dX12_read_138 ⟨Nat.le_of_ble_eq_true rfl, Nat.le_of_ble_eq_true rfl⟩) hw rfl (Nat.le_of_ble_eq_true rfl) (Nat.le_of_ble_eq_true rfl) (fun H locs hw => ?_)
          refine W.eq (g2 := F0 m 141 ls []) rfl ?_
          have hw : w_W G M z8 s H locs := hw
          refine lv_goto (tgt := 23) hx hb dX12_read_141 (by decide) ?_
          exact hk23 x2 (x3 + 1) z8 _ _ _ hw (lv_sub hl [1, 2, 3, 0] rfl)
        · refine lv_aload_n hx hb dX12_read_120 rfl (lv_at hl 1 rfl) ?_
          refine lv_dup hx hb dX12_read_121 rfl ?_
          refine rx_getI E hw on kF_R_79_11 (by decide) dX12_read_122 ?_
          refine lv_iconst (v := 1) hx hb dX12_read_125 (by decide) ?_
          refine lv_iadd hx hb dX12_read_126 ?_
          refine rx_putI E hw on kF_R_79_11 (by decide) kT_11_11 dX12_read_127 (fun H locs hw => ?_)
          refine lv_goto (tgt := 23) hx hb dX12_read_130 (by decide) ?_
          exact hk23 x2 (x3 + 1) (r_set z7.2 11 ((z7.2.1 11) + 1)) _ _ _ hw (lv_sub hl [1, 2, 3, 0] rfl)
      · exact w106 k23 hk23 (x3 + 1) z6 _ _ _ hw (lv_sub hl [1, 2, 0] rfl)
  have w51 : ∀ (k23 : Int32 → Int32 → Rho → Option (Int32 × Rho)) (hk23 : ∀ (x2 : Int32) (x3 : Int32) (r : Rho) (H : Heap) (locs : List Loc) (ls : Array Slot), w_W G M r s H locs → lv_has ls 4 [(0, .ref (g_r G)), (1, .int a0), (2, .int x2), (3, .int x3)] → W p l e rm_R_read s m args below meth c H locs 0 0 (PQ G below args s rm_R_read.cells rm_R_read.slots (fun z => (.inl (some (.int z.1)), M, z.2)) (k23 x2 x3 r)) (F0 m 23 ls [])) (x2 : Int32) (x3 : Int32) (y0 : Int32) (y1 : Int32) (r : Rho) (H : Heap) (locs : List Loc) (ls : Array Slot), w_W G M r s H locs → lv_has ls 4 [(0, .ref (g_r G)), (1, .int a0), (2, .int x2), (3, .int x3)] → W p l e rm_R_read s m args below meth c H locs 0 0 (PQ G below args s rm_R_read.cells rm_R_read.slots (fun z => (.inl (some (.int z.1)), M, z.2)) (f_R_read_51 N a0 k23 x2 x3 y0 y1 r)) (F0 m 51 ls [.int y1, .int y0]) := by
    intro k23 hk23 x2 x3 y0 y1 r H locs ls hw hl
    unfold f_R_read_51
    refine cx_icmp_ne (tgt := 65) E dX12_read_51 (by decide) (fun _ => ?_) (fun _ => ?_)
    · refine lv_iload_n hx hb dX12_read_65 rfl (lv_at hl 1 rfl) ?_
      refine cx_if_eq (tgt := 76) E dX12_read_66 (by decide) (fun _ => ?_) (fun _ => ?_)
      · refine lv_aload_n hx hb dX12_read_76 rfl (lv_at hl 0 rfl) ?_
        refine W_bind fun z3 hz => ?_
        refine w_after (cells1 := 0) (slots1 := 0) (w_runV E kV_R_190 kc_X12_townLine (t_R_townLine l hfl G on N M r ((fun z => (.inl none, M, z)) z3) (by rw [hz]; rfl)) ⟨Nat.le_of_ble_eq_true rfl, Nat.le_of_ble_eq_true rfl⟩ hw (w_recvR E hw on) rfl hl.1 rfl (Nat.le_of_ble_eq_true rfl) dX12_read_77 ⟨Nat.le_of_ble_eq_true rfl, Nat.le_of_ble_eq_true rfl⟩) hw rfl (Nat.le_of_ble_eq_true rfl) (Nat.le_of_ble_eq_true rfl) (fun H locs hw => ?_)
        refine W.eq (g2 := F0 m 80 ls []) rfl ?_
        have hw : w_W G M z3 s H locs := hw
        exact w80 k23 hk23 x2 x3 z3 _ _ _ hw (lv_sub hl [0, 1, 2, 3] rfl)
      · refine lv_aload_n hx hb dX12_read_69 rfl (lv_at hl 0 rfl) ?_
        refine W_bind fun z4 hz => ?_
        refine w_after (cells1 := 0) (slots1 := 0) (w_runV E kV_R_187 kc_X12_lawLine (t_R_lawLine l hfl G on N M r ((fun z => (.inl none, M, z)) z4) (by rw [hz]; rfl)) ⟨Nat.le_of_ble_eq_true rfl, Nat.le_of_ble_eq_true rfl⟩ hw (w_recvR E hw on) rfl hl.1 rfl (Nat.le_of_ble_eq_true rfl) dX12_read_70 ⟨Nat.le_of_ble_eq_true rfl, Nat.le_of_ble_eq_true rfl⟩) hw rfl (Nat.le_of_ble_eq_true rfl) (Nat.le_of_ble_eq_true rfl) (fun H locs hw => ?_)
        refine W.eq (g2 := F0 m 73 ls []) rfl ?_
        have hw : w_W G M z4 s H locs := hw
        refine lv_goto (tgt := 80) hx hb dX12_read_73 (by decide) ?_
        exact w80 k23 hk23 x2 x3 z4 _ _ _ hw (lv_sub hl [0, 1, 2, 3] rfl)
    · refine lv_aload_n hx hb dX12_read_54 rfl (lv_at hl 0 rfl) ?_
      refine lv_aload_n hx hb dX12_read_55 rfl (lv_at hl 0 rfl) ?_
      refine rx_getI E hw on kF_R_79_11 (by decide) dX12_read_56 ?_
      refine W_bind fun z5 hz => ?_
      refine w_after (cells1 := 0) (slots1 := 0) (w_runV E kV_R_105 kc_X12_wrong (t_R_wrong l hfl G on (r.1 11) M r ((fun z => (.inl none, M, z)) z5) (by rw [hz]; rfl)) ⟨Nat.le_of_ble_eq_true rfl, Nat.le_of_ble_eq_true rfl⟩ hw (w_recvR E hw on) rfl hl.1 rfl (Nat.le_of_ble_eq_true rfl) dX12_read_59 ⟨Nat.le_of_ble_eq_true rfl, Nat.le_of_ble_eq_true rfl⟩) hw rfl (Nat.le_of_ble_eq_true rfl) (Nat.le_of_ble_eq_true rfl) (fun H locs hw => ?_)
      refine W.eq (g2 := F0 m 62 ls []) rfl ?_
      have hw : w_W G M z5 s H locs := hw
      refine lv_goto (tgt := 80) hx hb dX12_read_62 (by decide) ?_
      exact w80 k23 hk23 x2 x3 z5 _ _ _ hw (lv_sub hl [0, 1, 2, 3] rfl)
  have w23 : ∀ (n : Nat) (x2 : Int32) (x3 : Int32) (r : Rho) (H : Heap) (locs : List Loc) (ls : Array Slot), w_W G M r s H locs → lv_has ls 4 [(0, .ref (g_r G)), (1, .int a0), (2, .int x2), (3, .int x3)] → W p l e rm_R_read s m args below meth c H locs 0 0 (PQ G below args s rm_R_read.cells rm_R_read.slots (fun z => (.inl (some (.int z.1)), M, z.2)) (f_R_read_23 N a0 n x2 x3 r)) (F0 m 23 ls []) := by
    intro n
    induction n with
    | zero => intros; exact W_none
    | succ n ih =>
      intro x2 x3 r H locs ls hw hl
      rw [f_R_read_23]
      refine lv_iload_n hx hb dX12_read_23 rfl (lv_at hl 2 rfl) ?_
      refine cx_if_eq (tgt := 144) E dX12_read_24 (by decide) (fun _ => ?_) (fun _ => ?_)
      · refine lv_iload_n hx hb dX12_read_144 rfl (lv_at hl 3 rfl) ?_
        exact p_iret E hw hr (Nat.le_of_ble_eq_true rfl) (Nat.le_of_ble_eq_true rfl) rfl dX12_read_145
      · refine lv_aload_n hx hb dX12_read_27 rfl (lv_at hl 0 rfl) ?_
        refine rx_getI E hw on kF_R_25_11 (by decide) dX12_read_28 ?_
        refine lv_iconst (v := (-1)) hx hb dX12_read_31 (by decide) ?_
        refine cx_icmp_ne (tgt := 144) E dX12_read_32 (by decide) (fun _ => ?_) (fun _ => ?_)
        · refine lv_iload_n hx hb dX12_read_144 rfl (lv_at hl 3 rfl) ?_
          exact p_iret E hw hr (Nat.le_of_ble_eq_true rfl) (Nat.le_of_ble_eq_true rfl) rfl dX12_read_145
        · refine lv_aload_n hx hb dX12_read_35 rfl (lv_at hl 0 rfl) ?_
          refine W_bind fun z2 hz => ?_
          refine w_after (cells1 := 0) (slots1 := 0) (w_runV E kV_R_88 kc_X12_skip (t_R_skip l hfl G on N M r ((fun z => (.inl none, M, z)) z2) (by rw [hz]; rfl)) ⟨Nat.le_of_ble_eq_true rfl, Nat.le_of_ble_eq_true rfl⟩ hw (w_recvR E hw on) rfl hl.1 rfl (Nat.le_of_ble_eq_true rfl) dX12_read_36 ⟨Nat.le_of_ble_eq_true rfl, Nat.le_of_ble_eq_true rfl⟩) hw rfl (Nat.le_of_ble_eq_true rfl) (Nat.le_of_ble_eq_true rfl) (fun H locs hw => ?_)
          refine W.eq (g2 := F0 m 39 ls []) rfl ?_
          have hw : w_W G M z2 s H locs := hw
          refine lv_iload_n hx hb dX12_read_39 rfl (lv_at hl 3 rfl) ?_
          refine lv_iload_n hx hb dX12_read_40 rfl (lv_at hl 1 rfl) ?_
          refine cx_if_eq (tgt := 49) E dX12_read_41 (by decide) (fun _ => ?_) (fun _ => ?_)
          · refine lv_bipush (v := 14) hx hb dX12_read_49 (by decide) ?_
            exact w51 (f_R_read_23 N a0 n) ih x2 x3 x3 14 z2 _ _ _ hw (lv_sub hl [0, 1, 2, 3] rfl)
          · refine lv_bipush (v := 12) hx hb dX12_read_44 (by decide) ?_
            refine lv_goto (tgt := 51) hx hb dX12_read_46 (by decide) ?_
            exact w51 (f_R_read_23 N a0 n) ih x2 x3 x3 12 z2 _ _ _ hw (lv_sub hl [0, 1, 2, 3] rfl)
  have w20 : ∀ (y0 : Int32) (r : Rho) (H : Heap) (locs : List Loc) (ls : Array Slot), w_W G M r s H locs → lv_has ls 4 [(0, .ref (g_r G)), (1, .int a0)] → W p l e rm_R_read s m args below meth c H locs 0 0 (PQ G below args s rm_R_read.cells rm_R_read.slots (fun z => (.inl (some (.int z.1)), M, z.2)) (f_R_read_20 N a0 y0 r)) (F0 m 20 ls [.int y0]) := by
    intro y0 r H locs ls hw hl
    unfold f_R_read_20
    refine lv_istore_n (lv' := [(2, .int y0), (0, .ref (g_r G)), (1, .int a0)]) hx hb dX12_read_20 rfl hl (by decide) rfl (fun ls hl => ?_)
    refine lv_iconst (v := 0) hx hb dX12_read_21 (by decide) ?_
    refine lv_istore_n (lv' := [(3, .int 0), (2, .int y0), (0, .ref (g_r G)), (1, .int a0)]) hx hb dX12_read_22 rfl hl (by decide) rfl (fun ls hl => ?_)
    exact w23  N y0 0 r _ _ _ hw (lv_sub hl [2, 3, 1, 0] rfl)
  unfold f_R_read
  refine lv_aload_n hx hb dX12_read_0 rfl (lv_at hl 0 rfl) ?_
  refine W_bind fun z1 hz => ?_
  refine w_after (cells1 := 0) (slots1 := 0) (w_runV E kV_R_88 kc_X12_skip (t_R_skip l hfl G on N M r ((fun z => (.inl none, M, z)) z1) (by rw [hz]; rfl)) ⟨Nat.le_of_ble_eq_true rfl, Nat.le_of_ble_eq_true rfl⟩ hw (w_recvR E hw on) rfl hl.1 rfl (Nat.le_of_ble_eq_true rfl) dX12_read_1 ⟨Nat.le_of_ble_eq_true rfl, Nat.le_of_ble_eq_true rfl⟩) hw rfl (Nat.le_of_ble_eq_true rfl) (Nat.le_of_ble_eq_true rfl) (fun H locs hw => ?_)
  refine W.eq (g2 := F0 m 4 ls []) rfl ?_
  have hw : w_W G M z1 s H locs := hw
  refine lv_aload_n hx hb dX12_read_4 rfl (lv_at hl 0 rfl) ?_
  refine rx_getI E hw on kF_R_79_11 (by decide) dX12_read_5 ?_
  refine lv_aload_n hx hb dX12_read_8 rfl (lv_at hl 0 rfl) ?_
  refine rx_getI E hw on kF_R_82_11 (by decide) dX12_read_9 ?_
  refine cx_icmp_ge (tgt := 19) E dX12_read_12 (by decide) (fun _ => ?_) (fun _ => ?_)
  · refine lv_iconst (v := 0) hx hb dX12_read_19 (by decide) ?_
    exact w20  0 z1 _ _ _ hw (lv_sub hl [0, 1] rfl)
  · refine lv_iconst (v := 1) hx hb dX12_read_15 (by decide) ?_
    refine lv_goto (tgt := 20) hx hb dX12_read_16 (by decide) ?_
    exact w20  1 z1 _ _ _ hw (lv_sub hl [0, 1] rfl)
def f_R_comesBack_2 (N : Nat) : Nat → Int32 → Rho → Option (Rho)
  | 0, _, _ => none
  | n + 1, x1, r => if 900 ≤ x1 then (some r) else ((rld r 4 x1).bind fun v1 => (rst r 1 x1 v1).bind fun r2 => f_R_comesBack_2 N n (x1 + 1) r2)
def f_R_comesBack (N : Nat) (r : Rho) : Option (Rho) :=
  f_R_comesBack_2 N N 0 r
abbrev rm_R_comesBack : Room := { frames := 0, cells := 0, slots := 0, locals := 0 }
set_option maxHeartbeats 4000000 in
set_option maxRecDepth 100000 in
theorem t_R_comesBack (l : Launch) (hfl : l.stackTraces = false) (G : wG) (on : g_on G = true) (N : Nat) (M : Mem) (r : Rho) : Ctr l yX12_comesBack (wWs yX12_comesBack cX12_comesBack 2 none) rm_R_comesBack rm_R_comesBack.cells rm_R_comesBack.slots G [.ref (g_r G)] M r ((f_R_comesBack N r).map (fun z => (.inl none, M, z))) := by
  refine Ctr.ofF (own := "CheekTownModel") (by decide +kernel) hfl rfl (Nat.le_of_ble_eq_true rfl) (fun p e s m args below meth c E hno hr hnm hw ls hl => ?_)
  obtain ⟨hx, hb, hts, hown, hml, hTT, -⟩ := id E
  have hl : lv_has ls 2 [(0, .ref (g_r G))] := hl
  obtain ⟨H, hH⟩ : ∃ H, H = s.heap := ⟨_, rfl⟩
  obtain ⟨locs, hlo⟩ : ∃ L : List Loc, L = [] := ⟨_, rfl⟩
  rw [← hH, ← hlo]
  rw [← hlo] at hw
  replace hw : w_W G M r s H locs := by rw [hH]; exact hw
  have w2 : ∀ (n : Nat) (x1 : Int32) (r : Rho) (H : Heap) (locs : List Loc) (ls : Array Slot), w_W G M r s H locs → lv_has ls 2 [(0, .ref (g_r G)), (1, .int x1)] → W p l e rm_R_comesBack s m args below meth c H locs 0 0 (PQ G below args s rm_R_comesBack.cells rm_R_comesBack.slots (fun z => (.inl none, M, z)) (f_R_comesBack_2 N n x1 r)) (F0 m 2 ls []) := by
    intro n
    induction n with
    | zero => intros; exact W_none
    | succ n ih =>
      intro x1 r H locs ls hw hl
      rw [f_R_comesBack_2]
      refine lv_iload_n hx hb dX12_comesBack_2 rfl (lv_at hl 1 rfl) ?_
      refine lv_sipush (v := 900) hx hb dX12_comesBack_3 (by decide) ?_
      refine cx_icmp_ge (tgt := 27) E dX12_comesBack_6 (by decide) (fun _ => ?_) (fun _ => ?_)
      · exact p_vret E hw hr (Nat.le_of_ble_eq_true rfl) (Nat.le_of_ble_eq_true rfl) rfl dX12_comesBack_27
      · refine lv_aload_n hx hb dX12_comesBack_9 rfl (lv_at hl 0 rfl) ?_
        refine rx_getA E hw on kF_R_7_11 (by decide) dX12_comesBack_10 ?_
        refine lv_iload_n hx hb dX12_comesBack_13 rfl (lv_at hl 1 rfl) ?_
        refine lv_aload_n hx hb dX12_comesBack_14 rfl (lv_at hl 0 rfl) ?_
        refine rx_getA E hw on kF_R_16_11 (by decide) dX12_comesBack_15 ?_
        refine lv_iload_n hx hb dX12_comesBack_18 rfl (lv_at hl 1 rfl) ?_
        refine rx_iald E hw on (by decide) dX12_comesBack_19 (fun v1 => ?_)
        refine rx_iast E hw on (by decide) dX12_comesBack_20 (fun r2 H locs hw => ?_)
        refine lv_iinc (v := x1 + 1) (lv' := [(1, .int (x1 + 1)), (0, .ref (g_r G))]) hx hb dX12_comesBack_21 hl (k := 1) rfl rfl (by decide) rfl (fun ls hl => ?_)
        refine lv_goto (tgt := 2) hx hb dX12_comesBack_24 (by decide) ?_
        exact ih (x1 + 1) r2 _ _ _ hw (lv_sub hl [1, 0] rfl)
  unfold f_R_comesBack
  refine lv_iconst (v := 0) hx hb dX12_comesBack_0 (by decide) ?_
  refine lv_istore_n (lv' := [(1, .int 0), (0, .ref (g_r G))]) hx hb dX12_comesBack_1 rfl hl (by decide) rfl (fun ls hl => ?_)
  exact w2  N 0 r _ _ _ hw (lv_sub hl [1, 0] rfl)
