set_option maxHeartbeats 4000000 in
set_option maxRecDepth 100000 in
theorem t_Town_drawBelow100 (l : Launch) (hfl : l.stackTraces = false) (G : wG) (this : Nat) (M : Mem) (r : Rho) : Ctr l yX8_drawBelow100 (wWs yX8_drawBelow100 cX8_drawBelow100 1 (some .int)) rm_Town_drawBelow100 rm_Town_drawBelow100.cells rm_Town_drawBelow100.slots G [.ref this] M r ((f_Town_drawBelow100 this M).map (fun z => (.inl (some (.int z.1)), z.2, r))) := by
  refine Ctr.ofF (own := "CheekTown$Town") (by decide +kernel) hfl rfl (Nat.le_of_ble_eq_true rfl) (fun p e s m args below meth c E hno hr hnm hw ls hl => ?_)
  obtain ⟨hx, hb, hts, hown, hml, hTT, -⟩ := id E
  have hl : lv_has ls 1 [(0, .ref this)] := hl
  obtain ⟨H, hH⟩ : ∃ H, H = s.heap := ⟨_, rfl⟩
  obtain ⟨locs, hlo⟩ : ∃ L : List Loc, L = [] := ⟨_, rfl⟩
  rw [← hH, ← hlo]
  rw [← hlo] at hw
  replace hw : w_W G M r s H locs := by rw [hH]; exact hw
  unfold f_Town_drawBelow100
  refine lv_aload_n hx hb dX8_drawBelow100_0 rfl (lv_at hl 0 rfl) ?_
  refine lv_ldc hx hb hown (hts _ kC_Town_174) dX8_drawBelow100_1 ?_
  refine lv_aload_n hx hb dX8_drawBelow100_3 rfl (lv_at hl 0 rfl) ?_
  refine gx_getI E hw kF_Town_31_7 (by decide) dX8_drawBelow100_4 (fun v1 _ => ?_)
  refine lv_imul hx hb dX8_drawBelow100_7 ?_
  refine lv_sipush (v := 12345) hx hb dX8_drawBelow100_8 (by decide) ?_
  refine lv_iadd hx hb dX8_drawBelow100_11 ?_
  refine gx_putI E hw kF_Town_31_7 kT_7_8 (by decide) dX8_drawBelow100_12 (fun M2 H locs _ hw => ?_)
  refine lv_aload_n hx hb dX8_drawBelow100_15 rfl (lv_at hl 0 rfl) ?_
  refine gx_getI E hw kF_Town_31_7 (by decide) dX8_drawBelow100_16 (fun v3 _ => ?_)
  refine lv_bipush (v := 16) hx hb dX8_drawBelow100_19 (by decide) ?_
  refine lv_iushr (v := ushr v3 16) hx hb dX8_drawBelow100_21 rfl ?_
  refine lv_sipush (v := 32767) hx hb dX8_drawBelow100_22 (by decide) ?_
  refine lv_iand hx hb dX8_drawBelow100_25 ?_
  refine lv_bipush (v := 100) hx hb dX8_drawBelow100_26 (by decide) ?_
  refine lv_irem hx hb dX8_drawBelow100_28 (by decide) ?_
  exact p_iret E hw hr (Nat.le_of_ble_eq_true rfl) (Nat.le_of_ble_eq_true rfl) rfl dX8_drawBelow100_29
set_option maxHeartbeats 4000000 in
set_option maxRecDepth 100000 in
theorem t_Town_whoYields (l : Launch) (hfl : l.stackTraces = false) (G : wG) (this : Nat) (a0 : Int32) (a1 : Int32) (M : Mem) (r : Rho) : Ctr l yX8_whoYields (wWs yX8_whoYields cX8_whoYields 5 (some .int)) rm_Town_whoYields rm_Town_whoYields.cells rm_Town_whoYields.slots G [.ref this, .int a0, .int a1] M r ((f_Town_whoYields this a0 a1 M).map (fun z => (.inl (some (.int z.1)), z.2, r))) := by
  refine Ctr.ofF (own := "CheekTown$Town") (by decide +kernel) hfl rfl (Nat.le_of_ble_eq_true rfl) (fun p e s m args below meth c E hno hr hnm hw ls hl => ?_)
  obtain ⟨hx, hb, hts, hown, hml, hTT, -⟩ := id E
  have hl : lv_has ls 5 [(0, .ref this), (1, .int a0), (2, .int a1)] := hl
  obtain ⟨H, hH⟩ : ∃ H, H = s.heap := ⟨_, rfl⟩
  obtain ⟨locs, hlo⟩ : ∃ L : List Loc, L = [] := ⟨_, rfl⟩
  rw [← hH, ← hlo]
  rw [← hlo] at hw
  replace hw : w_W G M r s H locs := by rw [hH]; exact hw
  have w26 : ∀ (y0 : Int32) (M : Mem) (H : Heap) (locs : List Loc) (ls : Array Slot), w_W G M r s H locs → lv_has ls 5 [(0, .ref this), (1, .int a0), (2, .int a1)] → W p l e rm_Town_whoYields s m args below meth c H locs 0 0 (PQ G below args s rm_Town_whoYields.cells rm_Town_whoYields.slots (fun z => (.inl (some (.int z.1)), z.2, r)) (f_Town_whoYields_26 this a0 a1 y0 M)) (F0 m 26 ls [.int y0]) := by
    intro y0 M H locs ls hw hl
    unfold f_Town_whoYields_26
    refine lv_istore_n (lv' := [(3, .int y0), (0, .ref this), (1, .int a0), (2, .int a1)]) hx hb dX8_whoYields_26 rfl hl (by decide) rfl (fun ls hl => ?_)
    refine lv_iload_n hx hb dX8_whoYields_27 rfl (lv_at hl 2 rfl) ?_
    refine lv_iload_n hx hb dX8_whoYields_28 rfl (lv_at hl 3 rfl) ?_
    refine lv_iadd hx hb dX8_whoYields_29 ?_
    refine lv_iload_n hx hb dX8_whoYields_30 rfl (lv_at hl 0 rfl) ?_
    refine lv_isub hx hb dX8_whoYields_31 ?_
    refine lv_istore (lv' := [(4, .int ((a0 + a1) - y0)), (3, .int y0), (0, .ref this), (1, .int a0), (2, .int a1)]) hx hb dX8_whoYields_32 hl (by decide) rfl (fun ls hl => ?_)
    refine lv_aload_n hx hb dX8_whoYields_34 rfl (lv_at hl 2 rfl) ?_
    refine W_bind fun _ hck => ?_
    refine W_bind fun z7 hz => ?_
    refine w_after (cells1 := 0) (slots1 := 0) (w_runV E kV_Town_170 kc_X8_drawBelow100 (t_Town_drawBelow100 l hfl G this M r ((fun z => (.inl (some (.int z.1)), z.2, r)) z7) (by rw [hz]; rfl)) ⟨Nat.le_of_ble_eq_true rfl, Nat.le_of_ble_eq_true rfl⟩ hw (w_recv E hw (by decide) ⟨_, _, rfl⟩ (ck_ok hck)) rfl hl.1 rfl (Nat.le_of_ble_eq_true rfl) dX8_whoYields_35 ⟨Nat.le_of_ble_eq_true rfl, Nat.le_of_ble_eq_true rfl⟩) hw rfl (Nat.le_of_ble_eq_true rfl) (Nat.le_of_ble_eq_true rfl) (fun H locs hw => ?_)
    refine W.eq (g2 := F0 m 38 ls [.int z7.1]) rfl ?_
    have hw : w_W G z7.2 r s H locs := hw
    refine lv_aload_n hx hb dX8_whoYields_38 rfl (lv_at hl 2 rfl) ?_
    refine gx_getR E hw kF_Town_20_7 (by decide) dX8_whoYields_39 (fun v8 _ => ?_)
    refine lv_iload_n hx hb dX8_whoYields_42 rfl (lv_at hl 1 rfl) ?_
    refine gx_aald E hw (by decide) dX8_whoYields_43 (fun v9 _ => ?_)
    refine gx_getI E hw kF_Town_96_5 (by decide) dX8_whoYields_44 (fun v10 _ => ?_)
    refine cx_icmp_ge (tgt := 52) E dX8_whoYields_47 (by decide) (fun _ => ?_) (fun _ => ?_)
    · refine lv_aload_n hx hb dX8_whoYields_52 rfl (lv_at hl 2 rfl) ?_
      refine W_bind fun _ hck => ?_
      refine W_bind fun z11 hz => ?_
      refine w_after (cells1 := 0) (slots1 := 0) (w_runV E kV_Town_170 kc_X8_drawBelow100 (t_Town_drawBelow100 l hfl G this z7.2 r ((fun z => (.inl (some (.int z.1)), z.2, r)) z11) (by rw [hz]; rfl)) ⟨Nat.le_of_ble_eq_true rfl, Nat.le_of_ble_eq_true rfl⟩ hw (w_recv E hw (by decide) ⟨_, _, rfl⟩ (ck_ok hck)) rfl hl.1 rfl (Nat.le_of_ble_eq_true rfl) dX8_whoYields_53 ⟨Nat.le_of_ble_eq_true rfl, Nat.le_of_ble_eq_true rfl⟩) hw rfl (Nat.le_of_ble_eq_true rfl) (Nat.le_of_ble_eq_true rfl) (fun H locs hw => ?_)
      refine W.eq (g2 := F0 m 56 ls [.int z11.1]) rfl ?_
      have hw : w_W G z11.2 r s H locs := hw
      refine lv_aload_n hx hb dX8_whoYields_56 rfl (lv_at hl 2 rfl) ?_
      refine gx_getR E hw kF_Town_20_7 (by decide) dX8_whoYields_57 (fun v12 _ => ?_)
      refine lv_iload hx hb dX8_whoYields_60 (lv_at hl 0 rfl) ?_
      refine gx_aald E hw (by decide) dX8_whoYields_62 (fun v13 _ => ?_)
      refine gx_getI E hw kF_Town_96_5 (by decide) dX8_whoYields_63 (fun v14 _ => ?_)
      refine cx_icmp_ge (tgt := 74) E dX8_whoYields_66 (by decide) (fun _ => ?_) (fun _ => ?_)
      · refine lv_iconst (v := (-1)) hx hb dX8_whoYields_74 (by decide) ?_
        exact p_iret E hw hr (Nat.le_of_ble_eq_true rfl) (Nat.le_of_ble_eq_true rfl) rfl dX8_whoYields_75
      · refine lv_iload hx hb dX8_whoYields_69 (lv_at hl 0 rfl) ?_
        refine lv_goto (tgt := 75) hx hb dX8_whoYields_71 (by decide) ?_
        exact p_iret E hw hr (Nat.le_of_ble_eq_true rfl) (Nat.le_of_ble_eq_true rfl) rfl dX8_whoYields_75
    · refine lv_iload_n hx hb dX8_whoYields_50 rfl (lv_at hl 1 rfl) ?_
      exact p_iret E hw hr (Nat.le_of_ble_eq_true rfl) (Nat.le_of_ble_eq_true rfl) rfl dX8_whoYields_51
  unfold f_Town_whoYields
  refine lv_aload_n hx hb dX8_whoYields_0 rfl (lv_at hl 0 rfl) ?_
  refine gx_getR E hw kF_Town_20_7 (by decide) dX8_whoYields_1 (fun v1 _ => ?_)
  refine lv_iload_n hx hb dX8_whoYields_4 rfl (lv_at hl 2 rfl) ?_
  refine gx_aald E hw (by decide) dX8_whoYields_5 (fun v2 _ => ?_)
  refine gx_getI E hw kF_Town_93_5 (by decide) dX8_whoYields_6 (fun v3 _ => ?_)
  refine lv_aload_n hx hb dX8_whoYields_9 rfl (lv_at hl 0 rfl) ?_
  refine gx_getR E hw kF_Town_20_7 (by decide) dX8_whoYields_10 (fun v4 _ => ?_)
  refine lv_iload_n hx hb dX8_whoYields_13 rfl (lv_at hl 1 rfl) ?_
  refine gx_aald E hw (by decide) dX8_whoYields_14 (fun v5 _ => ?_)
  refine gx_getI E hw kF_Town_93_5 (by decide) dX8_whoYields_15 (fun v6 _ => ?_)
  refine cx_icmp_ge (tgt := 25) E dX8_whoYields_18 (by decide) (fun _ => ?_) (fun _ => ?_)
  · refine lv_iload_n hx hb dX8_whoYields_25 rfl (lv_at hl 1 rfl) ?_
    exact w26  a0 M _ _ _ hw (lv_sub hl [0, 1, 2] rfl)
  · refine lv_iload_n hx hb dX8_whoYields_21 rfl (lv_at hl 2 rfl) ?_
    refine lv_goto (tgt := 26) hx hb dX8_whoYields_22 (by decide) ?_
    exact w26  a1 M _ _ _ hw (lv_sub hl [0, 1, 2] rfl)
set_option maxHeartbeats 4000000 in
set_option maxRecDepth 100000 in
theorem t_Log_openRow (l : Launch) (hfl : l.stackTraces = false) (G : wG) (this : Nat) (M : Mem) (r : Rho) : Ctr l yX3_openRow (wWs yX3_openRow cX3_openRow 1 none) rm_Log_openRow rm_Log_openRow.cells rm_Log_openRow.slots G [.ref this] M r ((f_Log_openRow this M).map (fun z => (.inl none, z, r))) := by
  refine Ctr.ofF (own := "CheekTown$Log") (by decide +kernel) hfl rfl (Nat.le_of_ble_eq_true rfl) (fun p e s m args below meth c E hno hr hnm hw ls hl => ?_)
  obtain ⟨hx, hb, hts, hown, hml, hTT, -⟩ := id E
  have hl : lv_has ls 1 [(0, .ref this)] := hl
  obtain ⟨H, hH⟩ : ∃ H, H = s.heap := ⟨_, rfl⟩
  obtain ⟨locs, hlo⟩ : ∃ L : List Loc, L = [] := ⟨_, rfl⟩
  rw [← hH, ← hlo]
  rw [← hlo] at hw
  replace hw : w_W G M r s H locs := by rw [hH]; exact hw
  unfold f_Log_openRow
  refine lv_aload_n hx hb dX3_openRow_0 rfl (lv_at hl 0 rfl) ?_
  refine lv_aload_n hx hb dX3_openRow_1 rfl (lv_at hl 0 rfl) ?_
  refine gx_getI E hw kF_Log_19_3 (by decide) dX3_openRow_2 (fun v1 _ => ?_)
  refine lv_iconst (v := 1) hx hb dX3_openRow_5 (by decide) ?_
  refine lv_iadd hx hb dX3_openRow_6 ?_
  refine lv_bipush (v := 60) hx hb dX3_openRow_7 (by decide) ?_
  refine lv_irem hx hb dX3_openRow_9 (by decide) ?_
  refine gx_putI E hw kF_Log_19_3 kT_3_1 (by decide) dX3_openRow_10 (fun M2 H locs _ hw => ?_)
  refine lv_aload_n hx hb dX3_openRow_13 rfl (lv_at hl 0 rfl) ?_
  refine lv_aload_n hx hb dX3_openRow_14 rfl (lv_at hl 0 rfl) ?_
  refine gx_getI E hw kF_Log_15_3 (by decide) dX3_openRow_15 (fun v3 _ => ?_)
  refine lv_iconst (v := 1) hx hb dX3_openRow_18 (by decide) ?_
  refine lv_iadd hx hb dX3_openRow_19 ?_
  refine lv_bipush (v := 60) hx hb dX3_openRow_20 (by decide) ?_
  refine W_bind fun z4 hz => ?_
  refine w_after (cells1 := 0) (slots1 := 0) (w_runS E kS_Log_28 kc_J9_min_7cf53 (t_Math_min l hfl G (v3 + 1) 60 M2 r ((fun z => (.inl (some (.int z)), M2, r)) z4) (by rw [hz]; rfl)) ⟨Nat.le_of_ble_eq_true rfl, Nat.le_of_ble_eq_true rfl⟩ hw rfl hl.1 rfl (Nat.le_of_ble_eq_true rfl) dX3_openRow_22 ⟨Nat.le_of_ble_eq_true rfl, Nat.le_of_ble_eq_true rfl⟩) hw rfl (Nat.le_of_ble_eq_true rfl) (Nat.le_of_ble_eq_true rfl) (fun H locs hw => ?_)
  refine W.eq (g2 := F0 m 25 ls [.int z4, .ref this]) rfl ?_
  have hw : w_W G M2 r s H locs := hw
  refine gx_putI E hw kF_Log_15_3 kT_3_0 (by decide) dX3_openRow_25 (fun M5 H locs _ hw => ?_)
  exact p_vret E hw hr (Nat.le_of_ble_eq_true rfl) (Nat.le_of_ble_eq_true rfl) rfl dX3_openRow_28
set_option maxHeartbeats 4000000 in
set_option maxRecDepth 100000 in
theorem t_Log_put (l : Launch) (hfl : l.stackTraces = false) (G : wG) (this : Nat) (a0 : Int32) (a1 : Int32) (M : Mem) (r : Rho) : Ctr l yX3_put (wWs yX3_put cX3_put 3 none) rm_Log_put rm_Log_put.cells rm_Log_put.slots G [.ref this, .int a0, .int a1] M r ((f_Log_put this a0 a1 M).map (fun z => (.inl none, z, r))) := by
  refine Ctr.ofF (own := "CheekTown$Log") (by decide +kernel) hfl rfl (Nat.le_of_ble_eq_true rfl) (fun p e s m args below meth c E hno hr hnm hw ls hl => ?_)
  obtain ⟨hx, hb, hts, hown, hml, hTT, -⟩ := id E
  have hl : lv_has ls 3 [(0, .ref this), (1, .int a0), (2, .int a1)] := hl
  obtain ⟨H, hH⟩ : ∃ H, H = s.heap := ⟨_, rfl⟩
  obtain ⟨locs, hlo⟩ : ∃ L : List Loc, L = [] := ⟨_, rfl⟩
  rw [← hH, ← hlo]
  rw [← hlo] at hw
  replace hw : w_W G M r s H locs := by rw [hH]; exact hw
  unfold f_Log_put
  refine lv_aload_n hx hb dX3_put_0 rfl (lv_at hl 0 rfl) ?_
  refine gx_getR E hw kF_Log_11_3 (by decide) dX3_put_1 (fun v1 _ => ?_)
  refine lv_aload_n hx hb dX3_put_4 rfl (lv_at hl 0 rfl) ?_
  refine gx_getI E hw kF_Log_19_3 (by decide) dX3_put_5 (fun v2 _ => ?_)
  refine lv_bipush (v := 8) hx hb dX3_put_8 (by decide) ?_
  refine lv_imul hx hb dX3_put_10 ?_
  refine lv_iload_n hx hb dX3_put_11 rfl (lv_at hl 1 rfl) ?_
  refine lv_iadd hx hb dX3_put_12 ?_
  refine lv_iload_n hx hb dX3_put_13 rfl (lv_at hl 2 rfl) ?_
  refine gx_iast E hw dX3_put_14 (fun M3 H locs _ hw => ?_)
  exact p_vret E hw hr (Nat.le_of_ble_eq_true rfl) (Nat.le_of_ble_eq_true rfl) rfl dX3_put_15
set_option maxHeartbeats 4000000 in
set_option maxRecDepth 100000 in
theorem t_Town_writeDown (l : Launch) (hfl : l.stackTraces = false) (G : wG) (this : Nat) (a0 : Int32) (a1 : Int32) (a2 : Int32) (M : Mem) (r : Rho) : Ctr l yX8_writeDown (wWs yX8_writeDown cX8_writeDown 4 none) rm_Town_writeDown rm_Town_writeDown.cells rm_Town_writeDown.slots G [.ref this, .int a0, .int a1, .int a2] M r ((f_Town_writeDown this a0 a1 a2 M).map (fun z => (.inl none, z, r))) := by
  refine Ctr.ofF (own := "CheekTown$Town") (by decide +kernel) hfl rfl (Nat.le_of_ble_eq_true rfl) (fun p e s m args below meth c E hno hr hnm hw ls hl => ?_)
  obtain ⟨hx, hb, hts, hown, hml, hTT, -⟩ := id E
  have hl : lv_has ls 4 [(0, .ref this), (1, .int a0), (2, .int a1), (3, .int a2)] := hl
  obtain ⟨H, hH⟩ : ∃ H, H = s.heap := ⟨_, rfl⟩
  obtain ⟨locs, hlo⟩ : ∃ L : List Loc, L = [] := ⟨_, rfl⟩
  rw [← hH, ← hlo]
  rw [← hlo] at hw
  replace hw : w_W G M r s H locs := by rw [hH]; exact hw
  unfold f_Town_writeDown
  refine lv_aload_n hx hb dX8_writeDown_0 rfl (lv_at hl 0 rfl) ?_
  refine lv_dup hx hb dX8_writeDown_1 rfl ?_
  refine gx_getI E hw kF_Town_72_7 (by decide) dX8_writeDown_2 (fun v1 _ => ?_)
  refine lv_iconst (v := 1) hx hb dX8_writeDown_5 (by decide) ?_
  refine lv_iadd hx hb dX8_writeDown_6 ?_
  refine gx_putI E hw kF_Town_72_7 kT_7_10 (by decide) dX8_writeDown_7 (fun M2 H locs _ hw => ?_)
  refine lv_aload_n hx hb dX8_writeDown_10 rfl (lv_at hl 0 rfl) ?_
  refine lv_dup hx hb dX8_writeDown_11 rfl ?_
  refine gx_getI E hw kF_Town_75_7 (by decide) dX8_writeDown_12 (fun v3 _ => ?_)
  refine lv_iload_n hx hb dX8_writeDown_15 rfl (lv_at hl 3 rfl) ?_
  refine lv_iadd hx hb dX8_writeDown_16 ?_
  refine gx_putI E hw kF_Town_75_7 kT_7_11 (by decide) dX8_writeDown_17 (fun M4 H locs _ hw => ?_)
  refine lv_aload_n hx hb dX8_writeDown_20 rfl (lv_at hl 0 rfl) ?_
  refine gx_getR E hw kF_Town_38_7 (by decide) dX8_writeDown_21 (fun v5 _ => ?_)
  refine W_bind fun _ hck => ?_
  refine W_bind fun z6 hz => ?_
  refine w_after (cells1 := 0) (slots1 := 0) (w_runV E kV_Town_164 kc_X3_openRow (t_Log_openRow l hfl G v5 M4 r ((fun z => (.inl none, z, r)) z6) (by rw [hz]; rfl)) ⟨Nat.le_of_ble_eq_true rfl, Nat.le_of_ble_eq_true rfl⟩ hw (w_recv E hw (by decide) ⟨_, _, rfl⟩ (ck_ok hck)) rfl hl.1 rfl (Nat.le_of_ble_eq_true rfl) dX8_writeDown_24 ⟨Nat.le_of_ble_eq_true rfl, Nat.le_of_ble_eq_true rfl⟩) hw rfl (Nat.le_of_ble_eq_true rfl) (Nat.le_of_ble_eq_true rfl) (fun H locs hw => ?_)
  refine W.eq (g2 := F0 m 27 ls []) rfl ?_
  have hw : w_W G z6 r s H locs := hw
  refine lv_aload_n hx hb dX8_writeDown_27 rfl (lv_at hl 0 rfl) ?_
  refine gx_getR E hw kF_Town_38_7 (by decide) dX8_writeDown_28 (fun v7 _ => ?_)
  refine lv_iconst (v := 0) hx hb dX8_writeDown_31 (by decide) ?_
  refine lv_aload_n hx hb dX8_writeDown_32 rfl (lv_at hl 0 rfl) ?_
  refine gx_getI E hw kF_Town_69_7 (by decide) dX8_writeDown_33 (fun v8 _ => ?_)
  refine W_bind fun _ hck => ?_
  refine W_bind fun z9 hz => ?_
  refine w_after (cells1 := 0) (slots1 := 0) (w_runV E kV_Town_149 kc_X3_put (t_Log_put l hfl G v7 0 v8 z6 r ((fun z => (.inl none, z, r)) z9) (by rw [hz]; rfl)) ⟨Nat.le_of_ble_eq_true rfl, Nat.le_of_ble_eq_true rfl⟩ hw (w_recv E hw (by decide) ⟨_, _, rfl⟩ (ck_ok hck)) rfl hl.1 rfl (Nat.le_of_ble_eq_true rfl) dX8_writeDown_36 ⟨Nat.le_of_ble_eq_true rfl, Nat.le_of_ble_eq_true rfl⟩) hw rfl (Nat.le_of_ble_eq_true rfl) (Nat.le_of_ble_eq_true rfl) (fun H locs hw => ?_)
  refine W.eq (g2 := F0 m 39 ls []) rfl ?_
  have hw : w_W G z9 r s H locs := hw
  refine lv_aload_n hx hb dX8_writeDown_39 rfl (lv_at hl 0 rfl) ?_
  refine gx_getR E hw kF_Town_38_7 (by decide) dX8_writeDown_40 (fun v10 _ => ?_)
  refine lv_iconst (v := 1) hx hb dX8_writeDown_43 (by decide) ?_
  refine lv_iload_n hx hb dX8_writeDown_44 rfl (lv_at hl 1 rfl) ?_
  refine W_bind fun _ hck => ?_
  refine W_bind fun z11 hz => ?_
  refine w_after (cells1 := 0) (slots1 := 0) (w_runV E kV_Town_149 kc_X3_put (t_Log_put l hfl G v10 1 a0 z9 r ((fun z => (.inl none, z, r)) z11) (by rw [hz]; rfl)) ⟨Nat.le_of_ble_eq_true rfl, Nat.le_of_ble_eq_true rfl⟩ hw (w_recv E hw (by decide) ⟨_, _, rfl⟩ (ck_ok hck)) rfl hl.1 rfl (Nat.le_of_ble_eq_true rfl) dX8_writeDown_45 ⟨Nat.le_of_ble_eq_true rfl, Nat.le_of_ble_eq_true rfl⟩) hw rfl (Nat.le_of_ble_eq_true rfl) (Nat.le_of_ble_eq_true rfl) (fun H locs hw => ?_)
  refine W.eq (g2 := F0 m 48 ls []) rfl ?_
  have hw : w_W G z11 r s H locs := hw
  refine lv_aload_n hx hb dX8_writeDown_48 rfl (lv_at hl 0 rfl) ?_
  refine gx_getR E hw kF_Town_38_7 (by decide) dX8_writeDown_49 (fun v12 _ => ?_)
  refine lv_iconst (v := 2) hx hb dX8_writeDown_52 (by decide) ?_
  refine lv_iload_n hx hb dX8_writeDown_53 rfl (lv_at hl 2 rfl) ?_
  refine W_bind fun _ hck => ?_
  refine W_bind fun z13 hz => ?_
  refine w_after (cells1 := 0) (slots1 := 0) (w_runV E kV_Town_149 kc_X3_put (t_Log_put l hfl G v12 2 a1 z11 r ((fun z => (.inl none, z, r)) z13) (by rw [hz]; rfl)) ⟨Nat.le_of_ble_eq_true rfl, Nat.le_of_ble_eq_true rfl⟩ hw (w_recv E hw (by decide) ⟨_, _, rfl⟩ (ck_ok hck)) rfl hl.1 rfl (Nat.le_of_ble_eq_true rfl) dX8_writeDown_54 ⟨Nat.le_of_ble_eq_true rfl, Nat.le_of_ble_eq_true rfl⟩) hw rfl (Nat.le_of_ble_eq_true rfl) (Nat.le_of_ble_eq_true rfl) (fun H locs hw => ?_)
  refine W.eq (g2 := F0 m 57 ls []) rfl ?_
  have hw : w_W G z13 r s H locs := hw
  refine lv_aload_n hx hb dX8_writeDown_57 rfl (lv_at hl 0 rfl) ?_
  refine gx_getR E hw kF_Town_38_7 (by decide) dX8_writeDown_58 (fun v14 _ => ?_)
  refine lv_bipush (v := 7) hx hb dX8_writeDown_61 (by decide) ?_
  refine lv_iload_n hx hb dX8_writeDown_63 rfl (lv_at hl 3 rfl) ?_
  refine W_bind fun _ hck => ?_
  refine W_bind fun z15 hz => ?_
  refine w_after (cells1 := 0) (slots1 := 0) (w_runV E kV_Town_149 kc_X3_put (t_Log_put l hfl G v14 7 a2 z13 r ((fun z => (.inl none, z, r)) z15) (by rw [hz]; rfl)) ⟨Nat.le_of_ble_eq_true rfl, Nat.le_of_ble_eq_true rfl⟩ hw (w_recv E hw (by decide) ⟨_, _, rfl⟩ (ck_ok hck)) rfl hl.1 rfl (Nat.le_of_ble_eq_true rfl) dX8_writeDown_64 ⟨Nat.le_of_ble_eq_true rfl, Nat.le_of_ble_eq_true rfl⟩) hw rfl (Nat.le_of_ble_eq_true rfl) (Nat.le_of_ble_eq_true rfl) (fun H locs hw => ?_)
  refine W.eq (g2 := F0 m 67 ls []) rfl ?_
  have hw : w_W G z15 r s H locs := hw
  exact p_vret E hw hr (Nat.le_of_ble_eq_true rfl) (Nat.le_of_ble_eq_true rfl) rfl dX8_writeDown_67
set_option maxHeartbeats 4000000 in
set_option maxRecDepth 100000 in
theorem t_Person_learn (l : Launch) (hfl : l.stackTraces = false) (G : wG) (this : Nat) (a0 : Int32) (a1 : Int32) (M : Mem) (r : Rho) : Ctr l yX5_learn (wWs yX5_learn cX5_learn 3 none) rm_Person_learn rm_Person_learn.cells rm_Person_learn.slots G [.ref this, .int a0, .int a1] M r ((f_Person_learn this a0 a1 M).map (fun z => (.inl none, z, r))) := by
  refine Ctr.ofF (own := "CheekTown$Person") (by decide +kernel) hfl rfl (Nat.le_of_ble_eq_true rfl) (fun p e s m args below meth c E hno hr hnm hw ls hl => ?_)
  obtain ⟨hx, hb, hts, hown, hml, hTT, -⟩ := id E
  have hl : lv_has ls 3 [(0, .ref this), (1, .int a0), (2, .int a1)] := hl
  obtain ⟨H, hH⟩ : ∃ H, H = s.heap := ⟨_, rfl⟩
  obtain ⟨locs, hlo⟩ : ∃ L : List Loc, L = [] := ⟨_, rfl⟩
  rw [← hH, ← hlo]
  rw [← hlo] at hw
  replace hw : w_W G M r s H locs := by rw [hH]; exact hw
  have w38 : ∀ (M : Mem) (H : Heap) (locs : List Loc) (ls : Array Slot), w_W G M r s H locs → lv_has ls 3 [(0, .ref this), (2, .int a1)] → W p l e rm_Person_learn s m args below meth c H locs 0 0 (PQ G below args s rm_Person_learn.cells rm_Person_learn.slots (fun z => (.inl none, z, r)) (f_Person_learn_38 this a0 a1 M)) (F0 m 38 ls []) := by
    intro M H locs ls hw hl
    unfold f_Person_learn_38
    refine lv_aload_n hx hb dX5_learn_38 rfl (lv_at hl 0 rfl) ?_
    refine lv_aload_n hx hb dX5_learn_39 rfl (lv_at hl 0 rfl) ?_
    refine gx_getI E hw kF_Person_9_5 (by decide) dX5_learn_40 (fun v9 _ => ?_)
    refine gx_putI E hw kF_Person_15_5 kT_5_7 (by decide) dX5_learn_43 (fun M10 H locs _ hw => ?_)
    refine lv_aload_n hx hb dX5_learn_46 rfl (lv_at hl 0 rfl) ?_
    refine lv_iload_n hx hb dX5_learn_47 rfl (lv_at hl 1 rfl) ?_
    refine gx_putI E hw kF_Person_9_5 kT_5_6 (by decide) dX5_learn_48 (fun M11 H locs _ hw => ?_)
    exact p_vret E hw hr (Nat.le_of_ble_eq_true rfl) (Nat.le_of_ble_eq_true rfl) rfl dX5_learn_51
  unfold f_Person_learn
  refine lv_aload_n hx hb dX5_learn_0 rfl (lv_at hl 0 rfl) ?_
  refine gx_getR E hw kF_Person_18_5 (by decide) dX5_learn_1 (fun v1 _ => ?_)
  refine lv_iload_n hx hb dX5_learn_4 rfl (lv_at hl 1 rfl) ?_
  refine lv_dup2_11 hx hb dX5_learn_5 rfl rfl ?_
  refine gx_iald E hw dX5_learn_6 (fun v2 _ => ?_)
  refine lv_iconst (v := 1) hx hb dX5_learn_7 (by decide) ?_
  refine lv_iadd hx hb dX5_learn_8 ?_
  refine gx_iast E hw dX5_learn_9 (fun M3 H locs _ hw => ?_)
  refine lv_aload_n hx hb dX5_learn_10 rfl (lv_at hl 0 rfl) ?_
  refine gx_getR E hw kF_Person_22_5 (by decide) dX5_learn_11 (fun v4 _ => ?_)
  refine lv_iload_n hx hb dX5_learn_14 rfl (lv_at hl 1 rfl) ?_
  refine lv_iload_n hx hb dX5_learn_15 rfl (lv_at hl 2 rfl) ?_
  refine gx_iast E hw dX5_learn_16 (fun M5 H locs _ hw => ?_)
  refine lv_iload_n hx hb dX5_learn_17 rfl (lv_at hl 2 rfl) ?_
  refine lv_aload_n hx hb dX5_learn_18 rfl (lv_at hl 0 rfl) ?_
  refine gx_getI E hw kF_Person_9_5 (by decide) dX5_learn_19 (fun v6 _ => ?_)
  refine cx_icmp_ne (tgt := 38) E dX5_learn_22 (by decide) (fun _ => ?_) (fun _ => ?_)
  · exact w38  M5 _ _ _ hw (lv_sub hl [0, 2] rfl)
  · refine lv_iload_n hx hb dX5_learn_25 rfl (lv_at hl 2 rfl) ?_
    refine lv_aload_n hx hb dX5_learn_26 rfl (lv_at hl 0 rfl) ?_
    refine gx_getI E hw kF_Person_15_5 (by decide) dX5_learn_27 (fun v7 _ => ?_)
    refine cx_icmp_ne (tgt := 38) E dX5_learn_30 (by decide) (fun _ => ?_) (fun _ => ?_)
    · exact w38  M5 _ _ _ hw (lv_sub hl [0, 2] rfl)
    · refine lv_aload_n hx hb dX5_learn_33 rfl (lv_at hl 0 rfl) ?_
      refine lv_iload_n hx hb dX5_learn_34 rfl (lv_at hl 2 rfl) ?_
      refine gx_putI E hw kF_Person_34_5 kT_5_1 (by decide) dX5_learn_35 (fun M8 H locs _ hw => ?_)
      exact w38  M8 _ _ _ hw (lv_sub hl [0, 2] rfl)
set_option maxHeartbeats 4000000 in
set_option maxRecDepth 100000 in
theorem t_Town_passColdOn (l : Launch) (hfl : l.stackTraces = false) (G : wG) (a0 : Nat) (a1 : Nat) (a2 : Int32) (a3 : Int32) (M : Mem) (r : Rho) : Ctr l yX8_passColdOn (wWs yX8_passColdOn cX8_passColdOn 5 none) rm_Town_passColdOn rm_Town_passColdOn.cells rm_Town_passColdOn.slots G [.ref a0, .ref a1, .int a2, .int a3] M r ((f_Town_passColdOn a0 a1 a2 a3 M).map (fun z => (.inl none, z, r))) := by
  refine Ctr.ofF (own := "CheekTown$Town") (by decide +kernel) hfl rfl (Nat.le_of_ble_eq_true rfl) (fun p e s m args below meth c E hno hr hnm hw ls hl => ?_)
  obtain ⟨hx, hb, hts, hown, hml, hTT, -⟩ := id E
  have hl : lv_has ls 5 [(0, .ref a0), (1, .ref a1), (2, .int a2), (3, .int a3)] := hl
  obtain ⟨H, hH⟩ : ∃ H, H = s.heap := ⟨_, rfl⟩
  obtain ⟨locs, hlo⟩ : ∃ L : List Loc, L = [] := ⟨_, rfl⟩
  rw [← hH, ← hlo]
  rw [← hlo] at hw
  replace hw : w_W G M r s H locs := by rw [hH]; exact hw
  have w40 : ∀ (M : Mem) (H : Heap) (locs : List Loc) (ls : Array Slot), w_W G M r s H locs → lv_has ls 5 [(0, .ref a0), (1, .ref a1)] → W p l e rm_Town_passColdOn s m args below meth c H locs 0 0 (PQ G below args s rm_Town_passColdOn.cells rm_Town_passColdOn.slots (fun z => (.inl none, z, r)) (f_Town_passColdOn_40 a0 a1 a2 a3 M)) (F0 m 40 ls []) := by
    intro M H locs ls hw hl
    unfold f_Town_passColdOn_40
    refine lv_aload_n hx hb dX8_passColdOn_40 rfl (lv_at hl 0 rfl) ?_
    refine lv_iconst (v := 1) hx hb dX8_passColdOn_41 (by decide) ?_
    refine gx_putZ E hw kF_Town_106_5 kT_5_4 (by decide) dX8_passColdOn_42 (fun M5 H locs _ hw => ?_)
    refine lv_aload_n hx hb dX8_passColdOn_45 rfl (lv_at hl 1 rfl) ?_
    refine lv_iconst (v := 1) hx hb dX8_passColdOn_46 (by decide) ?_
    refine gx_putZ E hw kF_Town_106_5 kT_5_4 (by decide) dX8_passColdOn_47 (fun M6 H locs _ hw => ?_)
    exact p_vret E hw hr (Nat.le_of_ble_eq_true rfl) (Nat.le_of_ble_eq_true rfl) rfl dX8_passColdOn_50
  have w19 : ∀ (y0 : Int32) (M : Mem) (H : Heap) (locs : List Loc) (ls : Array Slot), w_W G M r s H locs → lv_has ls 5 [(0, .ref a0), (1, .ref a1)] → W p l e rm_Town_passColdOn s m args below meth c H locs 0 0 (PQ G below args s rm_Town_passColdOn.cells rm_Town_passColdOn.slots (fun z => (.inl none, z, r)) (f_Town_passColdOn_19 a0 a1 a2 a3 y0 M)) (F0 m 19 ls [.int y0]) := by
    intro y0 M H locs ls hw hl
    unfold f_Town_passColdOn_19
    refine lv_istore (lv' := [(4, .int y0), (0, .ref a0), (1, .ref a1)]) hx hb dX8_passColdOn_19 hl (by decide) rfl (fun ls hl => ?_)
    refine lv_iload hx hb dX8_passColdOn_21 (lv_at hl 0 rfl) ?_
    refine cx_if_ne (tgt := 50) E dX8_passColdOn_23 (by decide) (fun _ => ?_) (fun _ => ?_)
    · exact p_vret E hw hr (Nat.le_of_ble_eq_true rfl) (Nat.le_of_ble_eq_true rfl) rfl dX8_passColdOn_50
    · refine lv_aload_n hx hb dX8_passColdOn_26 rfl (lv_at hl 1 rfl) ?_
      refine gx_getI E hw kF_Town_106_5 (by decide) dX8_passColdOn_27 (fun v3 _ => ?_)
      refine cx_if_ne (tgt := 40) E dX8_passColdOn_30 (by decide) (fun _ => ?_) (fun _ => ?_)
      · exact w40  M _ _ _ hw (lv_sub hl [1, 2] rfl)
      · refine lv_aload_n hx hb dX8_passColdOn_33 rfl (lv_at hl 2 rfl) ?_
        refine gx_getI E hw kF_Town_106_5 (by decide) dX8_passColdOn_34 (fun v4 _ => ?_)
        refine cx_if_eq (tgt := 50) E dX8_passColdOn_37 (by decide) (fun _ => ?_) (fun _ => ?_)
        · exact p_vret E hw hr (Nat.le_of_ble_eq_true rfl) (Nat.le_of_ble_eq_true rfl) rfl dX8_passColdOn_50
        · exact w40  M _ _ _ hw (lv_sub hl [1, 2] rfl)
  have w14 : ∀ (M : Mem) (H : Heap) (locs : List Loc) (ls : Array Slot), w_W G M r s H locs → lv_has ls 5 [(0, .ref a0), (1, .ref a1)] → W p l e rm_Town_passColdOn s m args below meth c H locs 0 0 (PQ G below args s rm_Town_passColdOn.cells rm_Town_passColdOn.slots (fun z => (.inl none, z, r)) (f_Town_passColdOn_14 a0 a1 a2 a3 M)) (F0 m 14 ls []) := by
    intro M H locs ls hw hl
    unfold f_Town_passColdOn_14
    refine lv_iconst (v := 1) hx hb dX8_passColdOn_14 (by decide) ?_
    refine lv_goto (tgt := 19) hx hb dX8_passColdOn_15 (by decide) ?_
    exact w19  1 M _ _ _ hw (lv_sub hl [0, 1] rfl)
  unfold f_Town_passColdOn
  refine lv_iload_n hx hb dX8_passColdOn_0 rfl (lv_at hl 2 rfl) ?_
  refine W_bind fun z1 hz => ?_
  refine w_after (cells1 := 0) (slots1 := 0) (w_runS E kS_Town_167 kc_X4_kindOf (t_Manners_kindOf l hfl G a2 M r ((fun z => (.inl (some (.int z)), M, r)) z1) (by rw [hz]; rfl)) ⟨Nat.le_of_ble_eq_true rfl, Nat.le_of_ble_eq_true rfl⟩ hw rfl hl.1 rfl (Nat.le_of_ble_eq_true rfl) dX8_passColdOn_1 ⟨Nat.le_of_ble_eq_true rfl, Nat.le_of_ble_eq_true rfl⟩) hw rfl (Nat.le_of_ble_eq_true rfl) (Nat.le_of_ble_eq_true rfl) (fun H locs hw => ?_)
  refine W.eq (g2 := F0 m 4 ls [.int z1]) rfl ?_
  have hw : w_W G M r s H locs := hw
  refine cx_if_eq (tgt := 14) E dX8_passColdOn_4 (by decide) (fun _ => ?_) (fun _ => ?_)
  · exact w14  M _ _ _ hw (lv_sub hl [0, 1] rfl)
  · refine lv_iload_n hx hb dX8_passColdOn_7 rfl (lv_at hl 3 rfl) ?_
    refine W_bind fun z2 hz => ?_
    refine w_after (cells1 := 0) (slots1 := 0) (w_runS E kS_Town_167 kc_X4_kindOf (t_Manners_kindOf l hfl G a3 M r ((fun z => (.inl (some (.int z)), M, r)) z2) (by rw [hz]; rfl)) ⟨Nat.le_of_ble_eq_true rfl, Nat.le_of_ble_eq_true rfl⟩ hw rfl hl.1 rfl (Nat.le_of_ble_eq_true rfl) dX8_passColdOn_8 ⟨Nat.le_of_ble_eq_true rfl, Nat.le_of_ble_eq_true rfl⟩) hw rfl (Nat.le_of_ble_eq_true rfl) (Nat.le_of_ble_eq_true rfl) (fun H locs hw => ?_)
    refine W.eq (g2 := F0 m 11 ls [.int z2]) rfl ?_
    have hw : w_W G M r s H locs := hw
    refine cx_if_ne (tgt := 18) E dX8_passColdOn_11 (by decide) (fun _ => ?_) (fun _ => ?_)
    · refine lv_iconst (v := 0) hx hb dX8_passColdOn_18 (by decide) ?_
      exact w19  0 M _ _ _ hw (lv_sub hl [0, 1] rfl)
    · exact w14  M _ _ _ hw (lv_sub hl [0, 1] rfl)
set_option maxHeartbeats 4000000 in
set_option maxRecDepth 100000 in
theorem t_Town_meetOnce (l : Launch) (hfl : l.stackTraces = false) (G : wG) (N : Nat) (this : Nat) (a0 : Int32) (a1 : Int32) (M : Mem) (r : Rho) : Ctr l yX8_meetOnce (wWs yX8_meetOnce cX8_meetOnce 11 (some .int)) rm_Town_meetOnce rm_Town_meetOnce.cells rm_Town_meetOnce.slots G [.ref this, .int a0, .int a1] M r ((f_Town_meetOnce N this a0 a1 M).map (fun z => (.inl (some (.int z.1)), z.2, r))) := by
  refine Ctr.ofF (own := "CheekTown$Town") (by decide +kernel) hfl rfl (Nat.le_of_ble_eq_true rfl) (fun p e s m args below meth c E hno hr hnm hw ls hl => ?_)
  obtain ⟨hx, hb, hts, hown, hml, hTT, -⟩ := id E
  have hl : lv_has ls 11 [(0, .ref this), (1, .int a0), (2, .int a1)] := hl
  obtain ⟨H, hH⟩ : ∃ H, H = s.heap := ⟨_, rfl⟩
  obtain ⟨locs, hlo⟩ : ∃ L : List Loc, L = [] := ⟨_, rfl⟩
  rw [← hH, ← hlo]
  rw [← hlo] at hw
  replace hw : w_W G M r s H locs := by rw [hH]; exact hw
  have w118 : ∀ (x3 : Int32) (x4 : Int32) (x5 : Int32) (x6 : Int32) (x7 : Int32) (x9 : Int32) (x10 : Int32) (M : Mem) (H : Heap) (locs : List Loc) (ls : Array Slot), w_W G M r s H locs → lv_has ls 11 [(0, .ref this), (3, .int x3), (4, .int x4), (5, .int x5), (6, .int x6), (7, .int x7), (9, .int x9), (10, .int x10)] → W p l e rm_Town_meetOnce s m args below meth c H locs 0 0 (PQ G below args s rm_Town_meetOnce.cells rm_Town_meetOnce.slots (fun z => (.inl (some (.int z.1)), z.2, r)) (f_Town_meetOnce_118 N this a0 a1 x3 x4 x5 x6 x7 x9 x10 M)) (F0 m 118 ls []) := by
    intro x3 x4 x5 x6 x7 x9 x10 M H locs ls hw hl
    unfold f_Town_meetOnce_118
    refine lv_aload_n hx hb dX8_meetOnce_118 rfl (lv_at hl 0 rfl) ?_
    refine lv_iload_n hx hb dX8_meetOnce_119 rfl (lv_at hl 1 rfl) ?_
    refine lv_iload hx hb dX8_meetOnce_120 (lv_at hl 2 rfl) ?_
    refine lv_iload hx hb dX8_meetOnce_122 (lv_at hl 5 rfl) ?_
    refine W_bind fun _ hck => ?_
    refine W_bind fun z11 hz => ?_
    refine w_after (cells1 := 0) (slots1 := 0) (w_runV E kV_Town_145 kc_X8_writeDown (t_Town_writeDown l hfl G this x3 x4 x7 M r ((fun z => (.inl none, z, r)) z11) (by rw [hz]; rfl)) ⟨Nat.le_of_ble_eq_true rfl, Nat.le_of_ble_eq_true rfl⟩ hw (w_recv E hw (by decide) ⟨_, _, rfl⟩ (ck_ok hck)) rfl hl.1 rfl (Nat.le_of_ble_eq_true rfl) dX8_meetOnce_124 ⟨Nat.le_of_ble_eq_true rfl, Nat.le_of_ble_eq_true rfl⟩) hw rfl (Nat.le_of_ble_eq_true rfl) (Nat.le_of_ble_eq_true rfl) (fun H locs hw => ?_)
    refine W.eq (g2 := F0 m 127 ls []) rfl ?_
    have hw : w_W G z11 r s H locs := hw
    refine lv_aload_n hx hb dX8_meetOnce_127 rfl (lv_at hl 0 rfl) ?_
    refine gx_getR E hw kF_Town_38_7 (by decide) dX8_meetOnce_128 (fun v12 _ => ?_)
    refine lv_iconst (v := 3) hx hb dX8_meetOnce_131 (by decide) ?_
    refine lv_iload hx hb dX8_meetOnce_132 (lv_at hl 3 rfl) ?_
    refine W_bind fun _ hck => ?_
    refine W_bind fun z13 hz => ?_
    refine w_after (cells1 := 0) (slots1 := 0) (w_runV E kV_Town_149 kc_X3_put (t_Log_put l hfl G v12 3 x5 z11 r ((fun z => (.inl none, z, r)) z13) (by rw [hz]; rfl)) ⟨Nat.le_of_ble_eq_true rfl, Nat.le_of_ble_eq_true rfl⟩ hw (w_recv E hw (by decide) ⟨_, _, rfl⟩ (ck_ok hck)) rfl hl.1 rfl (Nat.le_of_ble_eq_true rfl) dX8_meetOnce_134 ⟨Nat.le_of_ble_eq_true rfl, Nat.le_of_ble_eq_true rfl⟩) hw rfl (Nat.le_of_ble_eq_true rfl) (Nat.le_of_ble_eq_true rfl) (fun H locs hw => ?_)
    refine W.eq (g2 := F0 m 137 ls []) rfl ?_
    have hw : w_W G z13 r s H locs := hw
    refine lv_aload_n hx hb dX8_meetOnce_137 rfl (lv_at hl 0 rfl) ?_
    refine gx_getR E hw kF_Town_38_7 (by decide) dX8_meetOnce_138 (fun v14 _ => ?_)
    refine lv_iconst (v := 4) hx hb dX8_meetOnce_141 (by decide) ?_
    refine lv_iload hx hb dX8_meetOnce_142 (lv_at hl 4 rfl) ?_
    refine W_bind fun _ hck => ?_
    refine W_bind fun z15 hz => ?_
    refine w_after (cells1 := 0) (slots1 := 0) (w_runV E kV_Town_149 kc_X3_put (t_Log_put l hfl G v14 4 x6 z13 r ((fun z => (.inl none, z, r)) z15) (by rw [hz]; rfl)) ⟨Nat.le_of_ble_eq_true rfl, Nat.le_of_ble_eq_true rfl⟩ hw (w_recv E hw (by decide) ⟨_, _, rfl⟩ (ck_ok hck)) rfl hl.1 rfl (Nat.le_of_ble_eq_true rfl) dX8_meetOnce_144 ⟨Nat.le_of_ble_eq_true rfl, Nat.le_of_ble_eq_true rfl⟩) hw rfl (Nat.le_of_ble_eq_true rfl) (Nat.le_of_ble_eq_true rfl) (fun H locs hw => ?_)
    refine W.eq (g2 := F0 m 147 ls []) rfl ?_
    have hw : w_W G z15 r s H locs := hw
    refine lv_aload_n hx hb dX8_meetOnce_147 rfl (lv_at hl 0 rfl) ?_
    refine gx_getR E hw kF_Town_38_7 (by decide) dX8_meetOnce_148 (fun v16 _ => ?_)
    refine lv_iconst (v := 5) hx hb dX8_meetOnce_151 (by decide) ?_
    refine lv_iload hx hb dX8_meetOnce_152 (lv_at hl 6 rfl) ?_
    refine W_bind fun _ hck => ?_
    refine W_bind fun z17 hz => ?_
    refine w_after (cells1 := 0) (slots1 := 0) (w_runV E kV_Town_149 kc_X3_put (t_Log_put l hfl G v16 5 x9 z15 r ((fun z => (.inl none, z, r)) z17) (by rw [hz]; rfl)) ⟨Nat.le_of_ble_eq_true rfl, Nat.le_of_ble_eq_true rfl⟩ hw (w_recv E hw (by decide) ⟨_, _, rfl⟩ (ck_ok hck)) rfl hl.1 rfl (Nat.le_of_ble_eq_true rfl) dX8_meetOnce_154 ⟨Nat.le_of_ble_eq_true rfl, Nat.le_of_ble_eq_true rfl⟩) hw rfl (Nat.le_of_ble_eq_true rfl) (Nat.le_of_ble_eq_true rfl) (fun H locs hw => ?_)
    refine W.eq (g2 := F0 m 157 ls []) rfl ?_
    have hw : w_W G z17 r s H locs := hw
    refine lv_aload_n hx hb dX8_meetOnce_157 rfl (lv_at hl 0 rfl) ?_
    refine gx_getR E hw kF_Town_38_7 (by decide) dX8_meetOnce_158 (fun v18 _ => ?_)
    refine lv_bipush (v := 6) hx hb dX8_meetOnce_161 (by decide) ?_
    refine lv_iload hx hb dX8_meetOnce_163 (lv_at hl 7 rfl) ?_
    refine W_bind fun _ hck => ?_
    refine W_bind fun z19 hz => ?_
    refine w_after (cells1 := 0) (slots1 := 0) (w_runV E kV_Town_149 kc_X3_put (t_Log_put l hfl G v18 6 x10 z17 r ((fun z => (.inl none, z, r)) z19) (by rw [hz]; rfl)) ⟨Nat.le_of_ble_eq_true rfl, Nat.le_of_ble_eq_true rfl⟩ hw (w_recv E hw (by decide) ⟨_, _, rfl⟩ (ck_ok hck)) rfl hl.1 rfl (Nat.le_of_ble_eq_true rfl) dX8_meetOnce_165 ⟨Nat.le_of_ble_eq_true rfl, Nat.le_of_ble_eq_true rfl⟩) hw rfl (Nat.le_of_ble_eq_true rfl) (Nat.le_of_ble_eq_true rfl) (fun H locs hw => ?_)
    refine W.eq (g2 := F0 m 168 ls []) rfl ?_
    have hw : w_W G z19 r s H locs := hw
    refine lv_aload_n hx hb dX8_meetOnce_168 rfl (lv_at hl 0 rfl) ?_
    refine gx_getR E hw kF_Town_20_7 (by decide) dX8_meetOnce_169 (fun v20 _ => ?_)
    refine lv_iload_n hx hb dX8_meetOnce_172 rfl (lv_at hl 1 rfl) ?_
    refine gx_aald E hw (by decide) dX8_meetOnce_173 (fun v21 _ => ?_)
    refine lv_iload hx hb dX8_meetOnce_174 (lv_at hl 2 rfl) ?_
    refine lv_iload hx hb dX8_meetOnce_176 (lv_at hl 7 rfl) ?_
    refine W_bind fun _ hck => ?_
    refine W_bind fun z22 hz => ?_
    refine w_after (cells1 := 0) (slots1 := 0) (w_runV E kV_Town_153 kc_X5_learn (t_Person_learn l hfl G v21 x4 x10 z19 r ((fun z => (.inl none, z, r)) z22) (by rw [hz]; rfl)) ⟨Nat.le_of_ble_eq_true rfl, Nat.le_of_ble_eq_true rfl⟩ hw (w_recv E hw (by decide) ⟨_, _, rfl⟩ (ck_ok hck)) rfl hl.1 rfl (Nat.le_of_ble_eq_true rfl) dX8_meetOnce_178 ⟨Nat.le_of_ble_eq_true rfl, Nat.le_of_ble_eq_true rfl⟩) hw rfl (Nat.le_of_ble_eq_true rfl) (Nat.le_of_ble_eq_true rfl) (fun H locs hw => ?_)
    refine W.eq (g2 := F0 m 181 ls []) rfl ?_
    have hw : w_W G z22 r s H locs := hw
    refine lv_aload_n hx hb dX8_meetOnce_181 rfl (lv_at hl 0 rfl) ?_
    refine gx_getR E hw kF_Town_20_7 (by decide) dX8_meetOnce_182 (fun v23 _ => ?_)
    refine lv_iload hx hb dX8_meetOnce_185 (lv_at hl 2 rfl) ?_
    refine gx_aald E hw (by decide) dX8_meetOnce_187 (fun v24 _ => ?_)
    refine lv_iload_n hx hb dX8_meetOnce_188 rfl (lv_at hl 1 rfl) ?_
    refine lv_iload hx hb dX8_meetOnce_189 (lv_at hl 6 rfl) ?_
    refine W_bind fun _ hck => ?_
    refine W_bind fun z25 hz => ?_
    refine w_after (cells1 := 0) (slots1 := 0) (w_runV E kV_Town_153 kc_X5_learn (t_Person_learn l hfl G v24 x3 x9 z22 r ((fun z => (.inl none, z, r)) z25) (by rw [hz]; rfl)) ⟨Nat.le_of_ble_eq_true rfl, Nat.le_of_ble_eq_true rfl⟩ hw (w_recv E hw (by decide) ⟨_, _, rfl⟩ (ck_ok hck)) rfl hl.1 rfl (Nat.le_of_ble_eq_true rfl) dX8_meetOnce_191 ⟨Nat.le_of_ble_eq_true rfl, Nat.le_of_ble_eq_true rfl⟩) hw rfl (Nat.le_of_ble_eq_true rfl) (Nat.le_of_ble_eq_true rfl) (fun H locs hw => ?_)
    refine W.eq (g2 := F0 m 194 ls []) rfl ?_
    have hw : w_W G z25 r s H locs := hw
    refine lv_aload_n hx hb dX8_meetOnce_194 rfl (lv_at hl 0 rfl) ?_
    refine gx_getR E hw kF_Town_20_7 (by decide) dX8_meetOnce_195 (fun v26 _ => ?_)
    refine lv_iload_n hx hb dX8_meetOnce_198 rfl (lv_at hl 1 rfl) ?_
    refine gx_aald E hw (by decide) dX8_meetOnce_199 (fun v27 _ => ?_)
    refine lv_aload_n hx hb dX8_meetOnce_200 rfl (lv_at hl 0 rfl) ?_
    refine gx_getR E hw kF_Town_20_7 (by decide) dX8_meetOnce_201 (fun v28 _ => ?_)
    refine lv_iload hx hb dX8_meetOnce_204 (lv_at hl 2 rfl) ?_
    refine gx_aald E hw (by decide) dX8_meetOnce_206 (fun v29 _ => ?_)
    refine lv_iload hx hb dX8_meetOnce_207 (lv_at hl 6 rfl) ?_
    refine lv_iload hx hb dX8_meetOnce_209 (lv_at hl 7 rfl) ?_
    refine W_bind fun z30 hz => ?_
    refine w_after (cells1 := 0) (slots1 := 0) (w_runS E kS_Town_156 kc_X8_passColdOn (t_Town_passColdOn l hfl G v27 v29 x9 x10 z25 r ((fun z => (.inl none, z, r)) z30) (by rw [hz]; rfl)) ⟨Nat.le_of_ble_eq_true rfl, Nat.le_of_ble_eq_true rfl⟩ hw rfl hl.1 rfl (Nat.le_of_ble_eq_true rfl) dX8_meetOnce_211 ⟨Nat.le_of_ble_eq_true rfl, Nat.le_of_ble_eq_true rfl⟩) hw rfl (Nat.le_of_ble_eq_true rfl) (Nat.le_of_ble_eq_true rfl) (fun H locs hw => ?_)
    refine W.eq (g2 := F0 m 214 ls []) rfl ?_
    have hw : w_W G z30 r s H locs := hw
    refine lv_aload_n hx hb dX8_meetOnce_214 rfl (lv_at hl 0 rfl) ?_
    refine lv_dup hx hb dX8_meetOnce_215 rfl ?_
    refine gx_getI E hw kF_Town_81_7 (by decide) dX8_meetOnce_216 (fun v31 _ => ?_)
    refine lv_iload hx hb dX8_meetOnce_219 (lv_at hl 6 rfl) ?_
    refine W_bind fun z32 hz => ?_
    refine w_after (cells1 := 0) (slots1 := 0) (w_runS E kS_Town_160 kc_X4_countOf (t_Manners_countOf l hfl G x9 z30 r ((fun z => (.inl (some (.int z)), z30, r)) z32) (by rw [hz]; rfl)) ⟨Nat.le_of_ble_eq_true rfl, Nat.le_of_ble_eq_true rfl⟩ hw rfl hl.1 rfl (Nat.le_of_ble_eq_true rfl) dX8_meetOnce_221 ⟨Nat.le_of_ble_eq_true rfl, Nat.le_of_ble_eq_true rfl⟩) hw rfl (Nat.le_of_ble_eq_true rfl) (Nat.le_of_ble_eq_true rfl) (fun H locs hw => ?_)
    refine W.eq (g2 := F0 m 224 ls [.int z32, .int v31, .ref this]) rfl ?_
    have hw : w_W G z30 r s H locs := hw
    refine lv_iload hx hb dX8_meetOnce_224 (lv_at hl 7 rfl) ?_
    refine W_bind fun z33 hz => ?_
    refine w_after (cells1 := 0) (slots1 := 0) (w_runS E kS_Town_160 kc_X4_countOf (t_Manners_countOf l hfl G x10 z30 r ((fun z => (.inl (some (.int z)), z30, r)) z33) (by rw [hz]; rfl)) ⟨Nat.le_of_ble_eq_true rfl, Nat.le_of_ble_eq_true rfl⟩ hw rfl hl.1 rfl (Nat.le_of_ble_eq_true rfl) dX8_meetOnce_226 ⟨Nat.le_of_ble_eq_true rfl, Nat.le_of_ble_eq_true rfl⟩) hw rfl (Nat.le_of_ble_eq_true rfl) (Nat.le_of_ble_eq_true rfl) (fun H locs hw => ?_)
    refine W.eq (g2 := F0 m 229 ls [.int z33, .int z32, .int v31, .ref this]) rfl ?_
    have hw : w_W G z30 r s H locs := hw
    refine W_bind fun z34 hz => ?_
    refine w_after (cells1 := 0) (slots1 := 0) (w_runS E kS_Town_128 kc_J9_max_7cf53 (t_Math_max l hfl G z32 z33 z30 r ((fun z => (.inl (some (.int z)), z30, r)) z34) (by rw [hz]; rfl)) ⟨Nat.le_of_ble_eq_true rfl, Nat.le_of_ble_eq_true rfl⟩ hw rfl hl.1 rfl (Nat.le_of_ble_eq_true rfl) dX8_meetOnce_229 ⟨Nat.le_of_ble_eq_true rfl, Nat.le_of_ble_eq_true rfl⟩) hw rfl (Nat.le_of_ble_eq_true rfl) (Nat.le_of_ble_eq_true rfl) (fun H locs hw => ?_)
    refine W.eq (g2 := F0 m 232 ls [.int z34, .int v31, .ref this]) rfl ?_
    have hw : w_W G z30 r s H locs := hw
    refine lv_iadd hx hb dX8_meetOnce_232 ?_
    refine gx_putI E hw kF_Town_81_7 kT_7_13 (by decide) dX8_meetOnce_233 (fun M35 H locs _ hw => ?_)
    refine lv_iload hx hb dX8_meetOnce_236 (lv_at hl 5 rfl) ?_
    exact p_iret E hw hr (Nat.le_of_ble_eq_true rfl) (Nat.le_of_ble_eq_true rfl) rfl dX8_meetOnce_238
  have w94 : ∀ (x3 : Int32) (x4 : Int32) (x5 : Int32) (x6 : Int32) (x7 : Int32) (x8 : Int32) (x9 : Int32) (y0 : Int32) (M : Mem) (H : Heap) (locs : List Loc) (ls : Array Slot), w_W G M r s H locs → lv_has ls 11 [(0, .ref this), (3, .int x3), (4, .int x4), (5, .int x5), (6, .int x6), (7, .int x7), (8, .int x8), (9, .int x9)] → W p l e rm_Town_meetOnce s m args below meth c H locs 0 0 (PQ G below args s rm_Town_meetOnce.cells rm_Town_meetOnce.slots (fun z => (.inl (some (.int z.1)), z.2, r)) (f_Town_meetOnce_94 N this a0 a1 x3 x4 x5 x6 x7 x8 x9 y0 M)) (F0 m 94 ls [.int y0]) := by
    intro x3 x4 x5 x6 x7 x8 x9 y0 M H locs ls hw hl
    unfold f_Town_meetOnce_94
    refine lv_istore (lv' := [(10, .int y0), (0, .ref this), (3, .int x3), (4, .int x4), (5, .int x5), (6, .int x6), (7, .int x7), (8, .int x8), (9, .int x9)]) hx hb dX8_meetOnce_94 hl (by decide) rfl (fun ls hl => ?_)
    refine lv_iload hx hb dX8_meetOnce_96 (lv_at hl 7 rfl) ?_
    refine lv_iconst (v := (-1)) hx hb dX8_meetOnce_98 (by decide) ?_
    refine cx_icmp_eq (tgt := 118) E dX8_meetOnce_99 (by decide) (fun _ => ?_) (fun _ => ?_)
    · exact w118  x3 x4 x5 x6 x7 x9 y0 M _ _ _ hw (lv_sub hl [1, 2, 3, 4, 5, 6, 8, 0] rfl)
    · refine lv_iload hx hb dX8_meetOnce_102 (lv_at hl 6 rfl) ?_
      refine lv_iconst (v := 2) hx hb dX8_meetOnce_104 (by decide) ?_
      refine lv_idiv hx hb dX8_meetOnce_105 (by decide) ?_
      refine lv_istore (lv' := [(7, .int (x7 / 2)), (10, .int y0), (0, .ref this), (3, .int x3), (4, .int x4), (5, .int x5), (6, .int x6), (8, .int x8), (9, .int x9)]) hx hb dX8_meetOnce_106 hl (by decide) rfl (fun ls hl => ?_)
      refine lv_aload_n hx hb dX8_meetOnce_108 rfl (lv_at hl 2 rfl) ?_
      refine lv_dup hx hb dX8_meetOnce_109 rfl ?_
      refine gx_getI E hw kF_Town_78_7 (by decide) dX8_meetOnce_110 (fun v9 _ => ?_)
      refine lv_iconst (v := 1) hx hb dX8_meetOnce_113 (by decide) ?_
      refine lv_iadd hx hb dX8_meetOnce_114 ?_
      refine gx_putI E hw kF_Town_78_7 kT_7_12 (by decide) dX8_meetOnce_115 (fun M10 H locs _ hw => ?_)
      exact w118  x3 x4 x5 x6 (x7 / 2) x9 y0 M10 _ _ _ hw (lv_sub hl [2, 3, 4, 5, 6, 0, 8, 1] rfl)
  have w78 : ∀ (x3 : Int32) (x4 : Int32) (x5 : Int32) (x6 : Int32) (x7 : Int32) (x8 : Int32) (y0 : Int32) (M : Mem) (H : Heap) (locs : List Loc) (ls : Array Slot), w_W G M r s H locs → lv_has ls 11 [(0, .ref this), (3, .int x3), (4, .int x4), (5, .int x5), (6, .int x6), (7, .int x7), (8, .int x8)] → W p l e rm_Town_meetOnce s m args below meth c H locs 0 0 (PQ G below args s rm_Town_meetOnce.cells rm_Town_meetOnce.slots (fun z => (.inl (some (.int z.1)), z.2, r)) (f_Town_meetOnce_78 N this a0 a1 x3 x4 x5 x6 x7 x8 y0 M)) (F0 m 78 ls [.int y0]) := by
    intro x3 x4 x5 x6 x7 x8 y0 M H locs ls hw hl
    unfold f_Town_meetOnce_78
    refine lv_istore (lv' := [(9, .int y0), (0, .ref this), (3, .int x3), (4, .int x4), (5, .int x5), (6, .int x6), (7, .int x7), (8, .int x8)]) hx hb dX8_meetOnce_78 hl (by decide) rfl (fun ls hl => ?_)
    refine lv_iload hx hb dX8_meetOnce_80 (lv_at hl 7 rfl) ?_
    refine lv_iload hx hb dX8_meetOnce_82 (lv_at hl 3 rfl) ?_
    refine cx_icmp_ne (tgt := 92) E dX8_meetOnce_84 (by decide) (fun _ => ?_) (fun _ => ?_)
    · refine lv_iload hx hb dX8_meetOnce_92 (lv_at hl 5 rfl) ?_
      exact w94  x3 x4 x5 x6 x7 x8 y0 x6 M _ _ _ hw (lv_sub hl [1, 2, 3, 4, 5, 6, 7, 0] rfl)
    · refine lv_iload hx hb dX8_meetOnce_87 (lv_at hl 4 rfl) ?_
      refine lv_goto (tgt := 94) hx hb dX8_meetOnce_89 (by decide) ?_
      exact w94  x3 x4 x5 x6 x7 x8 y0 x5 M _ _ _ hw (lv_sub hl [1, 2, 3, 4, 5, 6, 7, 0] rfl)
  have w63 : ∀ (x3 : Int32) (x4 : Int32) (x5 : Int32) (x6 : Int32) (x7 : Int32) (y0 : Int32) (M : Mem) (H : Heap) (locs : List Loc) (ls : Array Slot), w_W G M r s H locs → lv_has ls 11 [(0, .ref this), (3, .int x3), (4, .int x4), (5, .int x5), (6, .int x6), (7, .int x7)] → W p l e rm_Town_meetOnce s m args below meth c H locs 0 0 (PQ G below args s rm_Town_meetOnce.cells rm_Town_meetOnce.slots (fun z => (.inl (some (.int z.1)), z.2, r)) (f_Town_meetOnce_63 N this a0 a1 x3 x4 x5 x6 x7 y0 M)) (F0 m 63 ls [.int y0]) := by
    intro x3 x4 x5 x6 x7 y0 M H locs ls hw hl
    unfold f_Town_meetOnce_63
    refine lv_istore (lv' := [(8, .int y0), (0, .ref this), (3, .int x3), (4, .int x4), (5, .int x5), (6, .int x6), (7, .int x7)]) hx hb dX8_meetOnce_63 hl (by decide) rfl (fun ls hl => ?_)
    refine lv_iload hx hb dX8_meetOnce_65 (lv_at hl 0 rfl) ?_
    refine lv_iload_n hx hb dX8_meetOnce_67 rfl (lv_at hl 2 rfl) ?_
    refine cx_icmp_ne (tgt := 76) E dX8_meetOnce_68 (by decide) (fun _ => ?_) (fun _ => ?_)
    · refine lv_iload hx hb dX8_meetOnce_76 (lv_at hl 4 rfl) ?_
      exact w78  x3 x4 x5 x6 x7 y0 x5 M _ _ _ hw (lv_sub hl [1, 2, 3, 4, 5, 6, 0] rfl)
    · refine lv_iload hx hb dX8_meetOnce_71 (lv_at hl 5 rfl) ?_
      refine lv_goto (tgt := 78) hx hb dX8_meetOnce_73 (by decide) ?_
      exact w78  x3 x4 x5 x6 x7 y0 x6 M _ _ _ hw (lv_sub hl [1, 2, 3, 4, 5, 6, 0] rfl)
  unfold f_Town_meetOnce
  refine lv_iload_n hx hb dX8_meetOnce_0 rfl (lv_at hl 1 rfl) ?_
  refine lv_iload_n hx hb dX8_meetOnce_1 rfl (lv_at hl 2 rfl) ?_
  refine W_bind fun z1 hz => ?_
  refine w_after (cells1 := 0) (slots1 := 0) (w_runS E kS_Town_123 kc_J9_min_7cf53 (t_Math_min l hfl G a0 a1 M r ((fun z => (.inl (some (.int z)), M, r)) z1) (by rw [hz]; rfl)) ⟨Nat.le_of_ble_eq_true rfl, Nat.le_of_ble_eq_true rfl⟩ hw rfl hl.1 rfl (Nat.le_of_ble_eq_true rfl) dX8_meetOnce_2 ⟨Nat.le_of_ble_eq_true rfl, Nat.le_of_ble_eq_true rfl⟩) hw rfl (Nat.le_of_ble_eq_true rfl) (Nat.le_of_ble_eq_true rfl) (fun H locs hw => ?_)
  refine W.eq (g2 := F0 m 5 ls [.int z1]) rfl ?_
  have hw : w_W G M r s H locs := hw
  refine lv_istore_n (lv' := [(3, .int z1), (0, .ref this), (1, .int a0), (2, .int a1)]) hx hb dX8_meetOnce_5 rfl hl (by decide) rfl (fun ls hl => ?_)
  refine lv_iload_n hx hb dX8_meetOnce_6 rfl (lv_at hl 2 rfl) ?_
  refine lv_iload_n hx hb dX8_meetOnce_7 rfl (lv_at hl 3 rfl) ?_
  refine W_bind fun z2 hz => ?_
  refine w_after (cells1 := 0) (slots1 := 0) (w_runS E kS_Town_128 kc_J9_max_7cf53 (t_Math_max l hfl G a0 a1 M r ((fun z => (.inl (some (.int z)), M, r)) z2) (by rw [hz]; rfl)) ⟨Nat.le_of_ble_eq_true rfl, Nat.le_of_ble_eq_true rfl⟩ hw rfl hl.1 rfl (Nat.le_of_ble_eq_true rfl) dX8_meetOnce_8 ⟨Nat.le_of_ble_eq_true rfl, Nat.le_of_ble_eq_true rfl⟩) hw rfl (Nat.le_of_ble_eq_true rfl) (Nat.le_of_ble_eq_true rfl) (fun H locs hw => ?_)
  refine W.eq (g2 := F0 m 11 ls [.int z2]) rfl ?_
  have hw : w_W G M r s H locs := hw
  refine lv_istore (lv' := [(4, .int z2), (3, .int z1), (0, .ref this), (1, .int a0), (2, .int a1)]) hx hb dX8_meetOnce_11 hl (by decide) rfl (fun ls hl => ?_)
  refine lv_aload_n hx hb dX8_meetOnce_13 rfl (lv_at hl 2 rfl) ?_
  refine lv_iload_n hx hb dX8_meetOnce_14 rfl (lv_at hl 1 rfl) ?_
  refine lv_iload hx hb dX8_meetOnce_15 (lv_at hl 0 rfl) ?_
  refine W_bind fun _ hck => ?_
  refine W_bind fun z3 hz => ?_
  refine w_after (cells1 := 0) (slots1 := 0) (w_runV E kV_Town_131 kc_X8_greetingFor (t_Town_greetingFor l hfl G N this z1 z2 M r ((fun z => (.inl (some (.int z.1)), z.2, r)) z3) (by rw [hz]; rfl)) ⟨Nat.le_of_ble_eq_true rfl, Nat.le_of_ble_eq_true rfl⟩ hw (w_recv E hw (by decide) ⟨_, _, rfl⟩ (ck_ok hck)) rfl hl.1 rfl (Nat.le_of_ble_eq_true rfl) dX8_meetOnce_17 ⟨Nat.le_of_ble_eq_true rfl, Nat.le_of_ble_eq_true rfl⟩) hw rfl (Nat.le_of_ble_eq_true rfl) (Nat.le_of_ble_eq_true rfl) (fun H locs hw => ?_)
  refine W.eq (g2 := F0 m 20 ls [.int z3.1]) rfl ?_
  have hw : w_W G z3.2 r s H locs := hw
  refine lv_istore (lv' := [(5, .int z3.1), (4, .int z2), (3, .int z1), (0, .ref this), (1, .int a0), (2, .int a1)]) hx hb dX8_meetOnce_20 hl (by decide) rfl (fun ls hl => ?_)
  refine lv_aload_n hx hb dX8_meetOnce_22 rfl (lv_at hl 3 rfl) ?_
  refine lv_iload hx hb dX8_meetOnce_23 (lv_at hl 1 rfl) ?_
  refine lv_iload_n hx hb dX8_meetOnce_25 rfl (lv_at hl 2 rfl) ?_
  refine W_bind fun _ hck => ?_
  refine W_bind fun z4 hz => ?_
  refine w_after (cells1 := 0) (slots1 := 0) (w_runV E kV_Town_131 kc_X8_greetingFor (t_Town_greetingFor l hfl G N this z2 z1 z3.2 r ((fun z => (.inl (some (.int z.1)), z.2, r)) z4) (by rw [hz]; rfl)) ⟨Nat.le_of_ble_eq_true rfl, Nat.le_of_ble_eq_true rfl⟩ hw (w_recv E hw (by decide) ⟨_, _, rfl⟩ (ck_ok hck)) rfl hl.1 rfl (Nat.le_of_ble_eq_true rfl) dX8_meetOnce_26 ⟨Nat.le_of_ble_eq_true rfl, Nat.le_of_ble_eq_true rfl⟩) hw rfl (Nat.le_of_ble_eq_true rfl) (Nat.le_of_ble_eq_true rfl) (fun H locs hw => ?_)
  refine W.eq (g2 := F0 m 29 ls [.int z4.1]) rfl ?_
  have hw : w_W G z4.2 r s H locs := hw
  refine lv_istore (lv' := [(6, .int z4.1), (5, .int z3.1), (4, .int z2), (3, .int z1), (0, .ref this), (1, .int a0), (2, .int a1)]) hx hb dX8_meetOnce_29 hl (by decide) rfl (fun ls hl => ?_)
  refine lv_aload_n hx hb dX8_meetOnce_31 rfl (lv_at hl 4 rfl) ?_
  refine gx_getR E hw kF_Town_12_7 (by decide) dX8_meetOnce_32 (fun v5 _ => ?_)
  refine gx_getR E hw kF_Town_133_0 (by decide) dX8_meetOnce_35 (fun v6 _ => ?_)
  refine lv_iload hx hb dX8_meetOnce_38 (lv_at hl 1 rfl) ?_
  refine lv_iload hx hb dX8_meetOnce_40 (lv_at hl 0 rfl) ?_
  refine W_bind fun _ hck => ?_
  refine W_bind fun z7 hz => ?_
  refine w_after (cells1 := 0) (slots1 := 0) (w_runV E kV_Town_137 kc_X4_costOf (t_Manners_costOf l hfl G v6 z3.1 z4.1 z4.2 r ((fun z => (.inl (some (.int z)), z4.2, r)) z7) (by rw [hz]; rfl)) ⟨Nat.le_of_ble_eq_true rfl, Nat.le_of_ble_eq_true rfl⟩ hw (w_recv E hw (by decide) ⟨_, _, rfl⟩ (ck_ok hck)) rfl hl.1 rfl (Nat.le_of_ble_eq_true rfl) dX8_meetOnce_42 ⟨Nat.le_of_ble_eq_true rfl, Nat.le_of_ble_eq_true rfl⟩) hw rfl (Nat.le_of_ble_eq_true rfl) (Nat.le_of_ble_eq_true rfl) (fun H locs hw => ?_)
  refine W.eq (g2 := F0 m 45 ls [.int z7]) rfl ?_
  have hw : w_W G z4.2 r s H locs := hw
  refine lv_istore (lv' := [(7, .int z7), (6, .int z4.1), (5, .int z3.1), (4, .int z2), (3, .int z1), (0, .ref this), (1, .int a0), (2, .int a1)]) hx hb dX8_meetOnce_45 hl (by decide) rfl (fun ls hl => ?_)
  refine lv_iload hx hb dX8_meetOnce_47 (lv_at hl 0 rfl) ?_
  refine cx_if_le (tgt := 62) E dX8_meetOnce_49 (by decide) (fun _ => ?_) (fun _ => ?_)
  · refine lv_iconst (v := (-1)) hx hb dX8_meetOnce_62 (by decide) ?_
    exact w63  z1 z2 z3.1 z4.1 z7 (-1) z4.2 _ _ _ hw (lv_sub hl [5, 4, 3, 2, 1, 0] rfl)
  · refine lv_aload_n hx hb dX8_meetOnce_52 rfl (lv_at hl 5 rfl) ?_
    refine lv_iload_n hx hb dX8_meetOnce_53 rfl (lv_at hl 4 rfl) ?_
    refine lv_iload hx hb dX8_meetOnce_54 (lv_at hl 3 rfl) ?_
    refine W_bind fun _ hck => ?_
    refine W_bind fun z8 hz => ?_
    refine w_after (cells1 := 0) (slots1 := 0) (w_runV E kV_Town_142 kc_X8_whoYields (t_Town_whoYields l hfl G this z1 z2 z4.2 r ((fun z => (.inl (some (.int z.1)), z.2, r)) z8) (by rw [hz]; rfl)) ⟨Nat.le_of_ble_eq_true rfl, Nat.le_of_ble_eq_true rfl⟩ hw (w_recv E hw (by decide) ⟨_, _, rfl⟩ (ck_ok hck)) rfl hl.1 rfl (Nat.le_of_ble_eq_true rfl) dX8_meetOnce_56 ⟨Nat.le_of_ble_eq_true rfl, Nat.le_of_ble_eq_true rfl⟩) hw rfl (Nat.le_of_ble_eq_true rfl) (Nat.le_of_ble_eq_true rfl) (fun H locs hw => ?_)
    refine W.eq (g2 := F0 m 59 ls [.int z8.1]) rfl ?_
    have hw : w_W G z8.2 r s H locs := hw
    refine lv_goto (tgt := 63) hx hb dX8_meetOnce_59 (by decide) ?_
    exact w63  z1 z2 z3.1 z4.1 z7 z8.1 z8.2 _ _ _ hw (lv_sub hl [5, 4, 3, 2, 1, 0] rfl)
set_option maxHeartbeats 4000000 in
set_option maxRecDepth 100000 in
theorem t_CT_meet (l : Launch) (hfl : l.stackTraces = false) (G : wG) (N : Nat) (this : Nat) (a0 : Int32) (a1 : Int32) (M : Mem) (r : Rho) : Ctr l yX11_meet (wWs yX11_meet cX11_meet 3 (some .int)) rm_CT_meet rm_CT_meet.cells rm_CT_meet.slots G [.ref this, .int a0, .int a1] M r ((f_CT_meet N this a0 a1 M).map (fun z => (z.1.elim (fun v => .inl (some (.int v))) .inr, z.2, r))) := by
  refine Ctr.ofF (own := "CheekTown") (by decide +kernel) hfl rfl (Nat.le_of_ble_eq_true rfl) (fun p e s m args below meth c E hno hr hnm hw ls hl => ?_)
  obtain ⟨hx, hb, hts, hown, hml, hTT, -⟩ := id E
  have hl : lv_has ls 3 [(0, .ref this), (1, .int a0), (2, .int a1)] := hl
  obtain ⟨H, hH⟩ : ∃ H, H = s.heap := ⟨_, rfl⟩
  obtain ⟨locs, hlo⟩ : ∃ L : List Loc, L = [] := ⟨_, rfl⟩
  rw [← hH, ← hlo]
  rw [← hlo] at hw
  replace hw : w_W G M r s H locs := by rw [hH]; exact hw
  unfold f_CT_meet
  refine lv_aload_n hx hb dX11_meet_0 rfl (lv_at hl 0 rfl) ?_
  refine lv_iload_n hx hb dX11_meet_1 rfl (lv_at hl 1 rfl) ?_
  refine lv_iload_n hx hb dX11_meet_2 rfl (lv_at hl 2 rfl) ?_
  refine W_bind fun _ hck => ?_
  refine W_bind fun z1 hz => ?_
  refine w_afterS (cells1 := 3) (slots1 := 18) (vv := (fun _ => none)) (w_runV E kV_CT_200 kc_X11_needTwo (t_CT_needTwo l hfl G this a0 a1 M r ((fun z => (z.1.elim (fun _ => .inl none) .inr, z.2, r)) z1) (by rw [hz]; rfl)) ⟨Nat.le_of_ble_eq_true rfl, Nat.le_of_ble_eq_true rfl⟩ hw (w_recv E hw (by decide) ⟨_, _, rfl⟩ (ck_ok hck)) rfl hl.1 rfl (Nat.le_of_ble_eq_true rfl) dX11_meet_3 ⟨Nat.le_of_ble_eq_true rfl, Nat.le_of_ble_eq_true rfl⟩) hw rfl (Nat.le_of_ble_eq_true rfl) (Nat.le_of_ble_eq_true rfl) (fun v2 H locs _ hw => ?_) (fun E9 H locs q ce _ hw hce hcv hcl => w_out E hno hw hce hcv hcl (Nat.le_of_ble_eq_true rfl) (Nat.le_of_ble_eq_true rfl) rfl)
  refine W.eq (g2 := F0 m 6 ls []) rfl ?_
  have hw : w_W G z1.2 r s H locs := hw
  refine lv_aload_n hx hb dX11_meet_6 rfl (lv_at hl 0 rfl) ?_
  refine W_bind fun _ hck => ?_
  refine W_bind fun z3 hz => ?_
  refine w_after (cells1 := 3) (slots1 := 18) (w_runV E kV_CT_221 kc_X11_rememberAct (t_CT_rememberAct l hfl G N this z1.2 r ((fun z => (.inl none, z, r)) z3) (by rw [hz]; rfl)) ⟨Nat.le_of_ble_eq_true rfl, Nat.le_of_ble_eq_true rfl⟩ hw (w_recv E hw (by decide) ⟨_, _, rfl⟩ (ck_ok hck)) rfl hl.1 rfl (Nat.le_of_ble_eq_true rfl) dX11_meet_7 ⟨Nat.le_of_ble_eq_true rfl, Nat.le_of_ble_eq_true rfl⟩) hw rfl (Nat.le_of_ble_eq_true rfl) (Nat.le_of_ble_eq_true rfl) (fun H locs hw => ?_)
  refine W.eq (g2 := F0 m 10 ls []) rfl ?_
  have hw : w_W G z3 r s H locs := hw
  refine lv_aload_n hx hb dX11_meet_10 rfl (lv_at hl 0 rfl) ?_
  refine gx_getR E hw kF_CT_20_10 (by decide) dX11_meet_11 (fun v4 _ => ?_)
  refine lv_iload_n hx hb dX11_meet_14 rfl (lv_at hl 1 rfl) ?_
  refine lv_iload_n hx hb dX11_meet_15 rfl (lv_at hl 2 rfl) ?_
  refine W_bind fun _ hck => ?_
  refine W_bind fun z5 hz => ?_
  refine w_after (cells1 := 3) (slots1 := 18) (w_runV E kV_CT_224 kc_X8_meetOnce (t_Town_meetOnce l hfl G N v4 a0 a1 z3 r ((fun z => (.inl (some (.int z.1)), z.2, r)) z5) (by rw [hz]; rfl)) ⟨Nat.le_of_ble_eq_true rfl, Nat.le_of_ble_eq_true rfl⟩ hw (w_recv E hw (by decide) ⟨_, _, rfl⟩ (ck_ok hck)) rfl hl.1 rfl (Nat.le_of_ble_eq_true rfl) dX11_meet_16 ⟨Nat.le_of_ble_eq_true rfl, Nat.le_of_ble_eq_true rfl⟩) hw rfl (Nat.le_of_ble_eq_true rfl) (Nat.le_of_ble_eq_true rfl) (fun H locs hw => ?_)
  refine W.eq (g2 := F0 m 19 ls [.int z5.1]) rfl ?_
  have hw : w_W G z5.2 r s H locs := hw
  exact p_iret E hw hr (Nat.le_of_ble_eq_true rfl) (Nat.le_of_ble_eq_true rfl) rfl dX11_meet_19
set_option maxHeartbeats 4000000 in
set_option maxRecDepth 100000 in
theorem t_CT_needNumber (l : Launch) (hfl : l.stackTraces = false) (G : wG) (a0 : Int32) (a1 : Int32) (a2 : Int32) (M : Mem) (r : Rho) : Ctr l yX11_needNumber (wWs yX11_needNumber cX11_needNumber 3 none) rm_CT_needNumber rm_CT_needNumber.cells rm_CT_needNumber.slots G [.int a0, .int a1, .int a2] M r ((f_CT_needNumber a0 a1 a2 M).map (fun z => (z.1.elim (fun _ => .inl none) .inr, z.2, r))) := by
  refine Ctr.ofF (own := "CheekTown") (by decide +kernel) hfl rfl (Nat.le_of_ble_eq_true rfl) (fun p e s m args below meth c E hno hr hnm hw ls hl => ?_)
  obtain ⟨hx, hb, hts, hown, hml, hTT, -⟩ := id E
  have hl : lv_has ls 3 [(0, .int a0), (1, .int a1), (2, .int a2)] := hl
  obtain ⟨H, hH⟩ : ∃ H, H = s.heap := ⟨_, rfl⟩
  obtain ⟨locs, hlo⟩ : ∃ L : List Loc, L = [] := ⟨_, rfl⟩
  rw [← hH, ← hlo]
  rw [← hlo] at hw
  replace hw : w_W G M r s H locs := by rw [hH]; exact hw
  have w10 : ∀ (M : Mem) (H : Heap) (locs : List Loc) (ls : Array Slot), w_W G M r s H locs → lv_has ls 3 [] → W p l e rm_CT_needNumber s m args below meth c H locs 0 0 (PQ G below args s rm_CT_needNumber.cells rm_CT_needNumber.slots (fun z => (z.1.elim (fun _ => .inl none) .inr, z.2, r)) (f_CT_needNumber_10 a0 a1 a2 M)) (F0 m 10 ls []) := by
    intro M H locs ls hw hl
    unfold f_CT_needNumber_10
    exact gx_throw E hno hw kX_CT_142 hl.1 dX11_needNumber_10 dX11_needNumber_13 dX11_needNumber_14 dX11_needNumber_16 dX11_needNumber_19 (Nat.le_of_ble_eq_true rfl) (Nat.le_of_ble_eq_true rfl) (Nat.le_of_ble_eq_true rfl) (Nat.le_of_ble_eq_true rfl) (Nat.le_of_ble_eq_true rfl) (Nat.le_of_ble_eq_true rfl) rfl
  unfold f_CT_needNumber
  refine lv_iload_n hx hb dX11_needNumber_0 rfl (lv_at hl 0 rfl) ?_
  refine lv_iload_n hx hb dX11_needNumber_1 rfl (lv_at hl 1 rfl) ?_
  refine cx_icmp_lt (tgt := 10) E dX11_needNumber_2 (by decide) (fun _ => ?_) (fun _ => ?_)
  · exact w10  M _ _ _ hw (lv_sub hl [] rfl)
  · refine lv_iload_n hx hb dX11_needNumber_5 rfl (lv_at hl 0 rfl) ?_
    refine lv_iload_n hx hb dX11_needNumber_6 rfl (lv_at hl 2 rfl) ?_
    refine cx_icmp_le (tgt := 20) E dX11_needNumber_7 (by decide) (fun _ => ?_) (fun _ => ?_)
    · exact p_vret E hw hr (Nat.le_of_ble_eq_true rfl) (Nat.le_of_ble_eq_true rfl) rfl dX11_needNumber_20
    · exact w10  M _ _ _ hw (lv_sub hl [] rfl)
set_option maxHeartbeats 4000000 in
set_option maxRecDepth 100000 in
theorem t0_CT_needNumber (l : Launch) (hfl : l.stackTraces = false) (G : wG) (a0 : Int32) (a1 : Int32) (a2 : Int32) (M : Mem) (r : Rho) : Ctr l yX11_needNumber (wWs yX11_needNumber cX11_needNumber 3 none) rm0_CT_needNumber rm0_CT_needNumber.cells rm0_CT_needNumber.slots G [.int a0, .int a1, .int a2] M r ((f0_CT_needNumber a0 a1 a2 M).map (fun z => (z.1.elim (fun _ => .inl none) .inr, z.2, r))) := by
  refine Ctr.ofF (own := "CheekTown") (by decide +kernel) hfl rfl (Nat.le_of_ble_eq_true rfl) (fun p e s m args below meth c E hno hr hnm hw ls hl => ?_)
  obtain ⟨hx, hb, hts, hown, hml, hTT, -⟩ := id E
  have hl : lv_has ls 3 [(0, .int a0), (1, .int a1), (2, .int a2)] := hl
  obtain ⟨H, hH⟩ : ∃ H, H = s.heap := ⟨_, rfl⟩
  obtain ⟨locs, hlo⟩ : ∃ L : List Loc, L = [] := ⟨_, rfl⟩
  rw [← hH, ← hlo]
  rw [← hlo] at hw
  replace hw : w_W G M r s H locs := by rw [hH]; exact hw
  have w10 : ∀ (M : Mem) (H : Heap) (locs : List Loc) (ls : Array Slot), w_W G M r s H locs → lv_has ls 3 [] → W p l e rm0_CT_needNumber s m args below meth c H locs 0 0 (PQ G below args s rm0_CT_needNumber.cells rm0_CT_needNumber.slots (fun z => (z.1.elim (fun _ => .inl none) .inr, z.2, r)) (f0_CT_needNumber_10 a0 a1 a2 M)) (F0 m 10 ls []) := by
    intro M H locs ls hw hl
    unfold f0_CT_needNumber_10
    exact W_none
  unfold f0_CT_needNumber
  refine lv_iload_n hx hb dX11_needNumber_0 rfl (lv_at hl 0 rfl) ?_
  refine lv_iload_n hx hb dX11_needNumber_1 rfl (lv_at hl 1 rfl) ?_
  refine cx_icmp_lt (tgt := 10) E dX11_needNumber_2 (by decide) (fun _ => ?_) (fun _ => ?_)
  · exact w10  M _ _ _ hw (lv_sub hl [] rfl)
  · refine lv_iload_n hx hb dX11_needNumber_5 rfl (lv_at hl 0 rfl) ?_
    refine lv_iload_n hx hb dX11_needNumber_6 rfl (lv_at hl 2 rfl) ?_
    refine cx_icmp_le (tgt := 20) E dX11_needNumber_7 (by decide) (fun _ => ?_) (fun _ => ?_)
    · exact p_vret E hw hr (Nat.le_of_ble_eq_true rfl) (Nat.le_of_ble_eq_true rfl) rfl dX11_needNumber_20
    · exact w10  M _ _ _ hw (lv_sub hl [] rfl)
theorem needNumber0 {a0 a1 a2 : Int32} {M Mz : Mem} {r : Rho} {u : Unit} (h : f_CT_needNumber a0 a1 a2 M = some (.inl u, Mz)) : ((f0_CT_needNumber a0 a1 a2 M).map (fun z => (z.1.elim (fun _ => .inl none) .inr, z.2, r)) : Option Out) = some (.inl none, Mz, r) := by
  unfold f_CT_needNumber f_CT_needNumber_10 at h
  unfold f0_CT_needNumber f0_CT_needNumber_10
  by_cases h1 : a0 < a1
  · rw [if_pos h1] at h
    cases h
  · rw [if_neg h1] at h ⊢
    by_cases h2 : a0 ≤ a2
    · rw [if_pos h2] at h ⊢
      cases h
      rfl
    · rw [if_neg h2] at h
      cases h
set_option maxHeartbeats 4000000 in
set_option maxRecDepth 100000 in
theorem t_Town_passRounds (l : Launch) (hfl : l.stackTraces = false) (G : wG) (N : Nat) (this : Nat) (a0 : Int32) (M : Mem) (r : Rho) : Ctr l yX8_passRounds (wWs yX8_passRounds cX8_passRounds 5 (some .int)) rm_Town_passRounds rm_Town_passRounds.cells rm_Town_passRounds.slots G [.ref this, .int a0] M r ((f_Town_passRounds N this a0 M).map (fun z => (.inl (some (.int z.1)), z.2, r))) := by
  refine Ctr.ofF (own := "CheekTown$Town") (by decide +kernel) hfl rfl (Nat.le_of_ble_eq_true rfl) (fun p e s m args below meth c E hno hr hnm hw ls hl => ?_)
  obtain ⟨hx, hb, hts, hown, hml, hTT, -⟩ := id E
  have hl : lv_has ls 5 [(0, .ref this), (1, .int a0)] := hl
  obtain ⟨H, hH⟩ : ∃ H, H = s.heap := ⟨_, rfl⟩
  obtain ⟨locs, hlo⟩ : ∃ L : List Loc, L = [] := ⟨_, rfl⟩
  rw [← hH, ← hlo]
  rw [← hlo] at hw
  replace hw : w_W G M r s H locs := by rw [hH]; exact hw
  have w12 : ∀ (k4 : Int32 → Int32 → Mem → Option (Int32 × Mem)) (hk4 : ∀ (x2 : Int32) (x3 : Int32) (M : Mem) (H : Heap) (locs : List Loc) (ls : Array Slot), w_W G M r s H locs → lv_has ls 5 [(0, .ref this), (1, .int a0), (2, .int x2), (3, .int x3)] → W p l e rm_Town_passRounds s m args below meth c H locs 0 0 (PQ G below args s rm_Town_passRounds.cells rm_Town_passRounds.slots (fun z => (.inl (some (.int z.1)), z.2, r)) (k4 x2 x3 M)) (F0 m 4 ls [])) (n : Nat) (x2 : Int32) (x3 : Int32) (x4 : Int32) (M : Mem) (H : Heap) (locs : List Loc) (ls : Array Slot), w_W G M r s H locs → lv_has ls 5 [(0, .ref this), (1, .int a0), (2, .int x2), (3, .int x3), (4, .int x4)] → W p l e rm_Town_passRounds s m args below meth c H locs 0 0 (PQ G below args s rm_Town_passRounds.cells rm_Town_passRounds.slots (fun z => (.inl (some (.int z.1)), z.2, r)) (f_Town_passRounds_12 N this a0 k4 n x2 x3 x4 M)) (F0 m 12 ls []) := by
    intro k4 hk4 n
    induction n with
    | zero => intros; exact W_none
    | succ n ih =>
      intro x2 x3 x4 M H locs ls hw hl
      rw [f_Town_passRounds_12]
      refine lv_iload hx hb dX8_passRounds_12 (lv_at hl 4 rfl) ?_
      refine lv_aload_n hx hb dX8_passRounds_14 rfl (lv_at hl 0 rfl) ?_
      refine gx_getI E hw kF_Town_59_7 (by decide) dX8_passRounds_15 (fun v1 _ => ?_)
      refine cx_icmp_ge (tgt := 48) E dX8_passRounds_18 (by decide) (fun _ => ?_) (fun _ => ?_)
      · refine lv_aload_n hx hb dX8_passRounds_48 rfl (lv_at hl 0 rfl) ?_
        refine lv_dup hx hb dX8_passRounds_49 rfl ?_
        refine gx_getI E hw kF_Town_69_7 (by decide) dX8_passRounds_50 (fun v2 _ => ?_)
        refine lv_iconst (v := 1) hx hb dX8_passRounds_53 (by decide) ?_
        refine lv_iadd hx hb dX8_passRounds_54 ?_
        refine gx_putI E hw kF_Town_69_7 kT_7_9 (by decide) dX8_passRounds_55 (fun M3 H locs _ hw => ?_)
        refine lv_iinc (v := x3 + 1) (lv' := [(3, .int (x3 + 1)), (0, .ref this), (1, .int a0), (2, .int x2), (4, .int x4)]) hx hb dX8_passRounds_58 hl (k := 3) rfl rfl (by decide) rfl (fun ls hl => ?_)
        refine lv_goto (tgt := 4) hx hb dX8_passRounds_61 (by decide) ?_
        exact hk4 x2 (x3 + 1) M3 _ _ _ hw (lv_sub hl [1, 2, 3, 0] rfl)
      · refine lv_iload_n hx hb dX8_passRounds_21 rfl (lv_at hl 2 rfl) ?_
        refine lv_aload_n hx hb dX8_passRounds_22 rfl (lv_at hl 0 rfl) ?_
        refine lv_aload_n hx hb dX8_passRounds_23 rfl (lv_at hl 0 rfl) ?_
        refine gx_getR E hw kF_Town_24_7 (by decide) dX8_passRounds_24 (fun v4 _ => ?_)
        refine lv_iload hx hb dX8_passRounds_27 (lv_at hl 4 rfl) ?_
        refine gx_iald E hw dX8_passRounds_29 (fun v5 _ => ?_)
        refine lv_aload_n hx hb dX8_passRounds_30 rfl (lv_at hl 0 rfl) ?_
        refine gx_getR E hw kF_Town_28_7 (by decide) dX8_passRounds_31 (fun v6 _ => ?_)
        refine lv_iload hx hb dX8_passRounds_34 (lv_at hl 4 rfl) ?_
        refine gx_iald E hw dX8_passRounds_36 (fun v7 _ => ?_)
        refine W_bind fun _ hck => ?_
        refine W_bind fun z8 hz => ?_
        refine w_after (cells1 := 0) (slots1 := 0) (w_runV E kV_Town_119 kc_X8_meetOnce (t_Town_meetOnce l hfl G N this v5 v7 M r ((fun z => (.inl (some (.int z.1)), z.2, r)) z8) (by rw [hz]; rfl)) ⟨Nat.le_of_ble_eq_true rfl, Nat.le_of_ble_eq_true rfl⟩ hw (w_recv E hw (by decide) ⟨_, _, rfl⟩ (ck_ok hck)) rfl hl.1 rfl (Nat.le_of_ble_eq_true rfl) dX8_passRounds_37 ⟨Nat.le_of_ble_eq_true rfl, Nat.le_of_ble_eq_true rfl⟩) hw rfl (Nat.le_of_ble_eq_true rfl) (Nat.le_of_ble_eq_true rfl) (fun H locs hw => ?_)
        refine W.eq (g2 := F0 m 40 ls [.int z8.1, .int x2]) rfl ?_
        have hw : w_W G z8.2 r s H locs := hw
        refine lv_iadd hx hb dX8_passRounds_40 ?_
        refine lv_istore_n (lv' := [(2, .int (x2 + z8.1)), (0, .ref this), (1, .int a0), (3, .int x3), (4, .int x4)]) hx hb dX8_passRounds_41 rfl hl (by decide) rfl (fun ls hl => ?_)
        refine lv_iinc (v := x4 + 1) (lv' := [(4, .int (x4 + 1)), (2, .int (x2 + z8.1)), (0, .ref this), (1, .int a0), (3, .int x3)]) hx hb dX8_passRounds_42 hl (k := 4) rfl rfl (by decide) rfl (fun ls hl => ?_)
        refine lv_goto (tgt := 12) hx hb dX8_passRounds_45 (by decide) ?_
        exact ih (x2 + z8.1) x3 (x4 + 1) z8.2 _ _ _ hw (lv_sub hl [2, 3, 1, 4, 0] rfl)
  have w4 : ∀ (n : Nat) (x2 : Int32) (x3 : Int32) (M : Mem) (H : Heap) (locs : List Loc) (ls : Array Slot), w_W G M r s H locs → lv_has ls 5 [(0, .ref this), (1, .int a0), (2, .int x2), (3, .int x3)] → W p l e rm_Town_passRounds s m args below meth c H locs 0 0 (PQ G below args s rm_Town_passRounds.cells rm_Town_passRounds.slots (fun z => (.inl (some (.int z.1)), z.2, r)) (f_Town_passRounds_4 N this a0 n x2 x3 M)) (F0 m 4 ls []) := by
    intro n
    induction n with
    | zero => intros; exact W_none
    | succ n ih =>
      intro x2 x3 M H locs ls hw hl
      rw [f_Town_passRounds_4]
      refine lv_iload_n hx hb dX8_passRounds_4 rfl (lv_at hl 3 rfl) ?_
      refine lv_iload_n hx hb dX8_passRounds_5 rfl (lv_at hl 1 rfl) ?_
      refine cx_icmp_ge (tgt := 64) E dX8_passRounds_6 (by decide) (fun _ => ?_) (fun _ => ?_)
      · refine lv_iload_n hx hb dX8_passRounds_64 rfl (lv_at hl 2 rfl) ?_
        exact p_iret E hw hr (Nat.le_of_ble_eq_true rfl) (Nat.le_of_ble_eq_true rfl) rfl dX8_passRounds_65
      · refine lv_iconst (v := 0) hx hb dX8_passRounds_9 (by decide) ?_
        refine lv_istore (lv' := [(4, .int 0), (0, .ref this), (1, .int a0), (2, .int x2), (3, .int x3)]) hx hb dX8_passRounds_10 hl (by decide) rfl (fun ls hl => ?_)
        exact w12 (f_Town_passRounds_4 N this a0 n) ih N x2 x3 0 M _ _ _ hw (lv_sub hl [1, 2, 3, 4, 0] rfl)
  unfold f_Town_passRounds
  refine lv_iconst (v := 0) hx hb dX8_passRounds_0 (by decide) ?_
  refine lv_istore_n (lv' := [(2, .int 0), (0, .ref this), (1, .int a0)]) hx hb dX8_passRounds_1 rfl hl (by decide) rfl (fun ls hl => ?_)
  refine lv_iconst (v := 0) hx hb dX8_passRounds_2 (by decide) ?_
  refine lv_istore_n (lv' := [(3, .int 0), (2, .int 0), (0, .ref this), (1, .int a0)]) hx hb dX8_passRounds_3 rfl hl (by decide) rfl (fun ls hl => ?_)
  exact w4  N 0 0 M _ _ _ hw (lv_sub hl [2, 3, 1, 0] rfl)
set_option maxHeartbeats 4000000 in
set_option maxRecDepth 100000 in
theorem t_CT_rounds (l : Launch) (hfl : l.stackTraces = false) (G : wG) (N : Nat) (this : Nat) (a0 : Int32) (M : Mem) (r : Rho) : Ctr l yX11_rounds (wWs yX11_rounds cX11_rounds 2 (some .int)) rm_CT_rounds rm_CT_rounds.cells rm_CT_rounds.slots G [.ref this, .int a0] M r ((f_CT_rounds N this a0 M).map (fun z => (z.1.elim (fun v => .inl (some (.int v))) .inr, z.2, r))) := by
  refine Ctr.ofF (own := "CheekTown") (by decide +kernel) hfl rfl (Nat.le_of_ble_eq_true rfl) (fun p e s m args below meth c E hno hr hnm hw ls hl => ?_)
  obtain ⟨hx, hb, hts, hown, hml, hTT, -⟩ := id E
  have hl : lv_has ls 2 [(0, .ref this), (1, .int a0)] := hl
  obtain ⟨H, hH⟩ : ∃ H, H = s.heap := ⟨_, rfl⟩
  obtain ⟨locs, hlo⟩ : ∃ L : List Loc, L = [] := ⟨_, rfl⟩
  rw [← hH, ← hlo]
  rw [← hlo] at hw
  replace hw : w_W G M r s H locs := by rw [hH]; exact hw
  unfold f_CT_rounds
  refine lv_iload_n hx hb dX11_rounds_0 rfl (lv_at hl 1 rfl) ?_
  refine lv_iconst (v := 1) hx hb dX11_rounds_1 (by decide) ?_
  refine lv_bipush (v := 50) hx hb dX11_rounds_2 (by decide) ?_
  refine W_bind fun z1 hz => ?_
  refine w_afterS (cells1 := 1) (slots1 := 6) (vv := (fun _ => none)) (w_runS E kS_CT_227 kc_X11_needNumber (t_CT_needNumber l hfl G a0 1 50 M r ((fun z => (z.1.elim (fun _ => .inl none) .inr, z.2, r)) z1) (by rw [hz]; rfl)) ⟨Nat.le_of_ble_eq_true rfl, Nat.le_of_ble_eq_true rfl⟩ hw rfl hl.1 rfl (Nat.le_of_ble_eq_true rfl) dX11_rounds_4 ⟨Nat.le_of_ble_eq_true rfl, Nat.le_of_ble_eq_true rfl⟩) hw rfl (Nat.le_of_ble_eq_true rfl) (Nat.le_of_ble_eq_true rfl) (fun v2 H locs _ hw => ?_) (fun E9 H locs q ce _ hw hce hcv hcl => w_out E hno hw hce hcv hcl (Nat.le_of_ble_eq_true rfl) (Nat.le_of_ble_eq_true rfl) rfl)
  refine W.eq (g2 := F0 m 7 ls []) rfl ?_
  have hw : w_W G z1.2 r s H locs := hw
  refine lv_aload_n hx hb dX11_rounds_7 rfl (lv_at hl 0 rfl) ?_
  refine W_bind fun _ hck => ?_
  refine W_bind fun z3 hz => ?_
  refine w_after (cells1 := 1) (slots1 := 6) (w_runV E kV_CT_221 kc_X11_rememberAct (t_CT_rememberAct l hfl G N this z1.2 r ((fun z => (.inl none, z, r)) z3) (by rw [hz]; rfl)) ⟨Nat.le_of_ble_eq_true rfl, Nat.le_of_ble_eq_true rfl⟩ hw (w_recv E hw (by decide) ⟨_, _, rfl⟩ (ck_ok hck)) rfl hl.1 rfl (Nat.le_of_ble_eq_true rfl) dX11_rounds_8 ⟨Nat.le_of_ble_eq_true rfl, Nat.le_of_ble_eq_true rfl⟩) hw rfl (Nat.le_of_ble_eq_true rfl) (Nat.le_of_ble_eq_true rfl) (fun H locs hw => ?_)
  refine W.eq (g2 := F0 m 11 ls []) rfl ?_
  have hw : w_W G z3 r s H locs := hw
  refine lv_aload_n hx hb dX11_rounds_11 rfl (lv_at hl 0 rfl) ?_
  refine gx_getR E hw kF_CT_20_10 (by decide) dX11_rounds_12 (fun v4 _ => ?_)
  refine lv_iload_n hx hb dX11_rounds_15 rfl (lv_at hl 1 rfl) ?_
  refine W_bind fun _ hck => ?_
  refine W_bind fun z5 hz => ?_
  refine w_after (cells1 := 1) (slots1 := 6) (w_runV E kV_CT_231 kc_X8_passRounds (t_Town_passRounds l hfl G N v4 a0 z3 r ((fun z => (.inl (some (.int z.1)), z.2, r)) z5) (by rw [hz]; rfl)) ⟨Nat.le_of_ble_eq_true rfl, Nat.le_of_ble_eq_true rfl⟩ hw (w_recv E hw (by decide) ⟨_, _, rfl⟩ (ck_ok hck)) rfl hl.1 rfl (Nat.le_of_ble_eq_true rfl) dX11_rounds_16 ⟨Nat.le_of_ble_eq_true rfl, Nat.le_of_ble_eq_true rfl⟩) hw rfl (Nat.le_of_ble_eq_true rfl) (Nat.le_of_ble_eq_true rfl) (fun H locs hw => ?_)
  refine W.eq (g2 := F0 m 19 ls [.int z5.1]) rfl ?_
  have hw : w_W G z5.2 r s H locs := hw
  exact p_iret E hw hr (Nat.le_of_ble_eq_true rfl) (Nat.le_of_ble_eq_true rfl) rfl dX11_rounds_19
set_option maxHeartbeats 4000000 in
set_option maxRecDepth 100000 in
theorem t_CT_own (l : Launch) (hfl : l.stackTraces = false) (G : wG) (N : Nat) (this : Nat) (a0 : Int32) (a1 : Int32) (M : Mem) (r : Rho) : Ctr l yX11_own (wWs yX11_own cX11_own 4 (some .int)) rm_CT_own rm_CT_own.cells rm_CT_own.slots G [.ref this, .int a0, .int a1] M r ((f_CT_own N this a0 a1 M).map (fun z => (z.1.elim (fun v => .inl (some (.int v))) .inr, z.2, r))) := by
  refine Ctr.ofF (own := "CheekTown") (by decide +kernel) hfl rfl (Nat.le_of_ble_eq_true rfl) (fun p e s m args below meth c E hno hr hnm hw ls hl => ?_)
  obtain ⟨hx, hb, hts, hown, hml, hTT, -⟩ := id E
  have hl : lv_has ls 4 [(0, .ref this), (1, .int a0), (2, .int a1)] := hl
  obtain ⟨H, hH⟩ : ∃ H, H = s.heap := ⟨_, rfl⟩
  obtain ⟨locs, hlo⟩ : ∃ L : List Loc, L = [] := ⟨_, rfl⟩
  rw [← hH, ← hlo]
  rw [← hlo] at hw
  replace hw : w_W G M r s H locs := by rw [hH]; exact hw
  unfold f_CT_own
  refine lv_aload_n hx hb dX11_own_0 rfl (lv_at hl 0 rfl) ?_
  refine lv_iload_n hx hb dX11_own_1 rfl (lv_at hl 1 rfl) ?_
  refine W_bind fun _ hck => ?_
  refine W_bind fun z1 hz => ?_
  refine w_afterS (cells1 := 1) (slots1 := 6) (vv := (fun _ => none)) (w_runV E kV_CT_132 kc_X11_needPerson (t_CT_needPerson l hfl G this a0 M r ((fun z => (z.1.elim (fun _ => .inl none) .inr, z.2, r)) z1) (by rw [hz]; rfl)) ⟨Nat.le_of_ble_eq_true rfl, Nat.le_of_ble_eq_true rfl⟩ hw (w_recv E hw (by decide) ⟨_, _, rfl⟩ (ck_ok hck)) rfl hl.1 rfl (Nat.le_of_ble_eq_true rfl) dX11_own_2 ⟨Nat.le_of_ble_eq_true rfl, Nat.le_of_ble_eq_true rfl⟩) hw rfl (Nat.le_of_ble_eq_true rfl) (Nat.le_of_ble_eq_true rfl) (fun v2 H locs _ hw => ?_) (fun E9 H locs q ce _ hw hce hcv hcl => w_out E hno hw hce hcv hcl (Nat.le_of_ble_eq_true rfl) (Nat.le_of_ble_eq_true rfl) rfl)
  refine W.eq (g2 := F0 m 5 ls []) rfl ?_
  have hw : w_W G z1.2 r s H locs := hw
  refine lv_iload_n hx hb dX11_own_5 rfl (lv_at hl 2 rfl) ?_
  refine W_bind fun z3 hz => ?_
  refine w_afterS (cells1 := 2) (slots1 := 12) (vv := (fun _ => none)) (w_runS E kS_CT_149 kc_X11_needGreeting (t_CT_needGreeting l hfl G a1 z1.2 r ((fun z => (z.1.elim (fun _ => .inl none) .inr, z.2, r)) z3) (by rw [hz]; rfl)) ⟨Nat.le_of_ble_eq_true rfl, Nat.le_of_ble_eq_true rfl⟩ hw rfl hl.1 rfl (Nat.le_of_ble_eq_true rfl) dX11_own_6 ⟨Nat.le_of_ble_eq_true rfl, Nat.le_of_ble_eq_true rfl⟩) hw rfl (Nat.le_of_ble_eq_true rfl) (Nat.le_of_ble_eq_true rfl) (fun v4 H locs _ hw => ?_) (fun E9 H locs q ce _ hw hce hcv hcl => w_out E hno hw hce hcv hcl (Nat.le_of_ble_eq_true rfl) (Nat.le_of_ble_eq_true rfl) rfl)
  refine W.eq (g2 := F0 m 9 ls []) rfl ?_
  have hw : w_W G z3.2 r s H locs := hw
  refine lv_aload_n hx hb dX11_own_9 rfl (lv_at hl 0 rfl) ?_
  refine W_bind fun _ hck => ?_
  refine W_bind fun z5 hz => ?_
  refine w_after (cells1 := 2) (slots1 := 12) (w_runV E kV_CT_221 kc_X11_rememberAct (t_CT_rememberAct l hfl G N this z3.2 r ((fun z => (.inl none, z, r)) z5) (by rw [hz]; rfl)) ⟨Nat.le_of_ble_eq_true rfl, Nat.le_of_ble_eq_true rfl⟩ hw (w_recv E hw (by decide) ⟨_, _, rfl⟩ (ck_ok hck)) rfl hl.1 rfl (Nat.le_of_ble_eq_true rfl) dX11_own_10 ⟨Nat.le_of_ble_eq_true rfl, Nat.le_of_ble_eq_true rfl⟩) hw rfl (Nat.le_of_ble_eq_true rfl) (Nat.le_of_ble_eq_true rfl) (fun H locs hw => ?_)
  refine W.eq (g2 := F0 m 13 ls []) rfl ?_
  have hw : w_W G z5 r s H locs := hw
  refine lv_aload_n hx hb dX11_own_13 rfl (lv_at hl 0 rfl) ?_
  refine gx_getR E hw kF_CT_20_10 (by decide) dX11_own_14 (fun v6 _ => ?_)
  refine gx_getR E hw kF_CT_172_7 (by decide) dX11_own_17 (fun v7 _ => ?_)
  refine lv_iload_n hx hb dX11_own_20 rfl (lv_at hl 1 rfl) ?_
  refine gx_aald E hw (by decide) dX11_own_21 (fun v8 _ => ?_)
  refine gx_getI E hw kF_CT_181_5 (by decide) dX11_own_22 (fun v9 _ => ?_)
  refine lv_istore_n (lv' := [(3, .int v9), (0, .ref this), (1, .int a0), (2, .int a1)]) hx hb dX11_own_25 rfl hl (by decide) rfl (fun ls hl => ?_)
  refine lv_aload_n hx hb dX11_own_26 rfl (lv_at hl 1 rfl) ?_
  refine gx_getR E hw kF_CT_20_10 (by decide) dX11_own_27 (fun v10 _ => ?_)
  refine gx_getR E hw kF_CT_172_7 (by decide) dX11_own_30 (fun v11 _ => ?_)
  refine lv_iload_n hx hb dX11_own_33 rfl (lv_at hl 2 rfl) ?_
  refine gx_aald E hw (by decide) dX11_own_34 (fun v12 _ => ?_)
  refine lv_iload_n hx hb dX11_own_35 rfl (lv_at hl 3 rfl) ?_
  refine gx_putI E hw kF_CT_181_5 kT_5_1 (by decide) dX11_own_36 (fun M13 H locs _ hw => ?_)
  refine lv_iload_n hx hb dX11_own_39 rfl (lv_at hl 0 rfl) ?_
  exact p_iret E hw hr (Nat.le_of_ble_eq_true rfl) (Nat.le_of_ble_eq_true rfl) rfl dX11_own_40
set_option maxHeartbeats 4000000 in
set_option maxRecDepth 100000 in
theorem t_CT_cold (l : Launch) (hfl : l.stackTraces = false) (G : wG) (N : Nat) (this : Nat) (a0 : Int32) (a1 : Int32) (M : Mem) (r : Rho) : Ctr l yX11_cold (wWs yX11_cold cX11_cold 4 (some .boolean)) rm_CT_cold rm_CT_cold.cells rm_CT_cold.slots G [.ref this, .int a0, .int a1] M r ((f_CT_cold N this a0 a1 M).map (fun z => (z.1.elim (fun v => .inl (some (.int v))) .inr, z.2, r))) := by
  refine Ctr.ofF (own := "CheekTown") (by decide +kernel) hfl rfl (Nat.le_of_ble_eq_true rfl) (fun p e s m args below meth c E hno hr hnm hw ls hl => ?_)
  obtain ⟨hx, hb, hts, hown, hml, hTT, -⟩ := id E
  have hl : lv_has ls 4 [(0, .ref this), (1, .int a0), (2, .int a1)] := hl
  obtain ⟨H, hH⟩ : ∃ H, H = s.heap := ⟨_, rfl⟩
  obtain ⟨locs, hlo⟩ : ∃ L : List Loc, L = [] := ⟨_, rfl⟩
  rw [← hH, ← hlo]
  rw [← hlo] at hw
  replace hw : w_W G M r s H locs := by rw [hH]; exact hw
  unfold f_CT_cold
  refine lv_aload_n hx hb dX11_cold_0 rfl (lv_at hl 0 rfl) ?_
  refine lv_iload_n hx hb dX11_cold_1 rfl (lv_at hl 1 rfl) ?_
  refine W_bind fun _ hck => ?_
  refine W_bind fun z1 hz => ?_
  refine w_afterS (cells1 := 1) (slots1 := 6) (vv := (fun _ => none)) (w_runV E kV_CT_132 kc_X11_needPerson (t_CT_needPerson l hfl G this a0 M r ((fun z => (z.1.elim (fun _ => .inl none) .inr, z.2, r)) z1) (by rw [hz]; rfl)) ⟨Nat.le_of_ble_eq_true rfl, Nat.le_of_ble_eq_true rfl⟩ hw (w_recv E hw (by decide) ⟨_, _, rfl⟩ (ck_ok hck)) rfl hl.1 rfl (Nat.le_of_ble_eq_true rfl) dX11_cold_2 ⟨Nat.le_of_ble_eq_true rfl, Nat.le_of_ble_eq_true rfl⟩) hw rfl (Nat.le_of_ble_eq_true rfl) (Nat.le_of_ble_eq_true rfl) (fun v2 H locs _ hw => ?_) (fun E9 H locs q ce _ hw hce hcv hcl => w_out E hno hw hce hcv hcl (Nat.le_of_ble_eq_true rfl) (Nat.le_of_ble_eq_true rfl) rfl)
  refine W.eq (g2 := F0 m 5 ls []) rfl ?_
  have hw : w_W G z1.2 r s H locs := hw
  refine lv_aload_n hx hb dX11_cold_5 rfl (lv_at hl 0 rfl) ?_
  refine W_bind fun _ hck => ?_
  refine W_bind fun z3 hz => ?_
  refine w_after (cells1 := 1) (slots1 := 6) (w_runV E kV_CT_221 kc_X11_rememberAct (t_CT_rememberAct l hfl G N this z1.2 r ((fun z => (.inl none, z, r)) z3) (by rw [hz]; rfl)) ⟨Nat.le_of_ble_eq_true rfl, Nat.le_of_ble_eq_true rfl⟩ hw (w_recv E hw (by decide) ⟨_, _, rfl⟩ (ck_ok hck)) rfl hl.1 rfl (Nat.le_of_ble_eq_true rfl) dX11_cold_6 ⟨Nat.le_of_ble_eq_true rfl, Nat.le_of_ble_eq_true rfl⟩) hw rfl (Nat.le_of_ble_eq_true rfl) (Nat.le_of_ble_eq_true rfl) (fun H locs hw => ?_)
  refine W.eq (g2 := F0 m 9 ls []) rfl ?_
  have hw : w_W G z3 r s H locs := hw
  refine lv_aload_n hx hb dX11_cold_9 rfl (lv_at hl 0 rfl) ?_
  refine gx_getR E hw kF_CT_20_10 (by decide) dX11_cold_10 (fun v4 _ => ?_)
  refine gx_getR E hw kF_CT_172_7 (by decide) dX11_cold_13 (fun v5 _ => ?_)
  refine lv_iload_n hx hb dX11_cold_16 rfl (lv_at hl 1 rfl) ?_
  refine gx_aald E hw (by decide) dX11_cold_17 (fun v6 _ => ?_)
  refine gx_getI E hw kF_CT_190_5 (by decide) dX11_cold_18 (fun v7 _ => ?_)
  refine lv_istore_n (lv' := [(3, .int v7), (0, .ref this), (1, .int a0), (2, .int a1)]) hx hb dX11_cold_21 rfl hl (by decide) rfl (fun ls hl => ?_)
  refine lv_aload_n hx hb dX11_cold_22 rfl (lv_at hl 1 rfl) ?_
  refine gx_getR E hw kF_CT_20_10 (by decide) dX11_cold_23 (fun v8 _ => ?_)
  refine gx_getR E hw kF_CT_172_7 (by decide) dX11_cold_26 (fun v9 _ => ?_)
  refine lv_iload_n hx hb dX11_cold_29 rfl (lv_at hl 2 rfl) ?_
  refine gx_aald E hw (by decide) dX11_cold_30 (fun v10 _ => ?_)
  refine lv_iload_n hx hb dX11_cold_31 rfl (lv_at hl 3 rfl) ?_
  refine gx_putZ E hw kF_CT_190_5 kT_5_4 (by decide) dX11_cold_32 (fun M11 H locs _ hw => ?_)
  refine lv_iload_n hx hb dX11_cold_35 rfl (lv_at hl 0 rfl) ?_
  refine W_bind fun z12 hz => ?_
  obtain ⟨rfl, hz0⟩ := zg_ok hz
  exact p_zret E hw hr hz0 (Nat.le_of_ble_eq_true rfl) (Nat.le_of_ble_eq_true rfl) rfl dX11_cold_36
set_option maxHeartbeats 4000000 in
set_option maxRecDepth 100000 in
theorem t_CT_ties (l : Launch) (hfl : l.stackTraces = false) (G : wG) (N : Nat) (this : Nat) (a0 : Int32) (a1 : Int32) (M : Mem) (r : Rho) : Ctr l yX11_ties (wWs yX11_ties cX11_ties 3 (some .int)) rm_CT_ties rm_CT_ties.cells rm_CT_ties.slots G [.ref this, .int a0, .int a1] M r ((f_CT_ties N this a0 a1 M).map (fun z => (z.1.elim (fun v => .inl (some (.int v))) .inr, z.2, r))) := by
  refine Ctr.ofF (own := "CheekTown") (by decide +kernel) hfl rfl (Nat.le_of_ble_eq_true rfl) (fun p e s m args below meth c E hno hr hnm hw ls hl => ?_)
  obtain ⟨hx, hb, hts, hown, hml, hTT, -⟩ := id E
  have hl : lv_has ls 3 [(0, .ref this), (1, .int a0), (2, .int a1)] := hl
  obtain ⟨H, hH⟩ : ∃ H, H = s.heap := ⟨_, rfl⟩
  obtain ⟨locs, hlo⟩ : ∃ L : List Loc, L = [] := ⟨_, rfl⟩
  rw [← hH, ← hlo]
  rw [← hlo] at hw
  replace hw : w_W G M r s H locs := by rw [hH]; exact hw
  unfold f_CT_ties
  refine lv_aload_n hx hb dX11_ties_0 rfl (lv_at hl 0 rfl) ?_
  refine lv_iload_n hx hb dX11_ties_1 rfl (lv_at hl 1 rfl) ?_
  refine lv_iload_n hx hb dX11_ties_2 rfl (lv_at hl 2 rfl) ?_
  refine W_bind fun _ hck => ?_
  refine W_bind fun z1 hz => ?_
  refine w_afterS (cells1 := 3) (slots1 := 18) (vv := (fun _ => none)) (w_runV E kV_CT_200 kc_X11_needTwo (t_CT_needTwo l hfl G this a0 a1 M r ((fun z => (z.1.elim (fun _ => .inl none) .inr, z.2, r)) z1) (by rw [hz]; rfl)) ⟨Nat.le_of_ble_eq_true rfl, Nat.le_of_ble_eq_true rfl⟩ hw (w_recv E hw (by decide) ⟨_, _, rfl⟩ (ck_ok hck)) rfl hl.1 rfl (Nat.le_of_ble_eq_true rfl) dX11_ties_3 ⟨Nat.le_of_ble_eq_true rfl, Nat.le_of_ble_eq_true rfl⟩) hw rfl (Nat.le_of_ble_eq_true rfl) (Nat.le_of_ble_eq_true rfl) (fun v2 H locs _ hw => ?_) (fun E9 H locs q ce _ hw hce hcv hcl => w_out E hno hw hce hcv hcl (Nat.le_of_ble_eq_true rfl) (Nat.le_of_ble_eq_true rfl) rfl)
  refine W.eq (g2 := F0 m 6 ls []) rfl ?_
  have hw : w_W G z1.2 r s H locs := hw
  refine lv_aload_n hx hb dX11_ties_6 rfl (lv_at hl 0 rfl) ?_
  refine gx_getR E hw kF_CT_20_10 (by decide) dX11_ties_7 (fun v3 _ => ?_)
  refine lv_iload_n hx hb dX11_ties_10 rfl (lv_at hl 1 rfl) ?_
  refine lv_iload_n hx hb dX11_ties_11 rfl (lv_at hl 2 rfl) ?_
  refine W_bind fun _ hck => ?_
  refine W_bind fun z4 hz => ?_
  refine w_after (cells1 := 3) (slots1 := 18) (w_runV E kV_CT_235 kc_X8_areTied (t_Town_areTied l hfl G v3 a0 a1 z1.2 r ((fun z => (.inl (some (.int z)), z1.2, r)) z4) (by rw [hz]; rfl)) ⟨Nat.le_of_ble_eq_true rfl, Nat.le_of_ble_eq_true rfl⟩ hw (w_recv E hw (by decide) ⟨_, _, rfl⟩ (ck_ok hck)) rfl hl.1 rfl (Nat.le_of_ble_eq_true rfl) dX11_ties_12 ⟨Nat.le_of_ble_eq_true rfl, Nat.le_of_ble_eq_true rfl⟩) hw rfl (Nat.le_of_ble_eq_true rfl) (Nat.le_of_ble_eq_true rfl) (fun H locs hw => ?_)
  refine W.eq (g2 := F0 m 15 ls [.int z4]) rfl ?_
  have hw : w_W G z1.2 r s H locs := hw
  refine cx_if_eq (tgt := 28) E dX11_ties_15 (by decide) (fun _ => ?_) (fun _ => ?_)
  · refine lv_aload_n hx hb dX11_ties_28 rfl (lv_at hl 0 rfl) ?_
    refine gx_getR E hw kF_CT_20_10 (by decide) dX11_ties_29 (fun v5 _ => ?_)
    refine gx_getI E hw kF_CT_137_7 (by decide) dX11_ties_32 (fun v6 _ => ?_)
    refine lv_bipush (v := 24) hx hb dX11_ties_35 (by decide) ?_
    refine cx_icmp_lt (tgt := 50) E dX11_ties_37 (by decide) (fun _ => ?_) (fun _ => ?_)
    · refine lv_aload_n hx hb dX11_ties_50 rfl (lv_at hl 0 rfl) ?_
      refine W_bind fun _ hck => ?_
      refine W_bind fun z7 hz => ?_
      refine w_after (cells1 := 3) (slots1 := 18) (w_runV E kV_CT_221 kc_X11_rememberAct (t_CT_rememberAct l hfl G N this z1.2 r ((fun z => (.inl none, z, r)) z7) (by rw [hz]; rfl)) ⟨Nat.le_of_ble_eq_true rfl, Nat.le_of_ble_eq_true rfl⟩ hw (w_recv E hw (by decide) ⟨_, _, rfl⟩ (ck_ok hck)) rfl hl.1 rfl (Nat.le_of_ble_eq_true rfl) dX11_ties_51 ⟨Nat.le_of_ble_eq_true rfl, Nat.le_of_ble_eq_true rfl⟩) hw rfl (Nat.le_of_ble_eq_true rfl) (Nat.le_of_ble_eq_true rfl) (fun H locs hw => ?_)
      refine W.eq (g2 := F0 m 54 ls []) rfl ?_
      have hw : w_W G z7 r s H locs := hw
      refine lv_aload_n hx hb dX11_ties_54 rfl (lv_at hl 0 rfl) ?_
      refine gx_getR E hw kF_CT_20_10 (by decide) dX11_ties_55 (fun v8 _ => ?_)
      refine lv_iload_n hx hb dX11_ties_58 rfl (lv_at hl 1 rfl) ?_
      refine lv_iload_n hx hb dX11_ties_59 rfl (lv_at hl 2 rfl) ?_
      refine W_bind fun _ hck => ?_
      refine W_bind fun z9 hz => ?_
      refine w_after (cells1 := 3) (slots1 := 18) (w_runV E kV_CT_246 kc_X8_addTie (t_Town_addTie l hfl G v8 a0 a1 z7 r ((fun z => (.inl none, z, r)) z9) (by rw [hz]; rfl)) ⟨Nat.le_of_ble_eq_true rfl, Nat.le_of_ble_eq_true rfl⟩ hw (w_recv E hw (by decide) ⟨_, _, rfl⟩ (ck_ok hck)) rfl hl.1 rfl (Nat.le_of_ble_eq_true rfl) dX11_ties_60 ⟨Nat.le_of_ble_eq_true rfl, Nat.le_of_ble_eq_true rfl⟩) hw rfl (Nat.le_of_ble_eq_true rfl) (Nat.le_of_ble_eq_true rfl) (fun H locs hw => ?_)
      refine W.eq (g2 := F0 m 63 ls []) rfl ?_
      have hw : w_W G z9 r s H locs := hw
      refine lv_aload_n hx hb dX11_ties_63 rfl (lv_at hl 0 rfl) ?_
      refine gx_getR E hw kF_CT_20_10 (by decide) dX11_ties_64 (fun v10 _ => ?_)
      refine gx_getI E hw kF_CT_137_7 (by decide) dX11_ties_67 (fun v11 _ => ?_)
      refine lv_iconst (v := 1) hx hb dX11_ties_70 (by decide) ?_
      refine lv_isub hx hb dX11_ties_71 ?_
      exact p_iret E hw hr (Nat.le_of_ble_eq_true rfl) (Nat.le_of_ble_eq_true rfl) rfl dX11_ties_72
    · exact gx_throw E hno hw kX_CT_244 hl.1 dX11_ties_40 dX11_ties_43 dX11_ties_44 dX11_ties_46 dX11_ties_49 (Nat.le_of_ble_eq_true rfl) (Nat.le_of_ble_eq_true rfl) (Nat.le_of_ble_eq_true rfl) (Nat.le_of_ble_eq_true rfl) (Nat.le_of_ble_eq_true rfl) (Nat.le_of_ble_eq_true rfl) rfl
  · exact gx_throw E hno hw kX_CT_241 hl.1 dX11_ties_18 dX11_ties_21 dX11_ties_22 dX11_ties_24 dX11_ties_27 (Nat.le_of_ble_eq_true rfl) (Nat.le_of_ble_eq_true rfl) (Nat.le_of_ble_eq_true rfl) (Nat.le_of_ble_eq_true rfl) (Nat.le_of_ble_eq_true rfl) (Nat.le_of_ble_eq_true rfl) rfl
set_option maxHeartbeats 4000000 in
set_option maxRecDepth 100000 in
theorem t_Town_removeTie (l : Launch) (hfl : l.stackTraces = false) (G : wG) (N : Nat) (this : Nat) (a0 : Int32) (M : Mem) (r : Rho) : Ctr l yX8_removeTie (wWs yX8_removeTie cX8_removeTie 5 none) rm_Town_removeTie rm_Town_removeTie.cells rm_Town_removeTie.slots G [.ref this, .int a0] M r ((f_Town_removeTie N this a0 M).map (fun z => (.inl none, z, r))) := by
  refine Ctr.ofF (own := "CheekTown$Town") (by decide +kernel) hfl rfl (Nat.le_of_ble_eq_true rfl) (fun p e s m args below meth c E hno hr hnm hw ls hl => ?_)
  obtain ⟨hx, hb, hts, hown, hml, hTT, -⟩ := id E
  have hl : lv_has ls 5 [(0, .ref this), (1, .int a0)] := hl
  obtain ⟨H, hH⟩ : ∃ H, H = s.heap := ⟨_, rfl⟩
  obtain ⟨locs, hlo⟩ : ∃ L : List Loc, L = [] := ⟨_, rfl⟩
  rw [← hH, ← hlo]
  rw [← hlo] at hw
  replace hw : w_W G M r s H locs := by rw [hH]; exact hw
  have w57 : ∀ (n : Nat) (x4 : Int32) (M : Mem) (H : Heap) (locs : List Loc) (ls : Array Slot), w_W G M r s H locs → lv_has ls 5 [(0, .ref this), (4, .int x4)] → W p l e rm_Town_removeTie s m args below meth c H locs 0 0 (PQ G below args s rm_Town_removeTie.cells rm_Town_removeTie.slots (fun z => (.inl none, z, r)) (f_Town_removeTie_57 N this a0 n x4 M)) (F0 m 57 ls []) := by
    intro n
    induction n with
    | zero => intros; exact W_none
    | succ n ih =>
      intro x4 M H locs ls hw hl
      rw [f_Town_removeTie_57]
      refine lv_iload hx hb dX8_removeTie_57 (lv_at hl 1 rfl) ?_
      refine lv_aload_n hx hb dX8_removeTie_59 rfl (lv_at hl 0 rfl) ?_
      refine gx_getI E hw kF_Town_59_7 (by decide) dX8_removeTie_60 (fun v13 _ => ?_)
      refine cx_icmp_ge (tgt := 104) E dX8_removeTie_63 (by decide) (fun _ => ?_) (fun _ => ?_)
      · refine lv_aload_n hx hb dX8_removeTie_104 rfl (lv_at hl 0 rfl) ?_
        refine lv_dup hx hb dX8_removeTie_105 rfl ?_
        refine gx_getI E hw kF_Town_59_7 (by decide) dX8_removeTie_106 (fun v14 _ => ?_)
        refine lv_iconst (v := 1) hx hb dX8_removeTie_109 (by decide) ?_
        refine lv_isub hx hb dX8_removeTie_110 ?_
        refine gx_putI E hw kF_Town_59_7 kT_7_5 (by decide) dX8_removeTie_111 (fun M15 H locs _ hw => ?_)
        exact p_vret E hw hr (Nat.le_of_ble_eq_true rfl) (Nat.le_of_ble_eq_true rfl) rfl dX8_removeTie_114
      · refine lv_aload_n hx hb dX8_removeTie_66 rfl (lv_at hl 0 rfl) ?_
        refine gx_getR E hw kF_Town_24_7 (by decide) dX8_removeTie_67 (fun v16 _ => ?_)
        refine lv_iload hx hb dX8_removeTie_70 (lv_at hl 1 rfl) ?_
        refine lv_iconst (v := 1) hx hb dX8_removeTie_72 (by decide) ?_
        refine lv_isub hx hb dX8_removeTie_73 ?_
        refine lv_aload_n hx hb dX8_removeTie_74 rfl (lv_at hl 0 rfl) ?_
        refine gx_getR E hw kF_Town_24_7 (by decide) dX8_removeTie_75 (fun v17 _ => ?_)
        refine lv_iload hx hb dX8_removeTie_78 (lv_at hl 1 rfl) ?_
        refine gx_iald E hw dX8_removeTie_80 (fun v18 _ => ?_)
        refine gx_iast E hw dX8_removeTie_81 (fun M19 H locs _ hw => ?_)
        refine lv_aload_n hx hb dX8_removeTie_82 rfl (lv_at hl 0 rfl) ?_
        refine gx_getR E hw kF_Town_28_7 (by decide) dX8_removeTie_83 (fun v20 _ => ?_)
        refine lv_iload hx hb dX8_removeTie_86 (lv_at hl 1 rfl) ?_
        refine lv_iconst (v := 1) hx hb dX8_removeTie_88 (by decide) ?_
        refine lv_isub hx hb dX8_removeTie_89 ?_
        refine lv_aload_n hx hb dX8_removeTie_90 rfl (lv_at hl 0 rfl) ?_
        refine gx_getR E hw kF_Town_28_7 (by decide) dX8_removeTie_91 (fun v21 _ => ?_)
        refine lv_iload hx hb dX8_removeTie_94 (lv_at hl 1 rfl) ?_
        refine gx_iald E hw dX8_removeTie_96 (fun v22 _ => ?_)
        refine gx_iast E hw dX8_removeTie_97 (fun M23 H locs _ hw => ?_)
        refine lv_iinc (v := x4 + 1) (lv' := [(4, .int (x4 + 1)), (0, .ref this)]) hx hb dX8_removeTie_98 hl (k := 1) rfl rfl (by decide) rfl (fun ls hl => ?_)
        refine lv_goto (tgt := 57) hx hb dX8_removeTie_101 (by decide) ?_
        exact ih (x4 + 1) M23 _ _ _ hw (lv_sub hl [1, 0] rfl)
  unfold f_Town_removeTie
  refine lv_aload_n hx hb dX8_removeTie_0 rfl (lv_at hl 0 rfl) ?_
  refine gx_getR E hw kF_Town_24_7 (by decide) dX8_removeTie_1 (fun v1 _ => ?_)
  refine lv_iload_n hx hb dX8_removeTie_4 rfl (lv_at hl 1 rfl) ?_
  refine gx_iald E hw dX8_removeTie_5 (fun v2 _ => ?_)
  refine lv_istore_n (lv' := [(2, .int v2), (0, .ref this), (1, .int a0)]) hx hb dX8_removeTie_6 rfl hl (by decide) rfl (fun ls hl => ?_)
  refine lv_aload_n hx hb dX8_removeTie_7 rfl (lv_at hl 1 rfl) ?_
  refine gx_getR E hw kF_Town_28_7 (by decide) dX8_removeTie_8 (fun v3 _ => ?_)
  refine lv_iload_n hx hb dX8_removeTie_11 rfl (lv_at hl 2 rfl) ?_
  refine gx_iald E hw dX8_removeTie_12 (fun v4 _ => ?_)
  refine lv_istore_n (lv' := [(3, .int v4), (2, .int v2), (0, .ref this), (1, .int a0)]) hx hb dX8_removeTie_13 rfl hl (by decide) rfl (fun ls hl => ?_)
  refine lv_aload_n hx hb dX8_removeTie_14 rfl (lv_at hl 2 rfl) ?_
  refine gx_getR E hw kF_Town_20_7 (by decide) dX8_removeTie_15 (fun v5 _ => ?_)
  refine lv_iload_n hx hb dX8_removeTie_18 rfl (lv_at hl 1 rfl) ?_
  refine gx_aald E hw (by decide) dX8_removeTie_19 (fun v6 _ => ?_)
  refine lv_dup hx hb dX8_removeTie_20 rfl ?_
  refine gx_getI E hw kF_Town_99_5 (by decide) dX8_removeTie_21 (fun v7 _ => ?_)
  refine lv_iconst (v := 1) hx hb dX8_removeTie_24 (by decide) ?_
  refine lv_iload_n hx hb dX8_removeTie_25 rfl (lv_at hl 0 rfl) ?_
  refine lv_ishl hx hb dX8_removeTie_26 ?_
  refine lv_iconst (v := (-1)) hx hb dX8_removeTie_27 (by decide) ?_
  refine lv_ixor hx hb dX8_removeTie_28 ?_
  refine lv_iand hx hb dX8_removeTie_29 ?_
  refine gx_putI E hw kF_Town_99_5 kT_5_5 (by decide) dX8_removeTie_30 (fun M8 H locs _ hw => ?_)
  refine lv_aload_n hx hb dX8_removeTie_33 rfl (lv_at hl 2 rfl) ?_
  refine gx_getR E hw kF_Town_20_7 (by decide) dX8_removeTie_34 (fun v9 _ => ?_)
  refine lv_iload_n hx hb dX8_removeTie_37 rfl (lv_at hl 0 rfl) ?_
  refine gx_aald E hw (by decide) dX8_removeTie_38 (fun v10 _ => ?_)
  refine lv_dup hx hb dX8_removeTie_39 rfl ?_
  refine gx_getI E hw kF_Town_99_5 (by decide) dX8_removeTie_40 (fun v11 _ => ?_)
  refine lv_iconst (v := 1) hx hb dX8_removeTie_43 (by decide) ?_
  refine lv_iload_n hx hb dX8_removeTie_44 rfl (lv_at hl 1 rfl) ?_
  refine lv_ishl hx hb dX8_removeTie_45 ?_
  refine lv_iconst (v := (-1)) hx hb dX8_removeTie_46 (by decide) ?_
  refine lv_ixor hx hb dX8_removeTie_47 ?_
  refine lv_iand hx hb dX8_removeTie_48 ?_
  refine gx_putI E hw kF_Town_99_5 kT_5_5 (by decide) dX8_removeTie_49 (fun M12 H locs _ hw => ?_)
  refine lv_iload_n hx hb dX8_removeTie_52 rfl (lv_at hl 3 rfl) ?_
  refine lv_iconst (v := 1) hx hb dX8_removeTie_53 (by decide) ?_
  refine lv_iadd hx hb dX8_removeTie_54 ?_
  refine lv_istore (lv' := [(4, .int (a0 + 1)), (3, .int v4), (2, .int v2), (0, .ref this), (1, .int a0)]) hx hb dX8_removeTie_55 hl (by decide) rfl (fun ls hl => ?_)
  exact w57  N (a0 + 1) M12 _ _ _ hw (lv_sub hl [3, 0] rfl)
set_option maxHeartbeats 4000000 in
set_option maxRecDepth 100000 in
theorem t_CT_cut (l : Launch) (hfl : l.stackTraces = false) (G : wG) (N : Nat) (this : Nat) (a0 : Int32) (M : Mem) (r : Rho) : Ctr l yX11_cut (wWs yX11_cut cX11_cut 2 (some .int)) rm_CT_cut rm_CT_cut.cells rm_CT_cut.slots G [.ref this, .int a0] M r ((f_CT_cut N this a0 M).map (fun z => (z.1.elim (fun v => .inl (some (.int v))) .inr, z.2, r))) := by
  refine Ctr.ofF (own := "CheekTown") (by decide +kernel) hfl rfl (Nat.le_of_ble_eq_true rfl) (fun p e s m args below meth c E hno hr hnm hw ls hl => ?_)
  obtain ⟨hx, hb, hts, hown, hml, hTT, -⟩ := id E
  have hl : lv_has ls 2 [(0, .ref this), (1, .int a0)] := hl
  obtain ⟨H, hH⟩ : ∃ H, H = s.heap := ⟨_, rfl⟩
  obtain ⟨locs, hlo⟩ : ∃ L : List Loc, L = [] := ⟨_, rfl⟩
  rw [← hH, ← hlo]
  rw [← hlo] at hw
  replace hw : w_W G M r s H locs := by rw [hH]; exact hw
  unfold f_CT_cut
  refine lv_aload_n hx hb dX11_cut_0 rfl (lv_at hl 0 rfl) ?_
  refine lv_iload_n hx hb dX11_cut_1 rfl (lv_at hl 1 rfl) ?_
  refine W_bind fun _ hck => ?_
  refine W_bind fun z1 hz => ?_
  refine w_afterS (cells1 := 1) (slots1 := 6) (vv := (fun _ => none)) (w_runV E kV_CT_209 kc_X11_needTie (t_CT_needTie l hfl G this a0 M r ((fun z => (z.1.elim (fun _ => .inl none) .inr, z.2, r)) z1) (by rw [hz]; rfl)) ⟨Nat.le_of_ble_eq_true rfl, Nat.le_of_ble_eq_true rfl⟩ hw (w_recv E hw (by decide) ⟨_, _, rfl⟩ (ck_ok hck)) rfl hl.1 rfl (Nat.le_of_ble_eq_true rfl) dX11_cut_2 ⟨Nat.le_of_ble_eq_true rfl, Nat.le_of_ble_eq_true rfl⟩) hw rfl (Nat.le_of_ble_eq_true rfl) (Nat.le_of_ble_eq_true rfl) (fun v2 H locs _ hw => ?_) (fun E9 H locs q ce _ hw hce hcv hcl => w_out E hno hw hce hcv hcl (Nat.le_of_ble_eq_true rfl) (Nat.le_of_ble_eq_true rfl) rfl)
  refine W.eq (g2 := F0 m 5 ls []) rfl ?_
  have hw : w_W G z1.2 r s H locs := hw
  refine lv_aload_n hx hb dX11_cut_5 rfl (lv_at hl 0 rfl) ?_
  refine W_bind fun _ hck => ?_
  refine W_bind fun z3 hz => ?_
  refine w_after (cells1 := 1) (slots1 := 6) (w_runV E kV_CT_221 kc_X11_rememberAct (t_CT_rememberAct l hfl G N this z1.2 r ((fun z => (.inl none, z, r)) z3) (by rw [hz]; rfl)) ⟨Nat.le_of_ble_eq_true rfl, Nat.le_of_ble_eq_true rfl⟩ hw (w_recv E hw (by decide) ⟨_, _, rfl⟩ (ck_ok hck)) rfl hl.1 rfl (Nat.le_of_ble_eq_true rfl) dX11_cut_6 ⟨Nat.le_of_ble_eq_true rfl, Nat.le_of_ble_eq_true rfl⟩) hw rfl (Nat.le_of_ble_eq_true rfl) (Nat.le_of_ble_eq_true rfl) (fun H locs hw => ?_)
  refine W.eq (g2 := F0 m 9 ls []) rfl ?_
  have hw : w_W G z3 r s H locs := hw
  refine lv_aload_n hx hb dX11_cut_9 rfl (lv_at hl 0 rfl) ?_
  refine gx_getR E hw kF_CT_20_10 (by decide) dX11_cut_10 (fun v4 _ => ?_)
  refine lv_iload_n hx hb dX11_cut_13 rfl (lv_at hl 1 rfl) ?_
  refine W_bind fun _ hck => ?_
  refine W_bind fun z5 hz => ?_
  refine w_after (cells1 := 1) (slots1 := 6) (w_runV E kV_CT_249 kc_X8_removeTie (t_Town_removeTie l hfl G N v4 a0 z3 r ((fun z => (.inl none, z, r)) z5) (by rw [hz]; rfl)) ⟨Nat.le_of_ble_eq_true rfl, Nat.le_of_ble_eq_true rfl⟩ hw (w_recv E hw (by decide) ⟨_, _, rfl⟩ (ck_ok hck)) rfl hl.1 rfl (Nat.le_of_ble_eq_true rfl) dX11_cut_14 ⟨Nat.le_of_ble_eq_true rfl, Nat.le_of_ble_eq_true rfl⟩) hw rfl (Nat.le_of_ble_eq_true rfl) (Nat.le_of_ble_eq_true rfl) (fun H locs hw => ?_)
  refine W.eq (g2 := F0 m 17 ls []) rfl ?_
  have hw : w_W G z5 r s H locs := hw
  refine lv_aload_n hx hb dX11_cut_17 rfl (lv_at hl 0 rfl) ?_
  refine gx_getR E hw kF_CT_20_10 (by decide) dX11_cut_18 (fun v6 _ => ?_)
  refine gx_getI E hw kF_CT_137_7 (by decide) dX11_cut_21 (fun v7 _ => ?_)
  exact p_iret E hw hr (Nat.le_of_ble_eq_true rfl) (Nat.le_of_ble_eq_true rfl) rfl dX11_cut_24
set_option maxHeartbeats 4000000 in
set_option maxRecDepth 100000 in
theorem t_CT_feast (l : Launch) (hfl : l.stackTraces = false) (G : wG) (N : Nat) (this : Nat) (a0 : Int32) (a1 : Int32) (M : Mem) (r : Rho) : Ctr l yX11_feast (wWs yX11_feast cX11_feast 5 (some .int)) rm_CT_feast rm_CT_feast.cells rm_CT_feast.slots G [.ref this, .int a0, .int a1] M r ((f_CT_feast N this a0 a1 M).map (fun z => (z.1.elim (fun v => .inl (some (.int v))) .inr, z.2, r))) := by
  refine Ctr.ofF (own := "CheekTown") (by decide +kernel) hfl rfl (Nat.le_of_ble_eq_true rfl) (fun p e s m args below meth c E hno hr hnm hw ls hl => ?_)
  obtain ⟨hx, hb, hts, hown, hml, hTT, -⟩ := id E
  have hl : lv_has ls 5 [(0, .ref this), (1, .int a0), (2, .int a1)] := hl
  obtain ⟨H, hH⟩ : ∃ H, H = s.heap := ⟨_, rfl⟩
  obtain ⟨locs, hlo⟩ : ∃ L : List Loc, L = [] := ⟨_, rfl⟩
  rw [← hH, ← hlo]
  rw [← hlo] at hw
  replace hw : w_W G M r s H locs := by rw [hH]; exact hw
  have w13 : ∀ (n : Nat) (x3 : Int32) (x4 : Int32) (M : Mem) (H : Heap) (locs : List Loc) (ls : Array Slot), w_W G M r s H locs → lv_has ls 5 [(0, .ref this), (1, .int a0), (2, .int a1), (3, .int x3), (4, .int x4)] → W p l e rm_CT_feast s m args below meth c H locs 1 6 (PQ G below args s rm_CT_feast.cells rm_CT_feast.slots (fun z => (z.1.elim (fun v => .inl (some (.int v))) .inr, z.2, r)) (f_CT_feast_13 N this a0 a1 n x3 x4 M)) (F0 m 13 ls []) := by
    intro n
    induction n with
    | zero => intros; exact W_none
    | succ n ih =>
      intro x3 x4 M H locs ls hw hl
      rw [f_CT_feast_13]
      refine lv_iload hx hb dX11_feast_13 (lv_at hl 4 rfl) ?_
      refine lv_aload_n hx hb dX11_feast_15 rfl (lv_at hl 0 rfl) ?_
      refine gx_getR E hw kF_CT_20_10 (by decide) dX11_feast_16 (fun v4 _ => ?_)
      refine gx_getI E hw kF_CT_127_7 (by decide) dX11_feast_19 (fun v5 _ => ?_)
      refine cx_icmp_ge (tgt := 78) E dX11_feast_22 (by decide) (fun _ => ?_) (fun _ => ?_)
      · refine lv_iload_n hx hb dX11_feast_78 rfl (lv_at hl 3 rfl) ?_
        exact p_iret E hw hr (Nat.le_of_ble_eq_true rfl) (Nat.le_of_ble_eq_true rfl) rfl dX11_feast_79
      · refine lv_iload_n hx hb dX11_feast_25 rfl (lv_at hl 1 rfl) ?_
        refine lv_iload hx hb dX11_feast_26 (lv_at hl 4 rfl) ?_
        refine W_bind fun z6 hz => ?_
        refine w_after (cells1 := 1) (slots1 := 6) (w_runS E kS_CT_252 kc_X11_isIn (t_CT_isIn l hfl G a0 x4 M r ((fun z => (.inl (some (.int z)), M, r)) z6) (by rw [hz]; rfl)) ⟨Nat.le_of_ble_eq_true rfl, Nat.le_of_ble_eq_true rfl⟩ hw rfl hl.1 rfl (Nat.le_of_ble_eq_true rfl) dX11_feast_28 ⟨Nat.le_of_ble_eq_true rfl, Nat.le_of_ble_eq_true rfl⟩) hw rfl (Nat.le_of_ble_eq_true rfl) (Nat.le_of_ble_eq_true rfl) (fun H locs hw => ?_)
        refine W.eq (g2 := F0 m 31 ls [.int z6]) rfl ?_
        have hw : w_W G M r s H locs := hw
        refine cx_if_eq (tgt := 72) E dX11_feast_31 (by decide) (fun _ => ?_) (fun _ => ?_)
        · refine lv_iinc (v := x4 + 1) (lv' := [(4, .int (x4 + 1)), (0, .ref this), (1, .int a0), (2, .int a1), (3, .int x3)]) hx hb dX11_feast_72 hl (k := 4) rfl rfl (by decide) rfl (fun ls hl => ?_)
          refine lv_goto (tgt := 13) hx hb dX11_feast_75 (by decide) ?_
          exact ih x3 (x4 + 1) M _ _ _ hw (lv_sub hl [1, 2, 3, 4, 0] rfl)
        · refine lv_aload_n hx hb dX11_feast_34 rfl (lv_at hl 0 rfl) ?_
          refine gx_getR E hw kF_CT_20_10 (by decide) dX11_feast_35 (fun v7 _ => ?_)
          refine gx_getR E hw kF_CT_172_7 (by decide) dX11_feast_38 (fun v8 _ => ?_)
          refine lv_iload hx hb dX11_feast_41 (lv_at hl 4 rfl) ?_
          refine gx_aald E hw (by decide) dX11_feast_43 (fun v9 _ => ?_)
          refine gx_getI E hw kF_CT_181_5 (by decide) dX11_feast_44 (fun v10 _ => ?_)
          refine lv_iload_n hx hb dX11_feast_47 rfl (lv_at hl 2 rfl) ?_
          refine cx_icmp_eq (tgt := 72) E dX11_feast_48 (by decide) (fun _ => ?_) (fun _ => ?_)
          · refine lv_iinc (v := x4 + 1) (lv' := [(4, .int (x4 + 1)), (0, .ref this), (1, .int a0), (2, .int a1), (3, .int x3)]) hx hb dX11_feast_72 hl (k := 4) rfl rfl (by decide) rfl (fun ls hl => ?_)
            refine lv_goto (tgt := 13) hx hb dX11_feast_75 (by decide) ?_
            exact ih x3 (x4 + 1) M _ _ _ hw (lv_sub hl [1, 2, 3, 4, 0] rfl)
          · refine lv_aload_n hx hb dX11_feast_51 rfl (lv_at hl 0 rfl) ?_
            refine gx_getR E hw kF_CT_20_10 (by decide) dX11_feast_52 (fun v11 _ => ?_)
            refine gx_getR E hw kF_CT_172_7 (by decide) dX11_feast_55 (fun v12 _ => ?_)
            refine lv_iload hx hb dX11_feast_58 (lv_at hl 4 rfl) ?_
            refine gx_aald E hw (by decide) dX11_feast_60 (fun v13 _ => ?_)
            refine lv_iload_n hx hb dX11_feast_61 rfl (lv_at hl 2 rfl) ?_
            refine gx_putI E hw kF_CT_181_5 kT_5_1 (by decide) dX11_feast_62 (fun M14 H locs _ hw => ?_)
            refine lv_iload_n hx hb dX11_feast_65 rfl (lv_at hl 3 rfl) ?_
            refine lv_iconst (v := 1) hx hb dX11_feast_66 (by decide) ?_
            refine lv_iload hx hb dX11_feast_67 (lv_at hl 4 rfl) ?_
            refine lv_ishl hx hb dX11_feast_69 ?_
            refine lv_ior hx hb dX11_feast_70 ?_
            refine lv_istore_n (lv' := [(3, .int (x3 ||| (1 <<< (x4 &&& 31)))), (0, .ref this), (1, .int a0), (2, .int a1), (4, .int x4)]) hx hb dX11_feast_71 rfl hl (by decide) rfl (fun ls hl => ?_)
            refine lv_iinc (v := x4 + 1) (lv' := [(4, .int (x4 + 1)), (3, .int (x3 ||| (1 <<< (x4 &&& 31)))), (0, .ref this), (1, .int a0), (2, .int a1)]) hx hb dX11_feast_72 hl (k := 4) rfl rfl (by decide) rfl (fun ls hl => ?_)
            refine lv_goto (tgt := 13) hx hb dX11_feast_75 (by decide) ?_
            exact ih (x3 ||| (1 <<< (x4 &&& 31))) (x4 + 1) M14 _ _ _ hw (lv_sub hl [2, 3, 4, 1, 0] rfl)
  unfold f_CT_feast
  refine lv_iload_n hx hb dX11_feast_0 rfl (lv_at hl 2 rfl) ?_
  refine W_bind fun z1 hz => ?_
  refine w_afterS (cells1 := 1) (slots1 := 6) (vv := (fun _ => none)) (w_runS E kS_CT_149 kc_X11_needGreeting (t_CT_needGreeting l hfl G a1 M r ((fun z => (z.1.elim (fun _ => .inl none) .inr, z.2, r)) z1) (by rw [hz]; rfl)) ⟨Nat.le_of_ble_eq_true rfl, Nat.le_of_ble_eq_true rfl⟩ hw rfl hl.1 rfl (Nat.le_of_ble_eq_true rfl) dX11_feast_1 ⟨Nat.le_of_ble_eq_true rfl, Nat.le_of_ble_eq_true rfl⟩) hw rfl (Nat.le_of_ble_eq_true rfl) (Nat.le_of_ble_eq_true rfl) (fun v2 H locs _ hw => ?_) (fun E9 H locs q ce _ hw hce hcv hcl => w_out E hno hw hce hcv hcl (Nat.le_of_ble_eq_true rfl) (Nat.le_of_ble_eq_true rfl) rfl)
  refine W.eq (g2 := F0 m 4 ls []) rfl ?_
  have hw : w_W G z1.2 r s H locs := hw
  refine lv_aload_n hx hb dX11_feast_4 rfl (lv_at hl 0 rfl) ?_
  refine W_bind fun _ hck => ?_
  refine W_bind fun z3 hz => ?_
  refine w_after (cells1 := 1) (slots1 := 6) (w_runV E kV_CT_221 kc_X11_rememberAct (t_CT_rememberAct l hfl G N this z1.2 r ((fun z => (.inl none, z, r)) z3) (by rw [hz]; rfl)) ⟨Nat.le_of_ble_eq_true rfl, Nat.le_of_ble_eq_true rfl⟩ hw (w_recv E hw (by decide) ⟨_, _, rfl⟩ (ck_ok hck)) rfl hl.1 rfl (Nat.le_of_ble_eq_true rfl) dX11_feast_5 ⟨Nat.le_of_ble_eq_true rfl, Nat.le_of_ble_eq_true rfl⟩) hw rfl (Nat.le_of_ble_eq_true rfl) (Nat.le_of_ble_eq_true rfl) (fun H locs hw => ?_)
  refine W.eq (g2 := F0 m 8 ls []) rfl ?_
  have hw : w_W G z3 r s H locs := hw
  refine lv_iconst (v := 0) hx hb dX11_feast_8 (by decide) ?_
  refine lv_istore_n (lv' := [(3, .int 0), (0, .ref this), (1, .int a0), (2, .int a1)]) hx hb dX11_feast_9 rfl hl (by decide) rfl (fun ls hl => ?_)
  refine lv_iconst (v := 0) hx hb dX11_feast_10 (by decide) ?_
  refine lv_istore (lv' := [(4, .int 0), (3, .int 0), (0, .ref this), (1, .int a0), (2, .int a1)]) hx hb dX11_feast_11 hl (by decide) rfl (fun ls hl => ?_)
  exact w13  N 0 0 z3 _ _ _ hw (lv_sub hl [2, 3, 4, 1, 0] rfl)

