set_option maxHeartbeats 4000000 in
set_option maxRecDepth 100000 in
theorem t_TR_readCold (l : Launch) (hfl : l.stackTraces = false) (G : wG) (N : Nat) (this : Nat) (M : Mem) (r : Rho) : Ctr l yX9_readCold (wWs yX9_readCold cX9_readCold 2 none) rm_TR_readCold rm_TR_readCold.cells rm_TR_readCold.slots G [.ref this] M r ((f_TR_readCold N this M).map (fun z => (.inl none, z, r))) := by
  refine Ctr.ofF (own := "CheekTown$TownReade\x72") (by decide +kernel) hfl rfl (Nat.le_of_ble_eq_true rfl) (fun p e s m args below meth c E hno hr hnm hw ls hl => ?_)
  obtain ⟨hx, hb, hts, hown, hml, hTT, -⟩ := id E
  have hl : lv_has ls 2 [(0, .ref this)] := hl
  obtain ⟨H, hH⟩ : ∃ H, H = s.heap := ⟨_, rfl⟩
  obtain ⟨locs, hlo⟩ : ∃ L : List Loc, L = [] := ⟨_, rfl⟩
  rw [← hH, ← hlo]
  rw [← hlo] at hw
  replace hw : w_W G M r s H locs := by rw [hH]; exact hw
  unfold f_TR_readCold
  refine lv_aload_n hx hb dX9_readCold_0 rfl (lv_at hl 0 rfl) ?_
  refine lv_iconst (v := 0) hx hb dX9_readCold_1 (by decide) ?_
  refine lv_aload_n hx hb dX9_readCold_2 rfl (lv_at hl 0 rfl) ?_
  refine gx_getR E hw kF_TR_9_8 (by decide) dX9_readCold_3 (fun v1 _ => ?_)
  refine gx_getI E hw kF_TR_88_7 (by decide) dX9_readCold_6 (fun v2 _ => ?_)
  refine lv_iconst (v := 1) hx hb dX9_readCold_9 (by decide) ?_
  refine lv_isub hx hb dX9_readCold_10 ?_
  refine W_bind fun _ hck => ?_
  refine W_bind fun z3 hz => ?_
  refine w_after (cells1 := 0) (slots1 := 0) (w_runU E kU_TR_66_TR kc_X7_readNumber (t_TxR_readNumber_8 l hfl G N this 0 (v2 - 1) M r ((fun z => (.inl (some (.int z.1)), z.2, r)) z3) (by rw [hz]; rfl)) ⟨Nat.le_of_ble_eq_true rfl, Nat.le_of_ble_eq_true rfl⟩ hw (w_recv E hw (by decide) ⟨_, _, rfl⟩ (ck_ok hck)) rfl hl.1 rfl (Nat.le_of_ble_eq_true rfl) dX9_readCold_11 ⟨Nat.le_of_ble_eq_true rfl, Nat.le_of_ble_eq_true rfl⟩) hw rfl (Nat.le_of_ble_eq_true rfl) (Nat.le_of_ble_eq_true rfl) (fun H locs hw => ?_)
  refine W.eq (g2 := F0 m 14 ls [.int z3.1]) rfl ?_
  have hw : w_W G z3.2 r s H locs := hw
  refine lv_istore_n (lv' := [(1, .int z3.1), (0, .ref this)]) hx hb dX9_readCold_14 rfl hl (by decide) rfl (fun ls hl => ?_)
  refine lv_aload_n hx hb dX9_readCold_15 rfl (lv_at hl 1 rfl) ?_
  refine W_bind fun _ hck => ?_
  refine W_bind fun z4 hz => ?_
  refine w_after (cells1 := 0) (slots1 := 0) (w_runU E kU_TR_80_TR kc_X7_isWrong (t_TxR_isWrong_8 l hfl G this z3.2 r ((fun z => (.inl (some (.int z)), z3.2, r)) z4) (by rw [hz]; rfl)) ⟨Nat.le_of_ble_eq_true rfl, Nat.le_of_ble_eq_true rfl⟩ hw (w_recv E hw (by decide) ⟨_, _, rfl⟩ (ck_ok hck)) rfl hl.1 rfl (Nat.le_of_ble_eq_true rfl) dX9_readCold_16 ⟨Nat.le_of_ble_eq_true rfl, Nat.le_of_ble_eq_true rfl⟩) hw rfl (Nat.le_of_ble_eq_true rfl) (Nat.le_of_ble_eq_true rfl) (fun H locs hw => ?_)
  refine W.eq (g2 := F0 m 19 ls [.int z4]) rfl ?_
  have hw : w_W G z3.2 r s H locs := hw
  refine cx_if_ne (tgt := 35) E dX9_readCold_19 (by decide) (fun _ => ?_) (fun _ => ?_)
  · exact p_vret E hw hr (Nat.le_of_ble_eq_true rfl) (Nat.le_of_ble_eq_true rfl) rfl dX9_readCold_35
  · refine lv_aload_n hx hb dX9_readCold_22 rfl (lv_at hl 1 rfl) ?_
    refine gx_getR E hw kF_TR_9_8 (by decide) dX9_readCold_23 (fun v5 _ => ?_)
    refine gx_getR E hw kF_TR_101_7 (by decide) dX9_readCold_26 (fun v6 _ => ?_)
    refine lv_iload_n hx hb dX9_readCold_29 rfl (lv_at hl 0 rfl) ?_
    refine gx_aald E hw (by decide) dX9_readCold_30 (fun v7 _ => ?_)
    refine lv_iconst (v := 1) hx hb dX9_readCold_31 (by decide) ?_
    refine gx_putZ E hw kF_TR_105_5 kT_5_4 (by decide) dX9_readCold_32 (fun M8 H locs _ hw => ?_)
    exact p_vret E hw hr (Nat.le_of_ble_eq_true rfl) (Nat.le_of_ble_eq_true rfl) rfl dX9_readCold_35
set_option maxHeartbeats 4000000 in
set_option maxRecDepth 100000 in
theorem t_Town_areTied (l : Launch) (hfl : l.stackTraces = false) (G : wG) (this : Nat) (a0 : Int32) (a1 : Int32) (M : Mem) (r : Rho) : Ctr l yX8_areTied (wWs yX8_areTied cX8_areTied 3 (some .boolean)) rm_Town_areTied rm_Town_areTied.cells rm_Town_areTied.slots G [.ref this, .int a0, .int a1] M r ((f_Town_areTied this a0 a1 M).map (fun z => (.inl (some (.int z)), M, r))) := by
  refine Ctr.ofF (own := "CheekTown$Town") (by decide +kernel) hfl rfl (Nat.le_of_ble_eq_true rfl) (fun p e s m args below meth c E hno hr hnm hw ls hl => ?_)
  obtain ⟨hx, hb, hts, hown, hml, hTT, -⟩ := id E
  have hl : lv_has ls 3 [(0, .ref this), (1, .int a0), (2, .int a1)] := hl
  obtain ⟨H, hH⟩ : ∃ H, H = s.heap := ⟨_, rfl⟩
  obtain ⟨locs, hlo⟩ : ∃ L : List Loc, L = [] := ⟨_, rfl⟩
  rw [← hH, ← hlo]
  rw [← hlo] at hw
  replace hw : w_W G M r s H locs := by rw [hH]; exact hw
  unfold f_Town_areTied
  refine lv_aload_n hx hb dX8_areTied_0 rfl (lv_at hl 0 rfl) ?_
  refine gx_getR E hw kF_Town_20_7 (by decide) dX8_areTied_1 (fun v1 _ => ?_)
  refine lv_iload_n hx hb dX8_areTied_4 rfl (lv_at hl 1 rfl) ?_
  refine gx_aald E hw (by decide) dX8_areTied_5 (fun v2 _ => ?_)
  refine gx_getI E hw kF_Town_99_5 (by decide) dX8_areTied_6 (fun v3 _ => ?_)
  refine lv_iload_n hx hb dX8_areTied_9 rfl (lv_at hl 2 rfl) ?_
  refine W_bind fun z4 hz => ?_
  refine w_after (cells1 := 0) (slots1 := 0) (w_runSN E kSN_Town_102 kc_X11_isIn (t_CT_isIn l hfl G v3 a1 M r ((fun z => (.inl (some (.int z)), M, r)) z4) (by rw [hz]; rfl)) ⟨Nat.le_of_ble_eq_true rfl, Nat.le_of_ble_eq_true rfl⟩ hw rfl hl.1 rfl (Nat.le_of_ble_eq_true rfl) dX8_areTied_10 ⟨Nat.le_of_ble_eq_true rfl, Nat.le_of_ble_eq_true rfl⟩) hw rfl (Nat.le_of_ble_eq_true rfl) (Nat.le_of_ble_eq_true rfl) (fun H locs hw => ?_)
  refine W.eq (g2 := F0 m 13 ls [.int z4]) rfl ?_
  have hw : w_W G M r s H locs := hw
  refine W_bind fun z5 hz => ?_
  obtain ⟨rfl, hz0⟩ := zg_ok hz
  exact p_zret E hw hr hz0 (Nat.le_of_ble_eq_true rfl) (Nat.le_of_ble_eq_true rfl) rfl dX8_areTied_13
set_option maxHeartbeats 4000000 in
set_option maxRecDepth 100000 in
theorem t_Town_addTie (l : Launch) (hfl : l.stackTraces = false) (G : wG) (this : Nat) (a0 : Int32) (a1 : Int32) (M : Mem) (r : Rho) : Ctr l yX8_addTie (wWs yX8_addTie cX8_addTie 3 none) rm_Town_addTie rm_Town_addTie.cells rm_Town_addTie.slots G [.ref this, .int a0, .int a1] M r ((f_Town_addTie this a0 a1 M).map (fun z => (.inl none, z, r))) := by
  refine Ctr.ofF (own := "CheekTown$Town") (by decide +kernel) hfl rfl (Nat.le_of_ble_eq_true rfl) (fun p e s m args below meth c E hno hr hnm hw ls hl => ?_)
  obtain ⟨hx, hb, hts, hown, hml, hTT, -⟩ := id E
  have hl : lv_has ls 3 [(0, .ref this), (1, .int a0), (2, .int a1)] := hl
  obtain ⟨H, hH⟩ : ∃ H, H = s.heap := ⟨_, rfl⟩
  obtain ⟨locs, hlo⟩ : ∃ L : List Loc, L = [] := ⟨_, rfl⟩
  rw [← hH, ← hlo]
  rw [← hlo] at hw
  replace hw : w_W G M r s H locs := by rw [hH]; exact hw
  unfold f_Town_addTie
  refine lv_aload_n hx hb dX8_addTie_0 rfl (lv_at hl 0 rfl) ?_
  refine gx_getI E hw kF_Town_59_7 (by decide) dX8_addTie_1 (fun v1 _ => ?_)
  refine lv_bipush (v := 24) hx hb dX8_addTie_4 (by decide) ?_
  refine cx_icmp_ge (tgt := 73) E dX8_addTie_6 (by decide) (fun _ => ?_) (fun _ => ?_)
  · exact p_vret E hw hr (Nat.le_of_ble_eq_true rfl) (Nat.le_of_ble_eq_true rfl) rfl dX8_addTie_73
  · refine lv_aload_n hx hb dX8_addTie_9 rfl (lv_at hl 0 rfl) ?_
    refine gx_getR E hw kF_Town_24_7 (by decide) dX8_addTie_10 (fun v2 _ => ?_)
    refine lv_aload_n hx hb dX8_addTie_13 rfl (lv_at hl 0 rfl) ?_
    refine gx_getI E hw kF_Town_59_7 (by decide) dX8_addTie_14 (fun v3 _ => ?_)
    refine lv_iload_n hx hb dX8_addTie_17 rfl (lv_at hl 1 rfl) ?_
    refine gx_iast E hw dX8_addTie_18 (fun M4 H locs _ hw => ?_)
    refine lv_aload_n hx hb dX8_addTie_19 rfl (lv_at hl 0 rfl) ?_
    refine gx_getR E hw kF_Town_28_7 (by decide) dX8_addTie_20 (fun v5 _ => ?_)
    refine lv_aload_n hx hb dX8_addTie_23 rfl (lv_at hl 0 rfl) ?_
    refine gx_getI E hw kF_Town_59_7 (by decide) dX8_addTie_24 (fun v6 _ => ?_)
    refine lv_iload_n hx hb dX8_addTie_27 rfl (lv_at hl 2 rfl) ?_
    refine gx_iast E hw dX8_addTie_28 (fun M7 H locs _ hw => ?_)
    refine lv_aload_n hx hb dX8_addTie_29 rfl (lv_at hl 0 rfl) ?_
    refine lv_dup hx hb dX8_addTie_30 rfl ?_
    refine gx_getI E hw kF_Town_59_7 (by decide) dX8_addTie_31 (fun v8 _ => ?_)
    refine lv_iconst (v := 1) hx hb dX8_addTie_34 (by decide) ?_
    refine lv_iadd hx hb dX8_addTie_35 ?_
    refine gx_putI E hw kF_Town_59_7 kT_7_5 (by decide) dX8_addTie_36 (fun M9 H locs _ hw => ?_)
    refine lv_aload_n hx hb dX8_addTie_39 rfl (lv_at hl 0 rfl) ?_
    refine gx_getR E hw kF_Town_20_7 (by decide) dX8_addTie_40 (fun v10 _ => ?_)
    refine lv_iload_n hx hb dX8_addTie_43 rfl (lv_at hl 1 rfl) ?_
    refine gx_aald E hw (by decide) dX8_addTie_44 (fun v11 _ => ?_)
    refine lv_dup hx hb dX8_addTie_45 rfl ?_
    refine gx_getI E hw kF_Town_99_5 (by decide) dX8_addTie_46 (fun v12 _ => ?_)
    refine lv_iconst (v := 1) hx hb dX8_addTie_49 (by decide) ?_
    refine lv_iload_n hx hb dX8_addTie_50 rfl (lv_at hl 2 rfl) ?_
    refine lv_ishl hx hb dX8_addTie_51 ?_
    refine lv_ior hx hb dX8_addTie_52 ?_
    refine gx_putI E hw kF_Town_99_5 kT_5_5 (by decide) dX8_addTie_53 (fun M13 H locs _ hw => ?_)
    refine lv_aload_n hx hb dX8_addTie_56 rfl (lv_at hl 0 rfl) ?_
    refine gx_getR E hw kF_Town_20_7 (by decide) dX8_addTie_57 (fun v14 _ => ?_)
    refine lv_iload_n hx hb dX8_addTie_60 rfl (lv_at hl 2 rfl) ?_
    refine gx_aald E hw (by decide) dX8_addTie_61 (fun v15 _ => ?_)
    refine lv_dup hx hb dX8_addTie_62 rfl ?_
    refine gx_getI E hw kF_Town_99_5 (by decide) dX8_addTie_63 (fun v16 _ => ?_)
    refine lv_iconst (v := 1) hx hb dX8_addTie_66 (by decide) ?_
    refine lv_iload_n hx hb dX8_addTie_67 rfl (lv_at hl 1 rfl) ?_
    refine lv_ishl hx hb dX8_addTie_68 ?_
    refine lv_ior hx hb dX8_addTie_69 ?_
    refine gx_putI E hw kF_Town_99_5 kT_5_5 (by decide) dX8_addTie_70 (fun M17 H locs _ hw => ?_)
    exact p_vret E hw hr (Nat.le_of_ble_eq_true rfl) (Nat.le_of_ble_eq_true rfl) rfl dX8_addTie_73
set_option maxHeartbeats 4000000 in
set_option maxRecDepth 100000 in
theorem t_TR_readTie (l : Launch) (hfl : l.stackTraces = false) (G : wG) (N : Nat) (this : Nat) (M : Mem) (r : Rho) : Ctr l yX9_readTie (wWs yX9_readTie cX9_readTie 3 none) rm_TR_readTie rm_TR_readTie.cells rm_TR_readTie.slots G [.ref this] M r ((f_TR_readTie N this M).map (fun z => (.inl none, z, r))) := by
  refine Ctr.ofF (own := "CheekTown$TownReade\x72") (by decide +kernel) hfl rfl (Nat.le_of_ble_eq_true rfl) (fun p e s m args below meth c E hno hr hnm hw ls hl => ?_)
  obtain ⟨hx, hb, hts, hown, hml, hTT, -⟩ := id E
  have hl : lv_has ls 3 [(0, .ref this)] := hl
  obtain ⟨H, hH⟩ : ∃ H, H = s.heap := ⟨_, rfl⟩
  obtain ⟨locs, hlo⟩ : ∃ L : List Loc, L = [] := ⟨_, rfl⟩
  rw [← hH, ← hlo]
  rw [← hlo] at hw
  replace hw : w_W G M r s H locs := by rw [hH]; exact hw
  have w71 : ∀ (M : Mem) (H : Heap) (locs : List Loc) (ls : Array Slot), w_W G M r s H locs → lv_has ls 3 [(0, .ref this)] → W p l e rm_TR_readTie s m args below meth c H locs 0 0 (PQ G below args s rm_TR_readTie.cells rm_TR_readTie.slots (fun z => (.inl none, z, r)) (f_TR_readTie_71 N this M)) (F0 m 71 ls []) := by
    intro M H locs ls hw hl
    unfold f_TR_readTie_71
    refine lv_aload_n hx hb dX9_readTie_71 rfl (lv_at hl 0 rfl) ?_
    refine W_bind fun _ hck => ?_
    refine W_bind fun z15 hz => ?_
    refine w_after (cells1 := 0) (slots1 := 0) (w_runU E kU_TR_60_TR kc_X7_takenIsWrong (t_TxR_takenIsWrong_8 l hfl G this M r ((fun z => (.inl none, z, r)) z15) (by rw [hz]; rfl)) ⟨Nat.le_of_ble_eq_true rfl, Nat.le_of_ble_eq_true rfl⟩ hw (w_recv E hw (by decide) ⟨_, _, rfl⟩ (ck_ok hck)) rfl hl.1 rfl (Nat.le_of_ble_eq_true rfl) dX9_readTie_72 ⟨Nat.le_of_ble_eq_true rfl, Nat.le_of_ble_eq_true rfl⟩) hw rfl (Nat.le_of_ble_eq_true rfl) (Nat.le_of_ble_eq_true rfl) (fun H locs hw => ?_)
    refine W.eq (g2 := F0 m 75 ls []) rfl ?_
    have hw : w_W G z15 r s H locs := hw
    refine lv_goto (tgt := 87) hx hb dX9_readTie_75 (by decide) ?_
    exact p_vret E hw hr (Nat.le_of_ble_eq_true rfl) (Nat.le_of_ble_eq_true rfl) rfl dX9_readTie_87
  have w16 : ∀ (M : Mem) (H : Heap) (locs : List Loc) (ls : Array Slot), w_W G M r s H locs → lv_has ls 3 [(0, .ref this)] → W p l e rm_TR_readTie s m args below meth c H locs 0 0 (PQ G below args s rm_TR_readTie.cells rm_TR_readTie.slots (fun z => (.inl none, z, r)) (f_TR_readTie_16 N this M)) (F0 m 16 ls []) := by
    intro M H locs ls hw hl
    unfold f_TR_readTie_16
    refine lv_aload_n hx hb dX9_readTie_16 rfl (lv_at hl 0 rfl) ?_
    refine lv_iconst (v := 0) hx hb dX9_readTie_17 (by decide) ?_
    refine lv_aload_n hx hb dX9_readTie_18 rfl (lv_at hl 0 rfl) ?_
    refine gx_getR E hw kF_TR_9_8 (by decide) dX9_readTie_19 (fun v4 _ => ?_)
    refine gx_getI E hw kF_TR_88_7 (by decide) dX9_readTie_22 (fun v5 _ => ?_)
    refine lv_iconst (v := 1) hx hb dX9_readTie_25 (by decide) ?_
    refine lv_isub hx hb dX9_readTie_26 ?_
    refine W_bind fun _ hck => ?_
    refine W_bind fun z6 hz => ?_
    refine w_after (cells1 := 0) (slots1 := 0) (w_runU E kU_TR_66_TR kc_X7_readNumber (t_TxR_readNumber_8 l hfl G N this 0 (v5 - 1) M r ((fun z => (.inl (some (.int z.1)), z.2, r)) z6) (by rw [hz]; rfl)) ⟨Nat.le_of_ble_eq_true rfl, Nat.le_of_ble_eq_true rfl⟩ hw (w_recv E hw (by decide) ⟨_, _, rfl⟩ (ck_ok hck)) rfl hl.1 rfl (Nat.le_of_ble_eq_true rfl) dX9_readTie_27 ⟨Nat.le_of_ble_eq_true rfl, Nat.le_of_ble_eq_true rfl⟩) hw rfl (Nat.le_of_ble_eq_true rfl) (Nat.le_of_ble_eq_true rfl) (fun H locs hw => ?_)
    refine W.eq (g2 := F0 m 30 ls [.int z6.1]) rfl ?_
    have hw : w_W G z6.2 r s H locs := hw
    refine lv_istore_n (lv' := [(1, .int z6.1), (0, .ref this)]) hx hb dX9_readTie_30 rfl hl (by decide) rfl (fun ls hl => ?_)
    refine lv_aload_n hx hb dX9_readTie_31 rfl (lv_at hl 1 rfl) ?_
    refine lv_iconst (v := 0) hx hb dX9_readTie_32 (by decide) ?_
    refine lv_aload_n hx hb dX9_readTie_33 rfl (lv_at hl 1 rfl) ?_
    refine gx_getR E hw kF_TR_9_8 (by decide) dX9_readTie_34 (fun v7 _ => ?_)
    refine gx_getI E hw kF_TR_88_7 (by decide) dX9_readTie_37 (fun v8 _ => ?_)
    refine lv_iconst (v := 1) hx hb dX9_readTie_40 (by decide) ?_
    refine lv_isub hx hb dX9_readTie_41 ?_
    refine W_bind fun _ hck => ?_
    refine W_bind fun z9 hz => ?_
    refine w_after (cells1 := 0) (slots1 := 0) (w_runU E kU_TR_66_TR kc_X7_readNumber (t_TxR_readNumber_8 l hfl G N this 0 (v8 - 1) z6.2 r ((fun z => (.inl (some (.int z.1)), z.2, r)) z9) (by rw [hz]; rfl)) ⟨Nat.le_of_ble_eq_true rfl, Nat.le_of_ble_eq_true rfl⟩ hw (w_recv E hw (by decide) ⟨_, _, rfl⟩ (ck_ok hck)) rfl hl.1 rfl (Nat.le_of_ble_eq_true rfl) dX9_readTie_42 ⟨Nat.le_of_ble_eq_true rfl, Nat.le_of_ble_eq_true rfl⟩) hw rfl (Nat.le_of_ble_eq_true rfl) (Nat.le_of_ble_eq_true rfl) (fun H locs hw => ?_)
    refine W.eq (g2 := F0 m 45 ls [.int z9.1]) rfl ?_
    have hw : w_W G z9.2 r s H locs := hw
    refine lv_istore_n (lv' := [(2, .int z9.1), (1, .int z6.1), (0, .ref this)]) hx hb dX9_readTie_45 rfl hl (by decide) rfl (fun ls hl => ?_)
    refine lv_aload_n hx hb dX9_readTie_46 rfl (lv_at hl 2 rfl) ?_
    refine W_bind fun _ hck => ?_
    refine W_bind fun z10 hz => ?_
    refine w_after (cells1 := 0) (slots1 := 0) (w_runU E kU_TR_80_TR kc_X7_isWrong (t_TxR_isWrong_8 l hfl G this z9.2 r ((fun z => (.inl (some (.int z)), z9.2, r)) z10) (by rw [hz]; rfl)) ⟨Nat.le_of_ble_eq_true rfl, Nat.le_of_ble_eq_true rfl⟩ hw (w_recv E hw (by decide) ⟨_, _, rfl⟩ (ck_ok hck)) rfl hl.1 rfl (Nat.le_of_ble_eq_true rfl) dX9_readTie_47 ⟨Nat.le_of_ble_eq_true rfl, Nat.le_of_ble_eq_true rfl⟩) hw rfl (Nat.le_of_ble_eq_true rfl) (Nat.le_of_ble_eq_true rfl) (fun H locs hw => ?_)
    refine W.eq (g2 := F0 m 50 ls [.int z10]) rfl ?_
    have hw : w_W G z9.2 r s H locs := hw
    refine cx_if_eq (tgt := 54) E dX9_readTie_50 (by decide) (fun _ => ?_) (fun _ => ?_)
    · refine lv_iload_n hx hb dX9_readTie_54 rfl (lv_at hl 1 rfl) ?_
      refine lv_iload_n hx hb dX9_readTie_55 rfl (lv_at hl 0 rfl) ?_
      refine cx_icmp_eq (tgt := 71) E dX9_readTie_56 (by decide) (fun _ => ?_) (fun _ => ?_)
      · exact w71  z9.2 _ _ _ hw (lv_sub hl [2] rfl)
      · refine lv_aload_n hx hb dX9_readTie_59 rfl (lv_at hl 2 rfl) ?_
        refine gx_getR E hw kF_TR_9_8 (by decide) dX9_readTie_60 (fun v11 _ => ?_)
        refine lv_iload_n hx hb dX9_readTie_63 rfl (lv_at hl 1 rfl) ?_
        refine lv_iload_n hx hb dX9_readTie_64 rfl (lv_at hl 0 rfl) ?_
        refine W_bind fun _ hck => ?_
        refine W_bind fun z12 hz => ?_
        refine w_after (cells1 := 0) (slots1 := 0) (w_runV E kV_TR_112 kc_X8_areTied (t_Town_areTied l hfl G v11 z6.1 z9.1 z9.2 r ((fun z => (.inl (some (.int z)), z9.2, r)) z12) (by rw [hz]; rfl)) ⟨Nat.le_of_ble_eq_true rfl, Nat.le_of_ble_eq_true rfl⟩ hw (w_recv E hw (by decide) ⟨_, _, rfl⟩ (ck_ok hck)) rfl hl.1 rfl (Nat.le_of_ble_eq_true rfl) dX9_readTie_65 ⟨Nat.le_of_ble_eq_true rfl, Nat.le_of_ble_eq_true rfl⟩) hw rfl (Nat.le_of_ble_eq_true rfl) (Nat.le_of_ble_eq_true rfl) (fun H locs hw => ?_)
        refine W.eq (g2 := F0 m 68 ls [.int z12]) rfl ?_
        have hw : w_W G z9.2 r s H locs := hw
        refine cx_if_eq (tgt := 78) E dX9_readTie_68 (by decide) (fun _ => ?_) (fun _ => ?_)
        · refine lv_aload_n hx hb dX9_readTie_78 rfl (lv_at hl 2 rfl) ?_
          refine gx_getR E hw kF_TR_9_8 (by decide) dX9_readTie_79 (fun v13 _ => ?_)
          refine lv_iload_n hx hb dX9_readTie_82 rfl (lv_at hl 1 rfl) ?_
          refine lv_iload_n hx hb dX9_readTie_83 rfl (lv_at hl 0 rfl) ?_
          refine W_bind fun _ hck => ?_
          refine W_bind fun z14 hz => ?_
          refine w_after (cells1 := 0) (slots1 := 0) (w_runV E kV_TR_116 kc_X8_addTie (t_Town_addTie l hfl G v13 z6.1 z9.1 z9.2 r ((fun z => (.inl none, z, r)) z14) (by rw [hz]; rfl)) ⟨Nat.le_of_ble_eq_true rfl, Nat.le_of_ble_eq_true rfl⟩ hw (w_recv E hw (by decide) ⟨_, _, rfl⟩ (ck_ok hck)) rfl hl.1 rfl (Nat.le_of_ble_eq_true rfl) dX9_readTie_84 ⟨Nat.le_of_ble_eq_true rfl, Nat.le_of_ble_eq_true rfl⟩) hw rfl (Nat.le_of_ble_eq_true rfl) (Nat.le_of_ble_eq_true rfl) (fun H locs hw => ?_)
          refine W.eq (g2 := F0 m 87 ls []) rfl ?_
          have hw : w_W G z14 r s H locs := hw
          exact p_vret E hw hr (Nat.le_of_ble_eq_true rfl) (Nat.le_of_ble_eq_true rfl) rfl dX9_readTie_87
        · exact w71  z9.2 _ _ _ hw (lv_sub hl [2] rfl)
    · exact p_vret E hw hr (Nat.le_of_ble_eq_true rfl) (Nat.le_of_ble_eq_true rfl) rfl dX9_readTie_53
  unfold f_TR_readTie
  refine lv_aload_n hx hb dX9_readTie_0 rfl (lv_at hl 0 rfl) ?_
  refine gx_getR E hw kF_TR_9_8 (by decide) dX9_readTie_1 (fun v1 _ => ?_)
  refine gx_getI E hw kF_TR_109_7 (by decide) dX9_readTie_4 (fun v2 _ => ?_)
  refine lv_bipush (v := 24) hx hb dX9_readTie_7 (by decide) ?_
  refine cx_icmp_lt (tgt := 16) E dX9_readTie_9 (by decide) (fun _ => ?_) (fun _ => ?_)
  · exact w16  M _ _ _ hw (lv_sub hl [0] rfl)
  · refine lv_aload_n hx hb dX9_readTie_12 rfl (lv_at hl 0 rfl) ?_
    refine W_bind fun _ hck => ?_
    refine W_bind fun z3 hz => ?_
    refine w_after (cells1 := 0) (slots1 := 0) (w_runU E kU_TR_60_TR kc_X7_takenIsWrong (t_TxR_takenIsWrong_8 l hfl G this M r ((fun z => (.inl none, z, r)) z3) (by rw [hz]; rfl)) ⟨Nat.le_of_ble_eq_true rfl, Nat.le_of_ble_eq_true rfl⟩ hw (w_recv E hw (by decide) ⟨_, _, rfl⟩ (ck_ok hck)) rfl hl.1 rfl (Nat.le_of_ble_eq_true rfl) dX9_readTie_13 ⟨Nat.le_of_ble_eq_true rfl, Nat.le_of_ble_eq_true rfl⟩) hw rfl (Nat.le_of_ble_eq_true rfl) (Nat.le_of_ble_eq_true rfl) (fun H locs hw => ?_)
    refine W.eq (g2 := F0 m 16 ls []) rfl ?_
    have hw : w_W G z3 r s H locs := hw
    exact w16  z3 _ _ _ hw (lv_sub hl [0] rfl)
set_option maxHeartbeats 4000000 in
set_option maxRecDepth 100000 in
theorem t_TR_readPrice (l : Launch) (hfl : l.stackTraces = false) (G : wG) (N : Nat) (this : Nat) (M : Mem) (r : Rho) : Ctr l yX9_readPrice (wWs yX9_readPrice cX9_readPrice 4 none) rm_TR_readPrice rm_TR_readPrice.cells rm_TR_readPrice.slots G [.ref this] M r ((f_TR_readPrice N this M).map (fun z => (.inl none, z, r))) := by
  refine Ctr.ofF (own := "CheekTown$TownReade\x72") (by decide +kernel) hfl rfl (Nat.le_of_ble_eq_true rfl) (fun p e s m args below meth c E hno hr hnm hw ls hl => ?_)
  obtain ⟨hx, hb, hts, hown, hml, hTT, -⟩ := id E
  have hl : lv_has ls 4 [(0, .ref this)] := hl
  obtain ⟨H, hH⟩ : ∃ H, H = s.heap := ⟨_, rfl⟩
  obtain ⟨locs, hlo⟩ : ∃ L : List Loc, L = [] := ⟨_, rfl⟩
  rw [← hH, ← hlo]
  rw [← hlo] at hw
  replace hw : w_W G M r s H locs := by rw [hH]; exact hw
  have w40 : ∀ (x1 : Int32) (x2 : Int32) (M : Mem) (H : Heap) (locs : List Loc) (ls : Array Slot), w_W G M r s H locs → lv_has ls 4 [(0, .ref this), (1, .int x1), (2, .int x2)] → W p l e rm_TR_readPrice s m args below meth c H locs 0 0 (PQ G below args s rm_TR_readPrice.cells rm_TR_readPrice.slots (fun z => (.inl none, z, r)) (f_TR_readPrice_40 N this x1 x2 M)) (F0 m 40 ls []) := by
    intro x1 x2 M H locs ls hw hl
    unfold f_TR_readPrice_40
    refine lv_aload_n hx hb dX9_readPrice_40 rfl (lv_at hl 0 rfl) ?_
    refine lv_iconst (v := 0) hx hb dX9_readPrice_41 (by decide) ?_
    refine lv_bipush (v := 99) hx hb dX9_readPrice_42 (by decide) ?_
    refine W_bind fun _ hck => ?_
    refine W_bind fun z4 hz => ?_
    refine w_after (cells1 := 0) (slots1 := 0) (w_runU E kU_TR_66_TR kc_X7_readNumber (t_TxR_readNumber_8 l hfl G N this 0 99 M r ((fun z => (.inl (some (.int z.1)), z.2, r)) z4) (by rw [hz]; rfl)) ⟨Nat.le_of_ble_eq_true rfl, Nat.le_of_ble_eq_true rfl⟩ hw (w_recv E hw (by decide) ⟨_, _, rfl⟩ (ck_ok hck)) rfl hl.1 rfl (Nat.le_of_ble_eq_true rfl) dX9_readPrice_44 ⟨Nat.le_of_ble_eq_true rfl, Nat.le_of_ble_eq_true rfl⟩) hw rfl (Nat.le_of_ble_eq_true rfl) (Nat.le_of_ble_eq_true rfl) (fun H locs hw => ?_)
    refine W.eq (g2 := F0 m 47 ls [.int z4.1]) rfl ?_
    have hw : w_W G z4.2 r s H locs := hw
    refine lv_istore_n (lv' := [(3, .int z4.1), (0, .ref this), (1, .int x1), (2, .int x2)]) hx hb dX9_readPrice_47 rfl hl (by decide) rfl (fun ls hl => ?_)
    refine lv_iload_n hx hb dX9_readPrice_48 rfl (lv_at hl 2 rfl) ?_
    refine cx_if_eq (tgt := 69) E dX9_readPrice_49 (by decide) (fun _ => ?_) (fun _ => ?_)
    · refine lv_iload_n hx hb dX9_readPrice_69 rfl (lv_at hl 3 rfl) ?_
      refine cx_if_eq (tgt := 90) E dX9_readPrice_70 (by decide) (fun _ => ?_) (fun _ => ?_)
      · refine lv_aload_n hx hb dX9_readPrice_90 rfl (lv_at hl 1 rfl) ?_
        refine gx_getR E hw kF_TR_9_8 (by decide) dX9_readPrice_91 (fun v5 _ => ?_)
        refine gx_getR E hw kF_TR_48_7 (by decide) dX9_readPrice_94 (fun v6 _ => ?_)
        refine gx_getR E hw kF_TR_128_0 (by decide) dX9_readPrice_97 (fun v7 _ => ?_)
        refine lv_iload_n hx hb dX9_readPrice_100 rfl (lv_at hl 0 rfl) ?_
        refine gx_putI E hw kF_TR_136_4 kT_4_2 (by decide) dX9_readPrice_101 (fun M8 H locs _ hw => ?_)
        exact p_vret E hw hr (Nat.le_of_ble_eq_true rfl) (Nat.le_of_ble_eq_true rfl) rfl dX9_readPrice_104
      · refine lv_aload_n hx hb dX9_readPrice_73 rfl (lv_at hl 1 rfl) ?_
        refine gx_getR E hw kF_TR_9_8 (by decide) dX9_readPrice_74 (fun v9 _ => ?_)
        refine gx_getR E hw kF_TR_48_7 (by decide) dX9_readPrice_77 (fun v10 _ => ?_)
        refine gx_getR E hw kF_TR_128_0 (by decide) dX9_readPrice_80 (fun v11 _ => ?_)
        refine lv_iload_n hx hb dX9_readPrice_83 rfl (lv_at hl 0 rfl) ?_
        refine gx_putI E hw kF_TR_134_4 kT_4_1 (by decide) dX9_readPrice_84 (fun M12 H locs _ hw => ?_)
        refine lv_goto (tgt := 104) hx hb dX9_readPrice_87 (by decide) ?_
        exact p_vret E hw hr (Nat.le_of_ble_eq_true rfl) (Nat.le_of_ble_eq_true rfl) rfl dX9_readPrice_104
    · refine lv_aload_n hx hb dX9_readPrice_52 rfl (lv_at hl 1 rfl) ?_
      refine gx_getR E hw kF_TR_9_8 (by decide) dX9_readPrice_53 (fun v13 _ => ?_)
      refine gx_getR E hw kF_TR_48_7 (by decide) dX9_readPrice_56 (fun v14 _ => ?_)
      refine gx_getR E hw kF_TR_128_0 (by decide) dX9_readPrice_59 (fun v15 _ => ?_)
      refine lv_iload_n hx hb dX9_readPrice_62 rfl (lv_at hl 0 rfl) ?_
      refine gx_putI E hw kF_TR_132_4 kT_4_0 (by decide) dX9_readPrice_63 (fun M16 H locs _ hw => ?_)
      refine lv_goto (tgt := 104) hx hb dX9_readPrice_66 (by decide) ?_
      exact p_vret E hw hr (Nat.le_of_ble_eq_true rfl) (Nat.le_of_ble_eq_true rfl) rfl dX9_readPrice_104
  have w25 : ∀ (x1 : Int32) (y0 : Int32) (M : Mem) (H : Heap) (locs : List Loc) (ls : Array Slot), w_W G M r s H locs → lv_has ls 4 [(0, .ref this), (1, .int x1)] → W p l e rm_TR_readPrice s m args below meth c H locs 0 0 (PQ G below args s rm_TR_readPrice.cells rm_TR_readPrice.slots (fun z => (.inl none, z, r)) (f_TR_readPrice_25 N this x1 y0 M)) (F0 m 25 ls [.int y0]) := by
    intro x1 y0 M H locs ls hw hl
    unfold f_TR_readPrice_25
    refine lv_istore_n (lv' := [(2, .int y0), (0, .ref this), (1, .int x1)]) hx hb dX9_readPrice_25 rfl hl (by decide) rfl (fun ls hl => ?_)
    refine lv_iload_n hx hb dX9_readPrice_26 rfl (lv_at hl 2 rfl) ?_
    refine cx_if_ne (tgt := 40) E dX9_readPrice_27 (by decide) (fun _ => ?_) (fun _ => ?_)
    · exact w40  x1 y0 M _ _ _ hw (lv_sub hl [1, 2, 0] rfl)
    · refine lv_iload_n hx hb dX9_readPrice_30 rfl (lv_at hl 0 rfl) ?_
      refine cx_if_ne (tgt := 40) E dX9_readPrice_31 (by decide) (fun _ => ?_) (fun _ => ?_)
      · exact w40  x1 y0 M _ _ _ hw (lv_sub hl [1, 2, 0] rfl)
      · refine lv_aload_n hx hb dX9_readPrice_34 rfl (lv_at hl 1 rfl) ?_
        refine va_ldcS hx hb hown (hTT.2.2.1 28 _ rfl) dX9_readPrice_35 ?_
        refine W_bind fun _ hck => ?_
        refine W_bind fun z3 hz => ?_
        refine w_after (cells1 := 0) (slots1 := 0) (w_runU E kU_TR_76_TR kc_X7_readWord (t_TxR_readWord_8 l hfl G N this 28 M r ((fun z => (.inl none, z, r)) z3) (by rw [hz]; rfl)) ⟨Nat.le_of_ble_eq_true rfl, Nat.le_of_ble_eq_true rfl⟩ hw (w_recv E hw (by decide) ⟨_, _, rfl⟩ (ck_ok hck)) rfl hl.1 rfl (Nat.le_of_ble_eq_true rfl) dX9_readPrice_37 ⟨Nat.le_of_ble_eq_true rfl, Nat.le_of_ble_eq_true rfl⟩) hw rfl (Nat.le_of_ble_eq_true rfl) (Nat.le_of_ble_eq_true rfl) (fun H locs hw => ?_)
        refine W.eq (g2 := F0 m 40 ls []) rfl ?_
        have hw : w_W G z3 r s H locs := hw
        exact w40  x1 y0 z3 _ _ _ hw (lv_sub hl [1, 2, 0] rfl)
  have w24 : ∀ (x1 : Int32) (M : Mem) (H : Heap) (locs : List Loc) (ls : Array Slot), w_W G M r s H locs → lv_has ls 4 [(0, .ref this), (1, .int x1)] → W p l e rm_TR_readPrice s m args below meth c H locs 0 0 (PQ G below args s rm_TR_readPrice.cells rm_TR_readPrice.slots (fun z => (.inl none, z, r)) (f_TR_readPrice_24 N this x1 M)) (F0 m 24 ls []) := by
    intro x1 M H locs ls hw hl
    unfold f_TR_readPrice_24
    refine lv_iconst (v := 0) hx hb dX9_readPrice_24 (by decide) ?_
    exact w25  x1 0 M _ _ _ hw (lv_sub hl [0, 1] rfl)
  unfold f_TR_readPrice
  refine lv_aload_n hx hb dX9_readPrice_0 rfl (lv_at hl 0 rfl) ?_
  refine va_ldcS hx hb hown (hTT.2.2.1 26 _ rfl) dX9_readPrice_1 ?_
  refine W_bind fun _ hck => ?_
  refine W_bind fun z1 hz => ?_
  refine w_after (cells1 := 0) (slots1 := 0) (w_runU E kU_TR_17_TR kc_X7_takeWord (t_TxR_takeWord_8 l hfl G N this 26 M r ((fun z => (.inl (some (.int z.1)), z.2, r)) z1) (by rw [hz]; rfl)) ⟨Nat.le_of_ble_eq_true rfl, Nat.le_of_ble_eq_true rfl⟩ hw (w_recv E hw (by decide) ⟨_, _, rfl⟩ (ck_ok hck)) rfl hl.1 rfl (Nat.le_of_ble_eq_true rfl) dX9_readPrice_3 ⟨Nat.le_of_ble_eq_true rfl, Nat.le_of_ble_eq_true rfl⟩) hw rfl (Nat.le_of_ble_eq_true rfl) (Nat.le_of_ble_eq_true rfl) (fun H locs hw => ?_)
  refine W.eq (g2 := F0 m 6 ls [.int z1.1]) rfl ?_
  have hw : w_W G z1.2 r s H locs := hw
  refine lv_istore_n (lv' := [(1, .int z1.1), (0, .ref this)]) hx hb dX9_readPrice_6 rfl hl (by decide) rfl (fun ls hl => ?_)
  refine lv_iload_n hx hb dX9_readPrice_7 rfl (lv_at hl 0 rfl) ?_
  refine cx_if_ne (tgt := 24) E dX9_readPrice_8 (by decide) (fun _ => ?_) (fun _ => ?_)
  · exact w24  z1.1 z1.2 _ _ _ hw (lv_sub hl [1, 0] rfl)
  · refine lv_aload_n hx hb dX9_readPrice_11 rfl (lv_at hl 1 rfl) ?_
    refine va_ldcS hx hb hown (hTT.2.2.1 27 _ rfl) dX9_readPrice_12 ?_
    refine W_bind fun _ hck => ?_
    refine W_bind fun z2 hz => ?_
    refine w_after (cells1 := 0) (slots1 := 0) (w_runU E kU_TR_17_TR kc_X7_takeWord (t_TxR_takeWord_8 l hfl G N this 27 z1.2 r ((fun z => (.inl (some (.int z.1)), z.2, r)) z2) (by rw [hz]; rfl)) ⟨Nat.le_of_ble_eq_true rfl, Nat.le_of_ble_eq_true rfl⟩ hw (w_recv E hw (by decide) ⟨_, _, rfl⟩ (ck_ok hck)) rfl hl.1 rfl (Nat.le_of_ble_eq_true rfl) dX9_readPrice_14 ⟨Nat.le_of_ble_eq_true rfl, Nat.le_of_ble_eq_true rfl⟩) hw rfl (Nat.le_of_ble_eq_true rfl) (Nat.le_of_ble_eq_true rfl) (fun H locs hw => ?_)
    refine W.eq (g2 := F0 m 17 ls [.int z2.1]) rfl ?_
    have hw : w_W G z2.2 r s H locs := hw
    refine cx_if_eq (tgt := 24) E dX9_readPrice_17 (by decide) (fun _ => ?_) (fun _ => ?_)
    · exact w24  z1.1 z2.2 _ _ _ hw (lv_sub hl [1, 0] rfl)
    · refine lv_iconst (v := 1) hx hb dX9_readPrice_20 (by decide) ?_
      refine lv_goto (tgt := 25) hx hb dX9_readPrice_21 (by decide) ?_
      exact w25  z1.1 1 z2.2 _ _ _ hw (lv_sub hl [1, 0] rfl)
set_option maxHeartbeats 4000000 in
set_option maxRecDepth 100000 in
theorem t_TR_readLine (l : Launch) (hfl : l.stackTraces = false) (G : wG) (N : Nat) (this : Nat) (M : Mem) (r : Rho) : Ctr l yX9_readLine (wWs yX9_readLine cX9_readLine 1 none) rm_TR_readLine rm_TR_readLine.cells rm_TR_readLine.slots G [.ref this] M r ((f_TR_readLine N this M).map (fun z => (.inl none, z, r))) := by
  refine Ctr.ofF (own := "CheekTown$TownReade\x72") (by decide +kernel) hfl rfl (Nat.le_of_ble_eq_true rfl) (fun p e s m args below meth c E hno hr hnm hw ls hl => ?_)
  obtain ⟨hx, hb, hts, hown, hml, hTT, -⟩ := id E
  have hl : lv_has ls 1 [(0, .ref this)] := hl
  obtain ⟨H, hH⟩ : ∃ H, H = s.heap := ⟨_, rfl⟩
  obtain ⟨locs, hlo⟩ : ∃ L : List Loc, L = [] := ⟨_, rfl⟩
  rw [← hH, ← hlo]
  rw [← hlo] at hw
  replace hw : w_W G M r s H locs := by rw [hH]; exact hw
  unfold f_TR_readLine
  refine lv_aload_n hx hb dX9_readLine_0 rfl (lv_at hl 0 rfl) ?_
  refine va_ldcS hx hb hown (hTT.2.2.1 18 _ rfl) dX9_readLine_1 ?_
  refine W_bind fun _ hck => ?_
  refine W_bind fun z1 hz => ?_
  refine w_after (cells1 := 0) (slots1 := 0) (w_runU E kU_TR_17_TR kc_X7_takeWord (t_TxR_takeWord_8 l hfl G N this 18 M r ((fun z => (.inl (some (.int z.1)), z.2, r)) z1) (by rw [hz]; rfl)) ⟨Nat.le_of_ble_eq_true rfl, Nat.le_of_ble_eq_true rfl⟩ hw (w_recv E hw (by decide) ⟨_, _, rfl⟩ (ck_ok hck)) rfl hl.1 rfl (Nat.le_of_ble_eq_true rfl) dX9_readLine_3 ⟨Nat.le_of_ble_eq_true rfl, Nat.le_of_ble_eq_true rfl⟩) hw rfl (Nat.le_of_ble_eq_true rfl) (Nat.le_of_ble_eq_true rfl) (fun H locs hw => ?_)
  refine W.eq (g2 := F0 m 6 ls [.int z1.1]) rfl ?_
  have hw : w_W G z1.2 r s H locs := hw
  refine cx_if_eq (tgt := 16) E dX9_readLine_6 (by decide) (fun _ => ?_) (fun _ => ?_)
  · refine lv_aload_n hx hb dX9_readLine_16 rfl (lv_at hl 0 rfl) ?_
    refine va_ldcS hx hb hown (hTT.2.2.1 19 _ rfl) dX9_readLine_17 ?_
    refine W_bind fun _ hck => ?_
    refine W_bind fun z2 hz => ?_
    refine w_after (cells1 := 0) (slots1 := 0) (w_runU E kU_TR_17_TR kc_X7_takeWord (t_TxR_takeWord_8 l hfl G N this 19 z1.2 r ((fun z => (.inl (some (.int z.1)), z.2, r)) z2) (by rw [hz]; rfl)) ⟨Nat.le_of_ble_eq_true rfl, Nat.le_of_ble_eq_true rfl⟩ hw (w_recv E hw (by decide) ⟨_, _, rfl⟩ (ck_ok hck)) rfl hl.1 rfl (Nat.le_of_ble_eq_true rfl) dX9_readLine_19 ⟨Nat.le_of_ble_eq_true rfl, Nat.le_of_ble_eq_true rfl⟩) hw rfl (Nat.le_of_ble_eq_true rfl) (Nat.le_of_ble_eq_true rfl) (fun H locs hw => ?_)
    refine W.eq (g2 := F0 m 22 ls [.int z2.1]) rfl ?_
    have hw : w_W G z2.2 r s H locs := hw
    refine cx_if_eq (tgt := 32) E dX9_readLine_22 (by decide) (fun _ => ?_) (fun _ => ?_)
    · refine lv_aload_n hx hb dX9_readLine_32 rfl (lv_at hl 0 rfl) ?_
      refine va_ldcS hx hb hown (hTT.2.2.1 21 _ rfl) dX9_readLine_33 ?_
      refine W_bind fun _ hck => ?_
      refine W_bind fun z3 hz => ?_
      refine w_after (cells1 := 0) (slots1 := 0) (w_runU E kU_TR_17_TR kc_X7_takeWord (t_TxR_takeWord_8 l hfl G N this 21 z2.2 r ((fun z => (.inl (some (.int z.1)), z.2, r)) z3) (by rw [hz]; rfl)) ⟨Nat.le_of_ble_eq_true rfl, Nat.le_of_ble_eq_true rfl⟩ hw (w_recv E hw (by decide) ⟨_, _, rfl⟩ (ck_ok hck)) rfl hl.1 rfl (Nat.le_of_ble_eq_true rfl) dX9_readLine_35 ⟨Nat.le_of_ble_eq_true rfl, Nat.le_of_ble_eq_true rfl⟩) hw rfl (Nat.le_of_ble_eq_true rfl) (Nat.le_of_ble_eq_true rfl) (fun H locs hw => ?_)
      refine W.eq (g2 := F0 m 38 ls [.int z3.1]) rfl ?_
      have hw : w_W G z3.2 r s H locs := hw
      refine cx_if_eq (tgt := 48) E dX9_readLine_38 (by decide) (fun _ => ?_) (fun _ => ?_)
      · refine lv_aload_n hx hb dX9_readLine_48 rfl (lv_at hl 0 rfl) ?_
        refine va_ldcS hx hb hown (hTT.2.2.1 24 _ rfl) dX9_readLine_49 ?_
        refine W_bind fun _ hck => ?_
        refine W_bind fun z4 hz => ?_
        refine w_after (cells1 := 0) (slots1 := 0) (w_runU E kU_TR_17_TR kc_X7_takeWord (t_TxR_takeWord_8 l hfl G N this 24 z3.2 r ((fun z => (.inl (some (.int z.1)), z.2, r)) z4) (by rw [hz]; rfl)) ⟨Nat.le_of_ble_eq_true rfl, Nat.le_of_ble_eq_true rfl⟩ hw (w_recv E hw (by decide) ⟨_, _, rfl⟩ (ck_ok hck)) rfl hl.1 rfl (Nat.le_of_ble_eq_true rfl) dX9_readLine_51 ⟨Nat.le_of_ble_eq_true rfl, Nat.le_of_ble_eq_true rfl⟩) hw rfl (Nat.le_of_ble_eq_true rfl) (Nat.le_of_ble_eq_true rfl) (fun H locs hw => ?_)
        refine W.eq (g2 := F0 m 54 ls [.int z4.1]) rfl ?_
        have hw : w_W G z4.2 r s H locs := hw
        refine cx_if_eq (tgt := 64) E dX9_readLine_54 (by decide) (fun _ => ?_) (fun _ => ?_)
        · refine lv_aload_n hx hb dX9_readLine_64 rfl (lv_at hl 0 rfl) ?_
          refine va_ldcS hx hb hown (hTT.2.2.1 25 _ rfl) dX9_readLine_65 ?_
          refine W_bind fun _ hck => ?_
          refine W_bind fun z5 hz => ?_
          refine w_after (cells1 := 0) (slots1 := 0) (w_runU E kU_TR_17_TR kc_X7_takeWord (t_TxR_takeWord_8 l hfl G N this 25 z4.2 r ((fun z => (.inl (some (.int z.1)), z.2, r)) z5) (by rw [hz]; rfl)) ⟨Nat.le_of_ble_eq_true rfl, Nat.le_of_ble_eq_true rfl⟩ hw (w_recv E hw (by decide) ⟨_, _, rfl⟩ (ck_ok hck)) rfl hl.1 rfl (Nat.le_of_ble_eq_true rfl) dX9_readLine_67 ⟨Nat.le_of_ble_eq_true rfl, Nat.le_of_ble_eq_true rfl⟩) hw rfl (Nat.le_of_ble_eq_true rfl) (Nat.le_of_ble_eq_true rfl) (fun H locs hw => ?_)
          refine W.eq (g2 := F0 m 70 ls [.int z5.1]) rfl ?_
          have hw : w_W G z5.2 r s H locs := hw
          refine cx_if_eq (tgt := 80) E dX9_readLine_70 (by decide) (fun _ => ?_) (fun _ => ?_)
          · refine lv_aload_n hx hb dX9_readLine_80 rfl (lv_at hl 0 rfl) ?_
            refine W_bind fun _ hck => ?_
            refine W_bind fun z6 hz => ?_
            refine w_after (cells1 := 0) (slots1 := 0) (w_runV E kV_TR_45 kc_X9_readPrice (t_TR_readPrice l hfl G N this z5.2 r ((fun z => (.inl none, z, r)) z6) (by rw [hz]; rfl)) ⟨Nat.le_of_ble_eq_true rfl, Nat.le_of_ble_eq_true rfl⟩ hw (w_recv E hw (by decide) ⟨_, _, rfl⟩ (ck_ok hck)) rfl hl.1 rfl (Nat.le_of_ble_eq_true rfl) dX9_readLine_81 ⟨Nat.le_of_ble_eq_true rfl, Nat.le_of_ble_eq_true rfl⟩) hw rfl (Nat.le_of_ble_eq_true rfl) (Nat.le_of_ble_eq_true rfl) (fun H locs hw => ?_)
            refine W.eq (g2 := F0 m 84 ls []) rfl ?_
            have hw : w_W G z6 r s H locs := hw
            exact p_vret E hw hr (Nat.le_of_ble_eq_true rfl) (Nat.le_of_ble_eq_true rfl) rfl dX9_readLine_84
          · refine lv_aload_n hx hb dX9_readLine_73 rfl (lv_at hl 0 rfl) ?_
            refine W_bind fun _ hck => ?_
            refine W_bind fun z7 hz => ?_
            refine w_after (cells1 := 0) (slots1 := 0) (w_runV E kV_TR_42 kc_X9_readTie (t_TR_readTie l hfl G N this z5.2 r ((fun z => (.inl none, z, r)) z7) (by rw [hz]; rfl)) ⟨Nat.le_of_ble_eq_true rfl, Nat.le_of_ble_eq_true rfl⟩ hw (w_recv E hw (by decide) ⟨_, _, rfl⟩ (ck_ok hck)) rfl hl.1 rfl (Nat.le_of_ble_eq_true rfl) dX9_readLine_74 ⟨Nat.le_of_ble_eq_true rfl, Nat.le_of_ble_eq_true rfl⟩) hw rfl (Nat.le_of_ble_eq_true rfl) (Nat.le_of_ble_eq_true rfl) (fun H locs hw => ?_)
            refine W.eq (g2 := F0 m 77 ls []) rfl ?_
            have hw : w_W G z7 r s H locs := hw
            refine lv_goto (tgt := 84) hx hb dX9_readLine_77 (by decide) ?_
            exact p_vret E hw hr (Nat.le_of_ble_eq_true rfl) (Nat.le_of_ble_eq_true rfl) rfl dX9_readLine_84
        · refine lv_aload_n hx hb dX9_readLine_57 rfl (lv_at hl 0 rfl) ?_
          refine W_bind fun _ hck => ?_
          refine W_bind fun z8 hz => ?_
          refine w_after (cells1 := 0) (slots1 := 0) (w_runV E kV_TR_37 kc_X9_readCold (t_TR_readCold l hfl G N this z4.2 r ((fun z => (.inl none, z, r)) z8) (by rw [hz]; rfl)) ⟨Nat.le_of_ble_eq_true rfl, Nat.le_of_ble_eq_true rfl⟩ hw (w_recv E hw (by decide) ⟨_, _, rfl⟩ (ck_ok hck)) rfl hl.1 rfl (Nat.le_of_ble_eq_true rfl) dX9_readLine_58 ⟨Nat.le_of_ble_eq_true rfl, Nat.le_of_ble_eq_true rfl⟩) hw rfl (Nat.le_of_ble_eq_true rfl) (Nat.le_of_ble_eq_true rfl) (fun H locs hw => ?_)
          refine W.eq (g2 := F0 m 61 ls []) rfl ?_
          have hw : w_W G z8 r s H locs := hw
          refine lv_goto (tgt := 84) hx hb dX9_readLine_61 (by decide) ?_
          exact p_vret E hw hr (Nat.le_of_ble_eq_true rfl) (Nat.le_of_ble_eq_true rfl) rfl dX9_readLine_84
      · refine lv_aload_n hx hb dX9_readLine_41 rfl (lv_at hl 0 rfl) ?_
        refine W_bind fun _ hck => ?_
        refine W_bind fun z9 hz => ?_
        refine w_after (cells1 := 0) (slots1 := 0) (w_runV E kV_TR_32 kc_X9_readPerson (t_TR_readPerson l hfl G N this z3.2 r ((fun z => (.inl none, z, r)) z9) (by rw [hz]; rfl)) ⟨Nat.le_of_ble_eq_true rfl, Nat.le_of_ble_eq_true rfl⟩ hw (w_recv E hw (by decide) ⟨_, _, rfl⟩ (ck_ok hck)) rfl hl.1 rfl (Nat.le_of_ble_eq_true rfl) dX9_readLine_42 ⟨Nat.le_of_ble_eq_true rfl, Nat.le_of_ble_eq_true rfl⟩) hw rfl (Nat.le_of_ble_eq_true rfl) (Nat.le_of_ble_eq_true rfl) (fun H locs hw => ?_)
        refine W.eq (g2 := F0 m 45 ls []) rfl ?_
        have hw : w_W G z9 r s H locs := hw
        refine lv_goto (tgt := 84) hx hb dX9_readLine_45 (by decide) ?_
        exact p_vret E hw hr (Nat.le_of_ble_eq_true rfl) (Nat.le_of_ble_eq_true rfl) rfl dX9_readLine_84
    · refine lv_aload_n hx hb dX9_readLine_25 rfl (lv_at hl 0 rfl) ?_
      refine W_bind fun _ hck => ?_
      refine W_bind fun z10 hz => ?_
      refine w_after (cells1 := 0) (slots1 := 0) (w_runV E kV_TR_27 kc_X9_readHabit (t_TR_readHabit l hfl G N this z2.2 r ((fun z => (.inl none, z, r)) z10) (by rw [hz]; rfl)) ⟨Nat.le_of_ble_eq_true rfl, Nat.le_of_ble_eq_true rfl⟩ hw (w_recv E hw (by decide) ⟨_, _, rfl⟩ (ck_ok hck)) rfl hl.1 rfl (Nat.le_of_ble_eq_true rfl) dX9_readLine_26 ⟨Nat.le_of_ble_eq_true rfl, Nat.le_of_ble_eq_true rfl⟩) hw rfl (Nat.le_of_ble_eq_true rfl) (Nat.le_of_ble_eq_true rfl) (fun H locs hw => ?_)
      refine W.eq (g2 := F0 m 29 ls []) rfl ?_
      have hw : w_W G z10 r s H locs := hw
      refine lv_goto (tgt := 84) hx hb dX9_readLine_29 (by decide) ?_
      exact p_vret E hw hr (Nat.le_of_ble_eq_true rfl) (Nat.le_of_ble_eq_true rfl) rfl dX9_readLine_84
  · refine lv_aload_n hx hb dX9_readLine_9 rfl (lv_at hl 0 rfl) ?_
    refine W_bind fun _ hck => ?_
    refine W_bind fun z11 hz => ?_
    refine w_after (cells1 := 0) (slots1 := 0) (w_runV E kV_TR_21 kc_X9_readLand (t_TR_readLand l hfl G this z1.2 r ((fun z => (.inl none, z, r)) z11) (by rw [hz]; rfl)) ⟨Nat.le_of_ble_eq_true rfl, Nat.le_of_ble_eq_true rfl⟩ hw (w_recv E hw (by decide) ⟨_, _, rfl⟩ (ck_ok hck)) rfl hl.1 rfl (Nat.le_of_ble_eq_true rfl) dX9_readLine_10 ⟨Nat.le_of_ble_eq_true rfl, Nat.le_of_ble_eq_true rfl⟩) hw rfl (Nat.le_of_ble_eq_true rfl) (Nat.le_of_ble_eq_true rfl) (fun H locs hw => ?_)
    refine W.eq (g2 := F0 m 13 ls []) rfl ?_
    have hw : w_W G z11 r s H locs := hw
    refine lv_goto (tgt := 84) hx hb dX9_readLine_13 (by decide) ?_
    exact p_vret E hw hr (Nat.le_of_ble_eq_true rfl) (Nat.le_of_ble_eq_true rfl) rfl dX9_readLine_84
set_option maxHeartbeats 4000000 in
set_option maxRecDepth 100000 in
theorem t_TxR_takeSign_8 (l : Launch) (hfl : l.stackTraces = false) (G : wG) (N : Nat) (this : Nat) (a0 : Int32) (M : Mem) (r : Rho) : Ctr l yX7_takeSign (wWs yX7_takeSign cX7_takeSign 3 (some .boolean)) rm_TxR_takeSign_8 rm_TxR_takeSign_8.cells rm_TxR_takeSign_8.slots G [.ref this, .int a0] M r ((f_TxR_takeSign_8 N this a0 M).map (fun z => (.inl (some (.int z.1)), z.2, r))) := by
  refine Ctr.ofF (own := "CheekTown$TextReade\x72") (by decide +kernel) hfl rfl (Nat.le_of_ble_eq_true rfl) (fun p e s m args below meth c E hno hr hnm hw ls hl => ?_)
  obtain ⟨hx, hb, hts, hown, hml, hTT, -⟩ := id E
  have hl : lv_has ls 3 [(0, .ref this), (1, .int a0)] := hl
  obtain ⟨H, hH⟩ : ∃ H, H = s.heap := ⟨_, rfl⟩
  obtain ⟨locs, hlo⟩ : ∃ L : List Loc, L = [] := ⟨_, rfl⟩
  rw [← hH, ← hlo]
  rw [← hlo] at hw
  replace hw : w_W G M r s H locs := by rw [hH]; exact hw
  have w37 : ∀ (y0 : Int32) (M : Mem) (H : Heap) (locs : List Loc) (ls : Array Slot), w_W G M r s H locs → lv_has ls 3 [(0, .ref this)] → W p l e rm_TxR_takeSign_8 s m args below meth c H locs 0 0 (PQ G below args s rm_TxR_takeSign_8.cells rm_TxR_takeSign_8.slots (fun z => (.inl (some (.int z.1)), z.2, r)) (f_TxR_takeSign_8_37 N this a0 y0 M)) (F0 m 37 ls [.int y0]) := by
    intro y0 M H locs ls hw hl
    unfold f_TxR_takeSign_8_37
    refine lv_istore_n (lv' := [(2, .int y0), (0, .ref this)]) hx hb dX7_takeSign_37 rfl hl (by decide) rfl (fun ls hl => ?_)
    refine lv_iload_n hx hb dX7_takeSign_38 rfl (lv_at hl 0 rfl) ?_
    refine cx_if_eq (tgt := 46) E dX7_takeSign_39 (by decide) (fun _ => ?_) (fun _ => ?_)
    · refine lv_iload_n hx hb dX7_takeSign_46 rfl (lv_at hl 0 rfl) ?_
      refine W_bind fun z7 hz => ?_
      obtain ⟨rfl, hz0⟩ := zg_ok hz
      exact p_zret E hw hr hz0 (Nat.le_of_ble_eq_true rfl) (Nat.le_of_ble_eq_true rfl) rfl dX7_takeSign_47
    · refine lv_aload_n hx hb dX7_takeSign_42 rfl (lv_at hl 1 rfl) ?_
      refine W_bind fun _ hck => ?_
      refine W_bind fun z8 hz => ?_
      refine w_after (cells1 := 0) (slots1 := 0) (w_runU E kU_TxR_28_TR kc_X7_goOn (t_TxR_goOn_8 l hfl G N this M r ((fun z => (.inl none, z, r)) z8) (by rw [hz]; rfl)) ⟨Nat.le_of_ble_eq_true rfl, Nat.le_of_ble_eq_true rfl⟩ hw (w_recv E hw (by decide) ⟨_, _, rfl⟩ (ck_ok hck)) rfl hl.1 rfl (Nat.le_of_ble_eq_true rfl) dX7_takeSign_43 ⟨Nat.le_of_ble_eq_true rfl, Nat.le_of_ble_eq_true rfl⟩) hw rfl (Nat.le_of_ble_eq_true rfl) (Nat.le_of_ble_eq_true rfl) (fun H locs hw => ?_)
      refine W.eq (g2 := F0 m 46 ls []) rfl ?_
      have hw : w_W G z8 r s H locs := hw
      refine lv_iload_n hx hb dX7_takeSign_46 rfl (lv_at hl 0 rfl) ?_
      refine W_bind fun z9 hz => ?_
      obtain ⟨rfl, hz0⟩ := zg_ok hz
      exact p_zret E hw hr hz0 (Nat.le_of_ble_eq_true rfl) (Nat.le_of_ble_eq_true rfl) rfl dX7_takeSign_47
  have w36 : ∀ (M : Mem) (H : Heap) (locs : List Loc) (ls : Array Slot), w_W G M r s H locs → lv_has ls 3 [(0, .ref this)] → W p l e rm_TxR_takeSign_8 s m args below meth c H locs 0 0 (PQ G below args s rm_TxR_takeSign_8.cells rm_TxR_takeSign_8.slots (fun z => (.inl (some (.int z.1)), z.2, r)) (f_TxR_takeSign_8_36 N this a0 M)) (F0 m 36 ls []) := by
    intro M H locs ls hw hl
    unfold f_TxR_takeSign_8_36
    refine lv_iconst (v := 0) hx hb dX7_takeSign_36 (by decide) ?_
    exact w37  0 M _ _ _ hw (lv_sub hl [0] rfl)
  unfold f_TxR_takeSign_8
  refine lv_aload_n hx hb dX7_takeSign_0 rfl (lv_at hl 0 rfl) ?_
  refine gx_getI E hw kF_TxR_9_8 (by decide) dX7_takeSign_1 (fun v1 _ => ?_)
  refine lv_iconst (v := (-1)) hx hb dX7_takeSign_4 (by decide) ?_
  refine cx_icmp_ne (tgt := 36) E dX7_takeSign_5 (by decide) (fun _ => ?_) (fun _ => ?_)
  · exact w36  M _ _ _ hw (lv_sub hl [0] rfl)
  · refine lv_aload_n hx hb dX7_takeSign_8 rfl (lv_at hl 0 rfl) ?_
    refine gx_getI E hw kF_TxR_31_8 (by decide) dX7_takeSign_9 (fun v2 _ => ?_)
    refine lv_aload_n hx hb dX7_takeSign_12 rfl (lv_at hl 0 rfl) ?_
    refine gx_getI E hw kF_TxR_25_8 (by decide) dX7_takeSign_13 (fun v3 _ => ?_)
    refine cx_icmp_ge (tgt := 36) E dX7_takeSign_16 (by decide) (fun _ => ?_) (fun _ => ?_)
    · exact w36  M _ _ _ hw (lv_sub hl [0] rfl)
    · refine lv_aload_n hx hb dX7_takeSign_19 rfl (lv_at hl 0 rfl) ?_
      refine gx_getR E hw kF_TxR_15_8 (by decide) dX7_takeSign_20 (fun v4 _ => ?_)
      refine lv_aload_n hx hb dX7_takeSign_23 rfl (lv_at hl 0 rfl) ?_
      refine gx_getI E hw kF_TxR_31_8 (by decide) dX7_takeSign_24 (fun v5 _ => ?_)
      refine gx_iald E hw dX7_takeSign_27 (fun v6 _ => ?_)
      refine lv_iload_n hx hb dX7_takeSign_28 rfl (lv_at hl 1 rfl) ?_
      refine cx_icmp_ne (tgt := 36) E dX7_takeSign_29 (by decide) (fun _ => ?_) (fun _ => ?_)
      · exact w36  M _ _ _ hw (lv_sub hl [0] rfl)
      · refine lv_iconst (v := 1) hx hb dX7_takeSign_32 (by decide) ?_
        refine lv_goto (tgt := 37) hx hb dX7_takeSign_33 (by decide) ?_
        exact w37  1 M _ _ _ hw (lv_sub hl [0] rfl)
set_option maxHeartbeats 4000000 in
set_option maxRecDepth 100000 in
theorem t_TxR_readSign_8 (l : Launch) (hfl : l.stackTraces = false) (G : wG) (N : Nat) (this : Nat) (a0 : Int32) (M : Mem) (r : Rho) : Ctr l yX7_readSign (wWs yX7_readSign cX7_readSign 2 none) rm_TxR_readSign_8 rm_TxR_readSign_8.cells rm_TxR_readSign_8.slots G [.ref this, .int a0] M r ((f_TxR_readSign_8 N this a0 M).map (fun z => (.inl none, z, r))) := by
  refine Ctr.ofF (own := "CheekTown$TextReade\x72") (by decide +kernel) hfl rfl (Nat.le_of_ble_eq_true rfl) (fun p e s m args below meth c E hno hr hnm hw ls hl => ?_)
  obtain ⟨hx, hb, hts, hown, hml, hTT, -⟩ := id E
  have hl : lv_has ls 2 [(0, .ref this), (1, .int a0)] := hl
  obtain ⟨H, hH⟩ : ∃ H, H = s.heap := ⟨_, rfl⟩
  obtain ⟨locs, hlo⟩ : ∃ L : List Loc, L = [] := ⟨_, rfl⟩
  rw [← hH, ← hlo]
  rw [← hlo] at hw
  replace hw : w_W G M r s H locs := by rw [hH]; exact hw
  unfold f_TxR_readSign_8
  refine lv_aload_n hx hb dX7_readSign_0 rfl (lv_at hl 0 rfl) ?_
  refine lv_iload_n hx hb dX7_readSign_1 rfl (lv_at hl 1 rfl) ?_
  refine W_bind fun _ hck => ?_
  refine W_bind fun z1 hz => ?_
  refine w_after (cells1 := 0) (slots1 := 0) (w_runU E kU_TxR_63_TR kc_X7_takeSign (t_TxR_takeSign_8 l hfl G N this a0 M r ((fun z => (.inl (some (.int z.1)), z.2, r)) z1) (by rw [hz]; rfl)) ⟨Nat.le_of_ble_eq_true rfl, Nat.le_of_ble_eq_true rfl⟩ hw (w_recv E hw (by decide) ⟨_, _, rfl⟩ (ck_ok hck)) rfl hl.1 rfl (Nat.le_of_ble_eq_true rfl) dX7_readSign_2 ⟨Nat.le_of_ble_eq_true rfl, Nat.le_of_ble_eq_true rfl⟩) hw rfl (Nat.le_of_ble_eq_true rfl) (Nat.le_of_ble_eq_true rfl) (fun H locs hw => ?_)
  refine W.eq (g2 := F0 m 5 ls [.int z1.1]) rfl ?_
  have hw : w_W G z1.2 r s H locs := hw
  refine cx_if_ne (tgt := 12) E dX7_readSign_5 (by decide) (fun _ => ?_) (fun _ => ?_)
  · exact p_vret E hw hr (Nat.le_of_ble_eq_true rfl) (Nat.le_of_ble_eq_true rfl) rfl dX7_readSign_12
  · refine lv_aload_n hx hb dX7_readSign_8 rfl (lv_at hl 0 rfl) ?_
    refine W_bind fun _ hck => ?_
    refine W_bind fun z2 hz => ?_
    refine w_after (cells1 := 0) (slots1 := 0) (w_runU E kU_TxR_41_TR kc_X7_nextIsWrong (t_TxR_nextIsWrong_8 l hfl G this z1.2 r ((fun z => (.inl none, z, r)) z2) (by rw [hz]; rfl)) ⟨Nat.le_of_ble_eq_true rfl, Nat.le_of_ble_eq_true rfl⟩ hw (w_recv E hw (by decide) ⟨_, _, rfl⟩ (ck_ok hck)) rfl hl.1 rfl (Nat.le_of_ble_eq_true rfl) dX7_readSign_9 ⟨Nat.le_of_ble_eq_true rfl, Nat.le_of_ble_eq_true rfl⟩) hw rfl (Nat.le_of_ble_eq_true rfl) (Nat.le_of_ble_eq_true rfl) (fun H locs hw => ?_)
    refine W.eq (g2 := F0 m 12 ls []) rfl ?_
    have hw : w_W G z2 r s H locs := hw
    exact p_vret E hw hr (Nat.le_of_ble_eq_true rfl) (Nat.le_of_ble_eq_true rfl) rfl dX7_readSign_12
set_option maxHeartbeats 4000000 in
set_option maxRecDepth 100000 in
theorem t_TxR_readLines_8 (l : Launch) (hfl : l.stackTraces = false) (G : wG) (N : Nat) (this : Nat) (a0 : Int32) (M : Mem) (r : Rho) : Ctr l yX7_readLines (wWs yX7_readLines cX7_readLines 4 (some .boolean)) rm_TxR_readLines_8 rm_TxR_readLines_8.cells rm_TxR_readLines_8.slots G [.ref this, .int a0] M r ((f_TxR_readLines_8 N this a0 M).map (fun z => (.inl (some (.int z.1)), z.2, r))) := by
  refine Ctr.ofF (own := "CheekTown$TextReade\x72") (by decide +kernel) hfl rfl (Nat.le_of_ble_eq_true rfl) (fun p e s m args below meth c E hno hr hnm hw ls hl => ?_)
  obtain ⟨hx, hb, hts, hown, hml, hTT, -⟩ := id E
  have hl : lv_has ls 4 [(0, .ref this), (1, .int a0)] := hl
  obtain ⟨H, hH⟩ : ∃ H, H = s.heap := ⟨_, rfl⟩
  obtain ⟨locs, hlo⟩ : ∃ L : List Loc, L = [] := ⟨_, rfl⟩
  rw [← hH, ← hlo]
  rw [← hlo] at hw
  replace hw : w_W G M r s H locs := by rw [hH]; exact hw
  have w85 : ∀ (M : Mem) (H : Heap) (locs : List Loc) (ls : Array Slot), w_W G M r s H locs → lv_has ls 4 [(0, .ref this)] → W p l e rm_TxR_readLines_8 s m args below meth c H locs 0 0 (PQ G below args s rm_TxR_readLines_8.cells rm_TxR_readLines_8.slots (fun z => (.inl (some (.int z.1)), z.2, r)) (f_TxR_readLines_8_85 N this a0 M)) (F0 m 85 ls []) := by
    intro M H locs ls hw hl
    unfold f_TxR_readLines_8_85
    refine lv_aload_n hx hb dX7_readLines_85 rfl (lv_at hl 0 rfl) ?_
    refine gx_getI E hw kF_TxR_9_8 (by decide) dX7_readLines_86 (fun v10 _ => ?_)
    refine lv_iconst (v := (-1)) hx hb dX7_readLines_89 (by decide) ?_
    refine cx_icmp_ne (tgt := 97) E dX7_readLines_90 (by decide) (fun _ => ?_) (fun _ => ?_)
    · refine lv_iconst (v := 0) hx hb dX7_readLines_97 (by decide) ?_
      exact p_zret E hw hr (by decide) (Nat.le_of_ble_eq_true rfl) (Nat.le_of_ble_eq_true rfl) rfl dX7_readLines_98
    · refine lv_iconst (v := 1) hx hb dX7_readLines_93 (by decide) ?_
      refine lv_goto (tgt := 98) hx hb dX7_readLines_94 (by decide) ?_
      exact p_zret E hw hr (by decide) (Nat.le_of_ble_eq_true rfl) (Nat.le_of_ble_eq_true rfl) rfl dX7_readLines_98
  have w77 : ∀ (x2 : Int32) (M : Mem) (H : Heap) (locs : List Loc) (ls : Array Slot), w_W G M r s H locs → lv_has ls 4 [(0, .ref this), (2, .int x2)] → W p l e rm_TxR_readLines_8 s m args below meth c H locs 0 0 (PQ G below args s rm_TxR_readLines_8.cells rm_TxR_readLines_8.slots (fun z => (.inl (some (.int z.1)), z.2, r)) (f_TxR_readLines_8_77 N this a0 x2 M)) (F0 m 77 ls []) := by
    intro x2 M H locs ls hw hl
    unfold f_TxR_readLines_8_77
    refine lv_iload_n hx hb dX7_readLines_77 rfl (lv_at hl 1 rfl) ?_
    refine cx_if_eq (tgt := 85) E dX7_readLines_78 (by decide) (fun _ => ?_) (fun _ => ?_)
    · exact w85  M _ _ _ hw (lv_sub hl [0] rfl)
    · refine lv_aload_n hx hb dX7_readLines_81 rfl (lv_at hl 0 rfl) ?_
      refine W_bind fun _ hck => ?_
      refine W_bind fun z8 hz => ?_
      refine w_after (cells1 := 0) (slots1 := 0) (w_runU E kU_TxR_41_TR kc_X7_nextIsWrong (t_TxR_nextIsWrong_8 l hfl G this M r ((fun z => (.inl none, z, r)) z8) (by rw [hz]; rfl)) ⟨Nat.le_of_ble_eq_true rfl, Nat.le_of_ble_eq_true rfl⟩ hw (w_recv E hw (by decide) ⟨_, _, rfl⟩ (ck_ok hck)) rfl hl.1 rfl (Nat.le_of_ble_eq_true rfl) dX7_readLines_82 ⟨Nat.le_of_ble_eq_true rfl, Nat.le_of_ble_eq_true rfl⟩) hw rfl (Nat.le_of_ble_eq_true rfl) (Nat.le_of_ble_eq_true rfl) (fun H locs hw => ?_)
      refine W.eq (g2 := F0 m 85 ls []) rfl ?_
      have hw : w_W G z8 r s H locs := hw
      exact w85  z8 _ _ _ hw (lv_sub hl [0] rfl)
  have w60 : ∀ (k23 : Int32 → Int32 → Mem → Option (Int32 × Mem)) (hk23 : ∀ (x2 : Int32) (x3 : Int32) (M : Mem) (H : Heap) (locs : List Loc) (ls : Array Slot), w_W G M r s H locs → lv_has ls 4 [(0, .ref this), (1, .int a0), (2, .int x2), (3, .int x3)] → W p l e rm_TxR_readLines_8 s m args below meth c H locs 0 0 (PQ G below args s rm_TxR_readLines_8.cells rm_TxR_readLines_8.slots (fun z => (.inl (some (.int z.1)), z.2, r)) (k23 x2 x3 M)) (F0 m 23 ls [])) (x3 : Int32) (y0 : Int32) (M : Mem) (H : Heap) (locs : List Loc) (ls : Array Slot), w_W G M r s H locs → lv_has ls 4 [(0, .ref this), (1, .int a0), (3, .int x3)] → W p l e rm_TxR_readLines_8 s m args below meth c H locs 0 0 (PQ G below args s rm_TxR_readLines_8.cells rm_TxR_readLines_8.slots (fun z => (.inl (some (.int z.1)), z.2, r)) (f_TxR_readLines_8_60 N this a0 k23 x3 y0 M)) (F0 m 60 ls [.int y0]) := by
    intro k23 hk23 x3 y0 M H locs ls hw hl
    unfold f_TxR_readLines_8_60
    refine lv_istore_n (lv' := [(2, .int y0), (0, .ref this), (1, .int a0), (3, .int x3)]) hx hb dX7_readLines_60 rfl hl (by decide) rfl (fun ls hl => ?_)
    refine lv_iload_n hx hb dX7_readLines_61 rfl (lv_at hl 0 rfl) ?_
    refine cx_if_eq (tgt := 71) E dX7_readLines_62 (by decide) (fun _ => ?_) (fun _ => ?_)
    · refine lv_iinc (v := x3 + 1) (lv' := [(3, .int (x3 + 1)), (2, .int y0), (0, .ref this), (1, .int a0)]) hx hb dX7_readLines_71 hl (k := 3) rfl rfl (by decide) rfl (fun ls hl => ?_)
      refine lv_goto (tgt := 23) hx hb dX7_readLines_74 (by decide) ?_
      exact hk23 y0 (x3 + 1) M _ _ _ hw (lv_sub hl [2, 3, 1, 0] rfl)
    · refine lv_aload_n hx hb dX7_readLines_65 rfl (lv_at hl 1 rfl) ?_
      refine lv_bipush (v := 59) hx hb dX7_readLines_66 (by decide) ?_
      refine W_bind fun _ hck => ?_
      refine W_bind fun z9 hz => ?_
      refine w_after (cells1 := 0) (slots1 := 0) (w_runU E kU_TxR_37_TR kc_X7_readSign (t_TxR_readSign_8 l hfl G N this 59 M r ((fun z => (.inl none, z, r)) z9) (by rw [hz]; rfl)) ⟨Nat.le_of_ble_eq_true rfl, Nat.le_of_ble_eq_true rfl⟩ hw (w_recv E hw (by decide) ⟨_, _, rfl⟩ (ck_ok hck)) rfl hl.1 rfl (Nat.le_of_ble_eq_true rfl) dX7_readLines_68 ⟨Nat.le_of_ble_eq_true rfl, Nat.le_of_ble_eq_true rfl⟩) hw rfl (Nat.le_of_ble_eq_true rfl) (Nat.le_of_ble_eq_true rfl) (fun H locs hw => ?_)
      refine W.eq (g2 := F0 m 71 ls []) rfl ?_
      have hw : w_W G z9 r s H locs := hw
      refine lv_iinc (v := x3 + 1) (lv' := [(3, .int (x3 + 1)), (2, .int y0), (0, .ref this), (1, .int a0)]) hx hb dX7_readLines_71 hl (k := 3) rfl rfl (by decide) rfl (fun ls hl => ?_)
      refine lv_goto (tgt := 23) hx hb dX7_readLines_74 (by decide) ?_
      exact hk23 y0 (x3 + 1) z9 _ _ _ hw (lv_sub hl [2, 3, 1, 0] rfl)
  have w23 : ∀ (n : Nat) (x2 : Int32) (x3 : Int32) (M : Mem) (H : Heap) (locs : List Loc) (ls : Array Slot), w_W G M r s H locs → lv_has ls 4 [(0, .ref this), (1, .int a0), (2, .int x2), (3, .int x3)] → W p l e rm_TxR_readLines_8 s m args below meth c H locs 0 0 (PQ G below args s rm_TxR_readLines_8.cells rm_TxR_readLines_8.slots (fun z => (.inl (some (.int z.1)), z.2, r)) (f_TxR_readLines_8_23 N this a0 n x2 x3 M)) (F0 m 23 ls []) := by
    intro n
    induction n with
    | zero => intros; exact W_none
    | succ n ih =>
      intro x2 x3 M H locs ls hw hl
      rw [f_TxR_readLines_8_23]
      refine lv_iload_n hx hb dX7_readLines_23 rfl (lv_at hl 3 rfl) ?_
      refine lv_iload_n hx hb dX7_readLines_24 rfl (lv_at hl 1 rfl) ?_
      refine cx_icmp_ge (tgt := 77) E dX7_readLines_25 (by decide) (fun _ => ?_) (fun _ => ?_)
      · exact w77  x2 M _ _ _ hw (lv_sub hl [0, 2] rfl)
      · refine lv_iload_n hx hb dX7_readLines_28 rfl (lv_at hl 2 rfl) ?_
        refine cx_if_eq (tgt := 77) E dX7_readLines_29 (by decide) (fun _ => ?_) (fun _ => ?_)
        · exact w77  x2 M _ _ _ hw (lv_sub hl [0, 2] rfl)
        · refine lv_aload_n hx hb dX7_readLines_32 rfl (lv_at hl 0 rfl) ?_
          refine gx_getI E hw kF_TxR_9_8 (by decide) dX7_readLines_33 (fun v4 _ => ?_)
          refine lv_iconst (v := (-1)) hx hb dX7_readLines_36 (by decide) ?_
          refine cx_icmp_ne (tgt := 77) E dX7_readLines_37 (by decide) (fun _ => ?_) (fun _ => ?_)
          · exact w77  x2 M _ _ _ hw (lv_sub hl [0, 2] rfl)
          · refine lv_aload_n hx hb dX7_readLines_40 rfl (lv_at hl 0 rfl) ?_
            refine W_bind fun _ hck => ?_
            refine W_bind fun z5 hz => ?_
            refine w_after (cells1 := 0) (slots1 := 0) (w_runU E kU_TxR_34_TR kc_X9_readLine (t_TR_readLine l hfl G N this M r ((fun z => (.inl none, z, r)) z5) (by rw [hz]; rfl)) ⟨Nat.le_of_ble_eq_true rfl, Nat.le_of_ble_eq_true rfl⟩ hw (w_recv E hw (by decide) ⟨_, _, rfl⟩ (ck_ok hck)) rfl hl.1 rfl (Nat.le_of_ble_eq_true rfl) dX7_readLines_41 ⟨Nat.le_of_ble_eq_true rfl, Nat.le_of_ble_eq_true rfl⟩) hw rfl (Nat.le_of_ble_eq_true rfl) (Nat.le_of_ble_eq_true rfl) (fun H locs hw => ?_)
            refine W.eq (g2 := F0 m 44 ls []) rfl ?_
            have hw : w_W G z5 r s H locs := hw
            refine lv_aload_n hx hb dX7_readLines_44 rfl (lv_at hl 0 rfl) ?_
            refine gx_getI E hw kF_TxR_31_8 (by decide) dX7_readLines_45 (fun v6 _ => ?_)
            refine lv_aload_n hx hb dX7_readLines_48 rfl (lv_at hl 0 rfl) ?_
            refine gx_getI E hw kF_TxR_25_8 (by decide) dX7_readLines_49 (fun v7 _ => ?_)
            refine cx_icmp_ge (tgt := 59) E dX7_readLines_52 (by decide) (fun _ => ?_) (fun _ => ?_)
            · refine lv_iconst (v := 0) hx hb dX7_readLines_59 (by decide) ?_
              exact w60 (f_TxR_readLines_8_23 N this a0 n) ih x3 0 z5 _ _ _ hw (lv_sub hl [0, 1, 3] rfl)
            · refine lv_iconst (v := 1) hx hb dX7_readLines_55 (by decide) ?_
              refine lv_goto (tgt := 60) hx hb dX7_readLines_56 (by decide) ?_
              exact w60 (f_TxR_readLines_8_23 N this a0 n) ih x3 1 z5 _ _ _ hw (lv_sub hl [0, 1, 3] rfl)
  have w20 : ∀ (y0 : Int32) (M : Mem) (H : Heap) (locs : List Loc) (ls : Array Slot), w_W G M r s H locs → lv_has ls 4 [(0, .ref this), (1, .int a0)] → W p l e rm_TxR_readLines_8 s m args below meth c H locs 0 0 (PQ G below args s rm_TxR_readLines_8.cells rm_TxR_readLines_8.slots (fun z => (.inl (some (.int z.1)), z.2, r)) (f_TxR_readLines_8_20 N this a0 y0 M)) (F0 m 20 ls [.int y0]) := by
    intro y0 M H locs ls hw hl
    unfold f_TxR_readLines_8_20
    refine lv_istore_n (lv' := [(2, .int y0), (0, .ref this), (1, .int a0)]) hx hb dX7_readLines_20 rfl hl (by decide) rfl (fun ls hl => ?_)
    refine lv_iconst (v := 0) hx hb dX7_readLines_21 (by decide) ?_
    refine lv_istore_n (lv' := [(3, .int 0), (2, .int y0), (0, .ref this), (1, .int a0)]) hx hb dX7_readLines_22 rfl hl (by decide) rfl (fun ls hl => ?_)
    exact w23  N y0 0 M _ _ _ hw (lv_sub hl [2, 3, 1, 0] rfl)
  unfold f_TxR_readLines_8
  refine lv_aload_n hx hb dX7_readLines_0 rfl (lv_at hl 0 rfl) ?_
  refine W_bind fun _ hck => ?_
  refine W_bind fun z1 hz => ?_
  refine w_after (cells1 := 0) (slots1 := 0) (w_runU E kU_TxR_28_TR kc_X7_goOn (t_TxR_goOn_8 l hfl G N this M r ((fun z => (.inl none, z, r)) z1) (by rw [hz]; rfl)) ⟨Nat.le_of_ble_eq_true rfl, Nat.le_of_ble_eq_true rfl⟩ hw (w_recv E hw (by decide) ⟨_, _, rfl⟩ (ck_ok hck)) rfl hl.1 rfl (Nat.le_of_ble_eq_true rfl) dX7_readLines_1 ⟨Nat.le_of_ble_eq_true rfl, Nat.le_of_ble_eq_true rfl⟩) hw rfl (Nat.le_of_ble_eq_true rfl) (Nat.le_of_ble_eq_true rfl) (fun H locs hw => ?_)
  refine W.eq (g2 := F0 m 4 ls []) rfl ?_
  have hw : w_W G z1 r s H locs := hw
  refine lv_aload_n hx hb dX7_readLines_4 rfl (lv_at hl 0 rfl) ?_
  refine gx_getI E hw kF_TxR_31_8 (by decide) dX7_readLines_5 (fun v2 _ => ?_)
  refine lv_aload_n hx hb dX7_readLines_8 rfl (lv_at hl 0 rfl) ?_
  refine gx_getI E hw kF_TxR_25_8 (by decide) dX7_readLines_9 (fun v3 _ => ?_)
  refine cx_icmp_ge (tgt := 19) E dX7_readLines_12 (by decide) (fun _ => ?_) (fun _ => ?_)
  · refine lv_iconst (v := 0) hx hb dX7_readLines_19 (by decide) ?_
    exact w20  0 z1 _ _ _ hw (lv_sub hl [0, 1] rfl)
  · refine lv_iconst (v := 1) hx hb dX7_readLines_15 (by decide) ?_
    refine lv_goto (tgt := 20) hx hb dX7_readLines_16 (by decide) ?_
    exact w20  1 z1 _ _ _ hw (lv_sub hl [0, 1] rfl)
set_option maxHeartbeats 4000000 in
set_option maxRecDepth 100000 in
theorem t_CT_town (l : Launch) (hfl : l.stackTraces = false) (G : wG) (N : Nat) (this : Nat) (M : Mem) (r : Rho) : Ctr l yX11_town (wWs yX11_town cX11_town 4 (some .int)) rm_CT_town rm_CT_town.cells rm_CT_town.slots G [.ref this] M r ((f_CT_town N this M).map (fun z => (z.1.elim (fun v => .inl (some (.int v))) .inr, z.2, r))) := by
  refine Ctr.ofF (own := "CheekTown") (by decide +kernel) hfl rfl (Nat.le_of_ble_eq_true rfl) (fun p e s m args below meth c E hno hr hnm hw ls hl => ?_)
  obtain ⟨hx, hb, hts, hown, hml, hTT, -⟩ := id E
  have hl : lv_has ls 4 [(0, .ref this)] := hl
  obtain ⟨H, hH⟩ : ∃ H, H = s.heap := ⟨_, rfl⟩
  obtain ⟨locs, hlo⟩ : ∃ L : List Loc, L = [] := ⟨_, rfl⟩
  rw [← hH, ← hlo]
  rw [← hlo] at hw
  replace hw : w_W G M r s H locs := by rw [hH]; exact hw
  unfold f_CT_town
  refine lv_aload_n hx hb dX11_town_0 rfl (lv_at hl 0 rfl) ?_
  refine W_bind fun _ hck => ?_
  refine W_bind fun z1 hz => ?_
  refine w_after (cells1 := 0) (slots1 := 0) (w_runV E kV_CT_55 kc_X11_useTapeUp (t_CT_useTapeUp l hfl G this M r ((fun z => (.inl (some (.int z.1)), z.2, r)) z1) (by rw [hz]; rfl)) ⟨Nat.le_of_ble_eq_true rfl, Nat.le_of_ble_eq_true rfl⟩ hw (w_recv E hw (by decide) ⟨_, _, rfl⟩ (ck_ok hck)) rfl hl.1 rfl (Nat.le_of_ble_eq_true rfl) dX11_town_1 ⟨Nat.le_of_ble_eq_true rfl, Nat.le_of_ble_eq_true rfl⟩) hw rfl (Nat.le_of_ble_eq_true rfl) (Nat.le_of_ble_eq_true rfl) (fun H locs hw => ?_)
  refine W.eq (g2 := F0 m 4 ls [.int z1.1]) rfl ?_
  have hw : w_W G z1.2 r s H locs := hw
  refine lv_istore_n (lv' := [(1, .int z1.1), (0, .ref this)]) hx hb dX11_town_4 rfl hl (by decide) rfl (fun ls hl => ?_)
  refine lv_aload_n hx hb dX11_town_5 rfl (lv_at hl 1 rfl) ?_
  refine gx_getR E hw kF_CT_31_10 (by decide) dX11_town_6 (fun v2 _ => ?_)
  refine lv_aload_n hx hb dX11_town_9 rfl (lv_at hl 1 rfl) ?_
  refine gx_getR E hw kF_CT_20_10 (by decide) dX11_town_10 (fun v3 _ => ?_)
  refine W_bind fun _ hck => ?_
  refine W_bind fun z4 hz => ?_
  refine w_after (cells1 := 0) (slots1 := 0) (w_runV E kV_CT_59 kc_X8_copyFrom (t_Town_copyFrom l hfl G N v2 v3 z1.2 r ((fun z => (.inl none, z, r)) z4) (by rw [hz]; rfl)) ⟨Nat.le_of_ble_eq_true rfl, Nat.le_of_ble_eq_true rfl⟩ hw (w_recv E hw (by decide) ⟨_, _, rfl⟩ (ck_ok hck)) rfl hl.1 rfl (Nat.le_of_ble_eq_true rfl) dX11_town_13 ⟨Nat.le_of_ble_eq_true rfl, Nat.le_of_ble_eq_true rfl⟩) hw rfl (Nat.le_of_ble_eq_true rfl) (Nat.le_of_ble_eq_true rfl) (fun H locs hw => ?_)
  refine W.eq (g2 := F0 m 16 ls []) rfl ?_
  have hw : w_W G z4 r s H locs := hw
  refine gx_new E hw kN_CT_63 (Nat.le_of_ble_eq_true rfl) (Nat.le_of_ble_eq_true rfl) dX11_town_16 (fun H hw => ?_)
  refine W.widen (k := 1) (n := 7) (Nat.le_of_ble_eq_true rfl) (Nat.le_of_ble_eq_true rfl) ?_
  refine lv_dup hx hb dX11_town_19 rfl ?_
  refine lv_aload_n hx hb dX11_town_20 rfl (lv_at hl 1 rfl) ?_
  refine gx_getR E hw kF_CT_9_10 (by decide) dX11_town_21 (fun v5 _ => ?_)
  refine lv_iload_n hx hb dX11_town_24 rfl (lv_at hl 0 rfl) ?_
  refine lv_aload_n hx hb dX11_town_25 rfl (lv_at hl 1 rfl) ?_
  refine gx_getR E hw kF_CT_31_10 (by decide) dX11_town_26 (fun v6 _ => ?_)
  refine W_bind fun z7 hz => ?_
  refine w_after (cells1 := 1) (slots1 := 7) (w_runI E kI_CT_65 kc_X9_init (t_TR_init l hfl G (m_sz z4) v5 z1.1 v6 (m_new z4 (18, 0)) r ((fun z => (.inl none, z, r)) z7) (by rw [hz]; rfl)) ⟨Nat.le_of_ble_eq_true rfl, Nat.le_of_ble_eq_true rfl⟩ hw rfl hl.1 rfl (Nat.le_of_ble_eq_true rfl) dX11_town_29 ⟨Nat.le_of_ble_eq_true rfl, Nat.le_of_ble_eq_true rfl⟩) hw rfl (Nat.le_of_ble_eq_true rfl) (Nat.le_of_ble_eq_true rfl) (fun H locs hw => ?_)
  refine W.eq (g2 := F0 m 32 ls [.ref (m_sz z4)]) rfl ?_
  have hw : w_W G z7 r s H locs := hw
  refine lv_astore_n (lv' := [(2, .ref (m_sz z4)), (1, .int z1.1), (0, .ref this)]) hx hb dX11_town_32 rfl hl (by decide) rfl (fun ls hl => ?_)
  refine lv_aload_n hx hb dX11_town_33 rfl (lv_at hl 0 rfl) ?_
  refine lv_bipush (v := 14) hx hb dX11_town_34 (by decide) ?_
  refine W_bind fun _ hck => ?_
  refine W_bind fun z8 hz => ?_
  refine w_after (cells1 := 1) (slots1 := 7) (w_runU E kU_CT_68_TR kc_X7_readLines (t_TxR_readLines_8 l hfl G N (m_sz z4) 14 z7 r ((fun z => (.inl (some (.int z.1)), z.2, r)) z8) (by rw [hz]; rfl)) ⟨Nat.le_of_ble_eq_true rfl, Nat.le_of_ble_eq_true rfl⟩ hw (w_recv E hw (by decide) ⟨_, _, rfl⟩ (ck_ok hck)) rfl hl.1 rfl (Nat.le_of_ble_eq_true rfl) dX11_town_36 ⟨Nat.le_of_ble_eq_true rfl, Nat.le_of_ble_eq_true rfl⟩) hw rfl (Nat.le_of_ble_eq_true rfl) (Nat.le_of_ble_eq_true rfl) (fun H locs hw => ?_)
  refine W.eq (g2 := F0 m 39 ls [.int z8.1]) rfl ?_
  have hw : w_W G z8.2 r s H locs := hw
  refine lv_istore_n (lv' := [(3, .int z8.1), (2, .ref (m_sz z4)), (1, .int z1.1), (0, .ref this)]) hx hb dX11_town_39 rfl hl (by decide) rfl (fun ls hl => ?_)
  refine lv_aload_n hx hb dX11_town_40 rfl (lv_at hl 3 rfl) ?_
  refine lv_aload_n hx hb dX11_town_41 rfl (lv_at hl 1 rfl) ?_
  refine gx_getI E hw kF_CT_72_8 (by decide) dX11_town_42 (fun v9 _ => ?_)
  refine gx_putI E hw kF_CT_13_10 kT_10_2 (by decide) dX11_town_45 (fun M10 H locs _ hw => ?_)
  refine lv_iload_n hx hb dX11_town_48 rfl (lv_at hl 0 rfl) ?_
  refine cx_if_ne (tgt := 62) E dX11_town_49 (by decide) (fun _ => ?_) (fun _ => ?_)
  · refine lv_aload_n hx hb dX11_town_62 rfl (lv_at hl 3 rfl) ?_
    refine gx_getR E hw kF_CT_20_10 (by decide) dX11_town_63 (fun v11 _ => ?_)
    refine gx_getI E hw kF_CT_80_7 (by decide) dX11_town_66 (fun v12 _ => ?_)
    refine lv_bipush (v := 12) hx hb dX11_town_69 (by decide) ?_
    refine cx_icmp_lt (tgt := 84) E dX11_town_71 (by decide) (fun _ => ?_) (fun _ => ?_)
    · refine lv_aload_n hx hb dX11_town_84 rfl (lv_at hl 3 rfl) ?_
      refine gx_getR E hw kF_CT_31_10 (by decide) dX11_town_85 (fun v13 _ => ?_)
      refine lv_dup hx hb dX11_town_88 rfl ?_
      refine gx_getI E hw kF_CT_80_7 (by decide) dX11_town_89 (fun v14 _ => ?_)
      refine lv_iconst (v := 1) hx hb dX11_town_92 (by decide) ?_
      refine lv_iadd hx hb dX11_town_93 ?_
      refine gx_putI E hw kF_CT_80_7 kT_7_7 (by decide) dX11_town_94 (fun M15 H locs _ hw => ?_)
      refine lv_aload_n hx hb dX11_town_97 rfl (lv_at hl 3 rfl) ?_
      refine gx_getR E hw kF_CT_20_10 (by decide) dX11_town_98 (fun v16 _ => ?_)
      refine lv_aload_n hx hb dX11_town_101 rfl (lv_at hl 3 rfl) ?_
      refine gx_getR E hw kF_CT_31_10 (by decide) dX11_town_102 (fun v17 _ => ?_)
      refine W_bind fun _ hck => ?_
      refine W_bind fun z18 hz => ?_
      refine w_after (cells1 := 1) (slots1 := 7) (w_runV E kV_CT_59 kc_X8_copyFrom (t_Town_copyFrom l hfl G N v16 v17 M15 r ((fun z => (.inl none, z, r)) z18) (by rw [hz]; rfl)) ⟨Nat.le_of_ble_eq_true rfl, Nat.le_of_ble_eq_true rfl⟩ hw (w_recv E hw (by decide) ⟨_, _, rfl⟩ (ck_ok hck)) rfl hl.1 rfl (Nat.le_of_ble_eq_true rfl) dX11_town_105 ⟨Nat.le_of_ble_eq_true rfl, Nat.le_of_ble_eq_true rfl⟩) hw rfl (Nat.le_of_ble_eq_true rfl) (Nat.le_of_ble_eq_true rfl) (fun H locs hw => ?_)
      refine W.eq (g2 := F0 m 108 ls []) rfl ?_
      have hw : w_W G z18 r s H locs := hw
      refine lv_aload_n hx hb dX11_town_108 rfl (lv_at hl 3 rfl) ?_
      refine lv_iconst (v := 0) hx hb dX11_town_109 (by decide) ?_
      refine gx_putI E hw kF_CT_88_10 kT_10_7 (by decide) dX11_town_110 (fun M19 H locs _ hw => ?_)
      refine lv_aload_n hx hb dX11_town_113 rfl (lv_at hl 3 rfl) ?_
      refine gx_getR E hw kF_CT_20_10 (by decide) dX11_town_114 (fun v20 _ => ?_)
      refine gx_getI E hw kF_CT_80_7 (by decide) dX11_town_117 (fun v21 _ => ?_)
      exact p_iret E hw hr (Nat.le_of_ble_eq_true rfl) (Nat.le_of_ble_eq_true rfl) rfl dX11_town_120
    · exact gx_throw E hno hw kX_CT_85 hl.1 dX11_town_74 dX11_town_77 dX11_town_78 dX11_town_80 dX11_town_83 (Nat.le_of_ble_eq_true rfl) (Nat.le_of_ble_eq_true rfl) (Nat.le_of_ble_eq_true rfl) (Nat.le_of_ble_eq_true rfl) (Nat.le_of_ble_eq_true rfl) (Nat.le_of_ble_eq_true rfl) rfl
  · exact gx_throw E hno hw kX_CT_75 hl.1 dX11_town_52 dX11_town_55 dX11_town_56 dX11_town_58 dX11_town_61 (Nat.le_of_ble_eq_true rfl) (Nat.le_of_ble_eq_true rfl) (Nat.le_of_ble_eq_true rfl) (Nat.le_of_ble_eq_true rfl) (Nat.le_of_ble_eq_true rfl) (Nat.le_of_ble_eq_true rfl) rfl
set_option maxHeartbeats 4000000 in
set_option maxRecDepth 100000 in
theorem t_TxR_init_2 (l : Launch) (hfl : l.stackTraces = false) (G : wG) (this : Nat) (a0 : Nat) (a1 : Int32) (M : Mem) (r : Rho) : Ctr l yX7_init (wWs yX7_init cX7_init 3 none) rm_TxR_init_2 rm_TxR_init_2.cells rm_TxR_init_2.slots G [.ref this, .ref a0, .int a1] M r ((f_TxR_init_2 this a0 a1 M).map (fun z => (.inl none, z, r))) := by
  refine Ctr.ofF (own := "CheekTown$TextReade\x72") (by decide +kernel) hfl rfl (Nat.le_of_ble_eq_true rfl) (fun p e s m args below meth c E hno hr hnm hw ls hl => ?_)
  obtain ⟨hx, hb, hts, hown, hml, hTT, -⟩ := id E
  have hl : lv_has ls 3 [(0, .ref this), (1, .ref a0), (2, .int a1)] := hl
  obtain ⟨H, hH⟩ : ∃ H, H = s.heap := ⟨_, rfl⟩
  obtain ⟨locs, hlo⟩ : ∃ L : List Loc, L = [] := ⟨_, rfl⟩
  rw [← hH, ← hlo]
  rw [← hlo] at hw
  replace hw : w_W G M r s H locs := by rw [hH]; exact hw
  unfold f_TxR_init_2
  refine lv_aload_n hx hb dX7_init_0 rfl (lv_at hl 0 rfl) ?_
  refine W.objInit hx hb hown (hts _ kO_TxR) (hts _ kO_i) (hts _ kO_c) rfl (by rw [hml]; exact hl.1) rfl dX7_init_1 (Nat.le_of_ble_eq_true rfl) (Nat.le_of_ble_eq_true rfl) ?_
  refine W.eq (g2 := F0 m 4 ls []) rfl ?_
  refine lv_aload_n hx hb dX7_init_4 rfl (lv_at hl 0 rfl) ?_
  refine lv_iconst (v := (-1)) hx hb dX7_init_5 (by decide) ?_
  refine gx_putI E hw kF_TxR_9_2 kT_2_0 (by decide) dX7_init_6 (fun M1 H locs _ hw => ?_)
  refine lv_aload_n hx hb dX7_init_9 rfl (lv_at hl 0 rfl) ?_
  refine lv_aload_n hx hb dX7_init_10 rfl (lv_at hl 1 rfl) ?_
  refine gx_putFR E hw kF_TxR_15_2 kT_2_1 hnm ⟨_, _, _, rfl, rfl⟩ rfl rfl (by decide) dX7_init_11 (fun M2 H locs _ hw => ?_)
  refine lv_aload_n hx hb dX7_init_14 rfl (lv_at hl 0 rfl) ?_
  refine lv_iload_n hx hb dX7_init_15 rfl (lv_at hl 2 rfl) ?_
  refine lv_aload_n hx hb dX7_init_16 rfl (lv_at hl 1 rfl) ?_
  refine gx_alen E hw dX7_init_17 (fun v3 _ => ?_)
  refine W_bind fun z4 hz => ?_
  refine w_after (cells1 := 0) (slots1 := 0) (w_runS E kS_TxR_19 kc_J9_min_7cf53 (t_Math_min l hfl G a1 v3 M2 r ((fun z => (.inl (some (.int z)), M2, r)) z4) (by rw [hz]; rfl)) ⟨Nat.le_of_ble_eq_true rfl, Nat.le_of_ble_eq_true rfl⟩ hw rfl hl.1 rfl (Nat.le_of_ble_eq_true rfl) dX7_init_18 ⟨Nat.le_of_ble_eq_true rfl, Nat.le_of_ble_eq_true rfl⟩) hw rfl (Nat.le_of_ble_eq_true rfl) (Nat.le_of_ble_eq_true rfl) (fun H locs hw => ?_)
  refine W.eq (g2 := F0 m 21 ls [.int z4, .ref this]) rfl ?_
  have hw : w_W G M2 r s H locs := hw
  refine gx_putFI E hw kF_TxR_25_2 kT_2_2 hnm ⟨_, _, _, rfl, rfl⟩ (by decide) dX7_init_21 (fun M5 H locs _ hw => ?_)
  exact p_vret E hw hr (Nat.le_of_ble_eq_true rfl) (Nat.le_of_ble_eq_true rfl) rfl dX7_init_24
set_option maxHeartbeats 4000000 in
set_option maxRecDepth 100000 in
theorem t_TxR_goOn_2 (l : Launch) (hfl : l.stackTraces = false) (G : wG) (N : Nat) (this : Nat) (M : Mem) (r : Rho) : Ctr l yX7_goOn (wWs yX7_goOn cX7_goOn 1 none) rm_TxR_goOn_2 rm_TxR_goOn_2.cells rm_TxR_goOn_2.slots G [.ref this] M r ((f_TxR_goOn_2 N this M).map (fun z => (.inl none, z, r))) := by
  refine Ctr.ofF (own := "CheekTown$TextReade\x72") (by decide +kernel) hfl rfl (Nat.le_of_ble_eq_true rfl) (fun p e s m args below meth c E hno hr hnm hw ls hl => ?_)
  obtain ⟨hx, hb, hts, hown, hml, hTT, -⟩ := id E
  have hl : lv_has ls 1 [(0, .ref this)] := hl
  obtain ⟨H, hH⟩ : ∃ H, H = s.heap := ⟨_, rfl⟩
  obtain ⟨locs, hlo⟩ : ∃ L : List Loc, L = [] := ⟨_, rfl⟩
  rw [← hH, ← hlo]
  rw [← hlo] at hw
  replace hw : w_W G M r s H locs := by rw [hH]; exact hw
  have w177 : ∀ (M : Mem) (H : Heap) (locs : List Loc) (ls : Array Slot), w_W G M r s H locs → lv_has ls 1 [(0, .ref this)] → W p l e rm_TxR_goOn_2 s m args below meth c H locs 0 0 (PQ G below args s rm_TxR_goOn_2.cells rm_TxR_goOn_2.slots (fun z => (.inl none, z, r)) (f_TxR_goOn_2_177 N this M)) (F0 m 177 ls []) := by
    intro M H locs ls hw hl
    unfold f_TxR_goOn_2_177
    refine lv_aload_n hx hb dX7_goOn_177 rfl (lv_at hl 0 rfl) ?_
    refine gx_getI E hw kF_TxR_47_2 (by decide) dX7_goOn_178 (fun v26 _ => ?_)
    refine lv_aload_n hx hb dX7_goOn_181 rfl (lv_at hl 0 rfl) ?_
    refine gx_getI E hw kF_TxR_31_2 (by decide) dX7_goOn_182 (fun v27 _ => ?_)
    refine cx_icmp_ne (tgt := 209) E dX7_goOn_185 (by decide) (fun _ => ?_) (fun _ => ?_)
    · exact p_vret E hw hr (Nat.le_of_ble_eq_true rfl) (Nat.le_of_ble_eq_true rfl) rfl dX7_goOn_209
    · refine lv_aload_n hx hb dX7_goOn_188 rfl (lv_at hl 0 rfl) ?_
      refine gx_getI E hw kF_TxR_47_2 (by decide) dX7_goOn_189 (fun v28 _ => ?_)
      refine lv_aload_n hx hb dX7_goOn_192 rfl (lv_at hl 0 rfl) ?_
      refine gx_getI E hw kF_TxR_25_2 (by decide) dX7_goOn_193 (fun v29 _ => ?_)
      refine cx_icmp_ge (tgt := 209) E dX7_goOn_196 (by decide) (fun _ => ?_) (fun _ => ?_)
      · exact p_vret E hw hr (Nat.le_of_ble_eq_true rfl) (Nat.le_of_ble_eq_true rfl) rfl dX7_goOn_209
      · refine lv_aload_n hx hb dX7_goOn_199 rfl (lv_at hl 0 rfl) ?_
        refine lv_dup hx hb dX7_goOn_200 rfl ?_
        refine gx_getI E hw kF_TxR_47_2 (by decide) dX7_goOn_201 (fun v30 _ => ?_)
        refine lv_iconst (v := 1) hx hb dX7_goOn_204 (by decide) ?_
        refine lv_iadd hx hb dX7_goOn_205 ?_
        refine gx_putI E hw kF_TxR_47_2 kT_2_5 (by decide) dX7_goOn_206 (fun M31 H locs _ hw => ?_)
        exact p_vret E hw hr (Nat.le_of_ble_eq_true rfl) (Nat.le_of_ble_eq_true rfl) rfl dX7_goOn_209
  have w125 : ∀ (n : Nat) (M : Mem) (H : Heap) (locs : List Loc) (ls : Array Slot), w_W G M r s H locs → lv_has ls 1 [(0, .ref this)] → W p l e rm_TxR_goOn_2 s m args below meth c H locs 0 0 (PQ G below args s rm_TxR_goOn_2.cells rm_TxR_goOn_2.slots (fun z => (.inl none, z, r)) (f_TxR_goOn_2_125 N this n M)) (F0 m 125 ls []) := by
    intro n
    induction n with
    | zero => intros; exact W_none
    | succ n ih =>
      intro M H locs ls hw hl
      rw [f_TxR_goOn_2_125]
      refine lv_aload_n hx hb dX7_goOn_125 rfl (lv_at hl 0 rfl) ?_
      refine gx_getI E hw kF_TxR_47_2 (by decide) dX7_goOn_126 (fun v32 _ => ?_)
      refine lv_aload_n hx hb dX7_goOn_129 rfl (lv_at hl 0 rfl) ?_
      refine gx_getI E hw kF_TxR_25_2 (by decide) dX7_goOn_130 (fun v33 _ => ?_)
      refine cx_icmp_ge (tgt := 177) E dX7_goOn_133 (by decide) (fun _ => ?_) (fun _ => ?_)
      · exact w177  M _ _ _ hw (lv_sub hl [0] rfl)
      · refine lv_aload_n hx hb dX7_goOn_136 rfl (lv_at hl 0 rfl) ?_
        refine gx_getR E hw kF_TxR_15_2 (by decide) dX7_goOn_137 (fun v34 _ => ?_)
        refine lv_aload_n hx hb dX7_goOn_140 rfl (lv_at hl 0 rfl) ?_
        refine gx_getI E hw kF_TxR_47_2 (by decide) dX7_goOn_141 (fun v35 _ => ?_)
        refine gx_iald E hw dX7_goOn_144 (fun v36 _ => ?_)
        refine lv_bipush (v := 48) hx hb dX7_goOn_145 (by decide) ?_
        refine cx_icmp_lt (tgt := 177) E dX7_goOn_147 (by decide) (fun _ => ?_) (fun _ => ?_)
        · exact w177  M _ _ _ hw (lv_sub hl [0] rfl)
        · refine lv_aload_n hx hb dX7_goOn_150 rfl (lv_at hl 0 rfl) ?_
          refine gx_getR E hw kF_TxR_15_2 (by decide) dX7_goOn_151 (fun v37 _ => ?_)
          refine lv_aload_n hx hb dX7_goOn_154 rfl (lv_at hl 0 rfl) ?_
          refine gx_getI E hw kF_TxR_47_2 (by decide) dX7_goOn_155 (fun v38 _ => ?_)
          refine gx_iald E hw dX7_goOn_158 (fun v39 _ => ?_)
          refine lv_bipush (v := 57) hx hb dX7_goOn_159 (by decide) ?_
          refine cx_icmp_gt (tgt := 177) E dX7_goOn_161 (by decide) (fun _ => ?_) (fun _ => ?_)
          · exact w177  M _ _ _ hw (lv_sub hl [0] rfl)
          · refine lv_aload_n hx hb dX7_goOn_164 rfl (lv_at hl 0 rfl) ?_
            refine lv_dup hx hb dX7_goOn_165 rfl ?_
            refine gx_getI E hw kF_TxR_47_2 (by decide) dX7_goOn_166 (fun v40 _ => ?_)
            refine lv_iconst (v := 1) hx hb dX7_goOn_169 (by decide) ?_
            refine lv_iadd hx hb dX7_goOn_170 ?_
            refine gx_putI E hw kF_TxR_47_2 kT_2_5 (by decide) dX7_goOn_171 (fun M41 H locs _ hw => ?_)
            refine lv_goto (tgt := 125) hx hb dX7_goOn_174 (by decide) ?_
            exact ih M41 _ _ _ hw (lv_sub hl [0] rfl)
  have w114 : ∀ (M : Mem) (H : Heap) (locs : List Loc) (ls : Array Slot), w_W G M r s H locs → lv_has ls 1 [(0, .ref this)] → W p l e rm_TxR_goOn_2 s m args below meth c H locs 0 0 (PQ G below args s rm_TxR_goOn_2.cells rm_TxR_goOn_2.slots (fun z => (.inl none, z, r)) (f_TxR_goOn_2_114 N this M)) (F0 m 114 ls []) := by
    intro M H locs ls hw hl
    unfold f_TxR_goOn_2_114
    refine lv_aload_n hx hb dX7_goOn_114 rfl (lv_at hl 0 rfl) ?_
    refine gx_getI E hw kF_TxR_47_2 (by decide) dX7_goOn_115 (fun v24 _ => ?_)
    refine lv_aload_n hx hb dX7_goOn_118 rfl (lv_at hl 0 rfl) ?_
    refine gx_getI E hw kF_TxR_31_2 (by decide) dX7_goOn_119 (fun v25 _ => ?_)
    refine cx_icmp_ne (tgt := 177) E dX7_goOn_122 (by decide) (fun _ => ?_) (fun _ => ?_)
    · exact w177  M _ _ _ hw (lv_sub hl [0] rfl)
    · exact w125  N M _ _ _ hw (lv_sub hl [0] rfl)
  have w62 : ∀ (n : Nat) (M : Mem) (H : Heap) (locs : List Loc) (ls : Array Slot), w_W G M r s H locs → lv_has ls 1 [(0, .ref this)] → W p l e rm_TxR_goOn_2 s m args below meth c H locs 0 0 (PQ G below args s rm_TxR_goOn_2.cells rm_TxR_goOn_2.slots (fun z => (.inl none, z, r)) (f_TxR_goOn_2_62 N this n M)) (F0 m 62 ls []) := by
    intro n
    induction n with
    | zero => intros; exact W_none
    | succ n ih =>
      intro M H locs ls hw hl
      rw [f_TxR_goOn_2_62]
      refine lv_aload_n hx hb dX7_goOn_62 rfl (lv_at hl 0 rfl) ?_
      refine gx_getI E hw kF_TxR_47_2 (by decide) dX7_goOn_63 (fun v14 _ => ?_)
      refine lv_aload_n hx hb dX7_goOn_66 rfl (lv_at hl 0 rfl) ?_
      refine gx_getI E hw kF_TxR_25_2 (by decide) dX7_goOn_67 (fun v15 _ => ?_)
      refine cx_icmp_ge (tgt := 114) E dX7_goOn_70 (by decide) (fun _ => ?_) (fun _ => ?_)
      · exact w114  M _ _ _ hw (lv_sub hl [0] rfl)
      · refine lv_aload_n hx hb dX7_goOn_73 rfl (lv_at hl 0 rfl) ?_
        refine gx_getR E hw kF_TxR_15_2 (by decide) dX7_goOn_74 (fun v16 _ => ?_)
        refine lv_aload_n hx hb dX7_goOn_77 rfl (lv_at hl 0 rfl) ?_
        refine gx_getI E hw kF_TxR_47_2 (by decide) dX7_goOn_78 (fun v17 _ => ?_)
        refine gx_iald E hw dX7_goOn_81 (fun v18 _ => ?_)
        refine lv_bipush (v := 97) hx hb dX7_goOn_82 (by decide) ?_
        refine cx_icmp_lt (tgt := 114) E dX7_goOn_84 (by decide) (fun _ => ?_) (fun _ => ?_)
        · exact w114  M _ _ _ hw (lv_sub hl [0] rfl)
        · refine lv_aload_n hx hb dX7_goOn_87 rfl (lv_at hl 0 rfl) ?_
          refine gx_getR E hw kF_TxR_15_2 (by decide) dX7_goOn_88 (fun v19 _ => ?_)
          refine lv_aload_n hx hb dX7_goOn_91 rfl (lv_at hl 0 rfl) ?_
          refine gx_getI E hw kF_TxR_47_2 (by decide) dX7_goOn_92 (fun v20 _ => ?_)
          refine gx_iald E hw dX7_goOn_95 (fun v21 _ => ?_)
          refine lv_bipush (v := 122) hx hb dX7_goOn_96 (by decide) ?_
          refine cx_icmp_gt (tgt := 114) E dX7_goOn_98 (by decide) (fun _ => ?_) (fun _ => ?_)
          · exact w114  M _ _ _ hw (lv_sub hl [0] rfl)
          · refine lv_aload_n hx hb dX7_goOn_101 rfl (lv_at hl 0 rfl) ?_
            refine lv_dup hx hb dX7_goOn_102 rfl ?_
            refine gx_getI E hw kF_TxR_47_2 (by decide) dX7_goOn_103 (fun v22 _ => ?_)
            refine lv_iconst (v := 1) hx hb dX7_goOn_106 (by decide) ?_
            refine lv_iadd hx hb dX7_goOn_107 ?_
            refine gx_putI E hw kF_TxR_47_2 kT_2_5 (by decide) dX7_goOn_108 (fun M23 H locs _ hw => ?_)
            refine lv_goto (tgt := 62) hx hb dX7_goOn_111 (by decide) ?_
            exact ih M23 _ _ _ hw (lv_sub hl [0] rfl)
  have w54 : ∀ (M : Mem) (H : Heap) (locs : List Loc) (ls : Array Slot), w_W G M r s H locs → lv_has ls 1 [(0, .ref this)] → W p l e rm_TxR_goOn_2 s m args below meth c H locs 0 0 (PQ G below args s rm_TxR_goOn_2.cells rm_TxR_goOn_2.slots (fun z => (.inl none, z, r)) (f_TxR_goOn_2_54 N this M)) (F0 m 54 ls []) := by
    intro M H locs ls hw hl
    unfold f_TxR_goOn_2_54
    refine lv_aload_n hx hb dX7_goOn_54 rfl (lv_at hl 0 rfl) ?_
    refine lv_aload_n hx hb dX7_goOn_55 rfl (lv_at hl 0 rfl) ?_
    refine gx_getI E hw kF_TxR_31_2 (by decide) dX7_goOn_56 (fun v12 _ => ?_)
    refine gx_putI E hw kF_TxR_47_2 kT_2_5 (by decide) dX7_goOn_59 (fun M13 H locs _ hw => ?_)
    exact w62  N M13 _ _ _ hw (lv_sub hl [0] rfl)
  have w16 : ∀ (n : Nat) (M : Mem) (H : Heap) (locs : List Loc) (ls : Array Slot), w_W G M r s H locs → lv_has ls 1 [(0, .ref this)] → W p l e rm_TxR_goOn_2 s m args below meth c H locs 0 0 (PQ G below args s rm_TxR_goOn_2.cells rm_TxR_goOn_2.slots (fun z => (.inl none, z, r)) (f_TxR_goOn_2_16 N this n M)) (F0 m 16 ls []) := by
    intro n
    induction n with
    | zero => intros; exact W_none
    | succ n ih =>
      intro M H locs ls hw hl
      rw [f_TxR_goOn_2_16]
      refine lv_aload_n hx hb dX7_goOn_16 rfl (lv_at hl 0 rfl) ?_
      refine gx_getI E hw kF_TxR_31_2 (by decide) dX7_goOn_17 (fun v5 _ => ?_)
      refine lv_aload_n hx hb dX7_goOn_20 rfl (lv_at hl 0 rfl) ?_
      refine gx_getI E hw kF_TxR_25_2 (by decide) dX7_goOn_21 (fun v6 _ => ?_)
      refine cx_icmp_ge (tgt := 54) E dX7_goOn_24 (by decide) (fun _ => ?_) (fun _ => ?_)
      · exact w54  M _ _ _ hw (lv_sub hl [0] rfl)
      · refine lv_aload_n hx hb dX7_goOn_27 rfl (lv_at hl 0 rfl) ?_
        refine gx_getR E hw kF_TxR_15_2 (by decide) dX7_goOn_28 (fun v7 _ => ?_)
        refine lv_aload_n hx hb dX7_goOn_31 rfl (lv_at hl 0 rfl) ?_
        refine gx_getI E hw kF_TxR_31_2 (by decide) dX7_goOn_32 (fun v8 _ => ?_)
        refine gx_iald E hw dX7_goOn_35 (fun v9 _ => ?_)
        refine lv_bipush (v := 32) hx hb dX7_goOn_36 (by decide) ?_
        refine cx_icmp_ne (tgt := 54) E dX7_goOn_38 (by decide) (fun _ => ?_) (fun _ => ?_)
        · exact w54  M _ _ _ hw (lv_sub hl [0] rfl)
        · refine lv_aload_n hx hb dX7_goOn_41 rfl (lv_at hl 0 rfl) ?_
          refine lv_dup hx hb dX7_goOn_42 rfl ?_
          refine gx_getI E hw kF_TxR_31_2 (by decide) dX7_goOn_43 (fun v10 _ => ?_)
          refine lv_iconst (v := 1) hx hb dX7_goOn_46 (by decide) ?_
          refine lv_iadd hx hb dX7_goOn_47 ?_
          refine gx_putI E hw kF_TxR_31_2 kT_2_4 (by decide) dX7_goOn_48 (fun M11 H locs _ hw => ?_)
          refine lv_goto (tgt := 16) hx hb dX7_goOn_51 (by decide) ?_
          exact ih M11 _ _ _ hw (lv_sub hl [0] rfl)
  unfold f_TxR_goOn_2
  refine lv_aload_n hx hb dX7_goOn_0 rfl (lv_at hl 0 rfl) ?_
  refine lv_aload_n hx hb dX7_goOn_1 rfl (lv_at hl 0 rfl) ?_
  refine gx_getI E hw kF_TxR_31_2 (by decide) dX7_goOn_2 (fun v1 _ => ?_)
  refine gx_putI E hw kF_TxR_44_2 kT_2_3 (by decide) dX7_goOn_5 (fun M2 H locs _ hw => ?_)
  refine lv_aload_n hx hb dX7_goOn_8 rfl (lv_at hl 0 rfl) ?_
  refine lv_aload_n hx hb dX7_goOn_9 rfl (lv_at hl 0 rfl) ?_
  refine gx_getI E hw kF_TxR_47_2 (by decide) dX7_goOn_10 (fun v3 _ => ?_)
  refine gx_putI E hw kF_TxR_31_2 kT_2_4 (by decide) dX7_goOn_13 (fun M4 H locs _ hw => ?_)
  exact w16  N M4 _ _ _ hw (lv_sub hl [0] rfl)
set_option maxHeartbeats 4000000 in
set_option maxRecDepth 100000 in
theorem t_TxR_takeWord_2 (l : Launch) (hfl : l.stackTraces = false) (G : wG) (N : Nat) (this : Nat) (a0 : Nat) (M : Mem) (r : Rho) : Ctr l yX7_takeWord (wWs yX7_takeWord cX7_takeWord 3 (some .boolean)) rm_TxR_takeWord_2 rm_TxR_takeWord_2.cells rm_TxR_takeWord_2.slots G [.ref this, .ref (g_sk G a0)] M r ((f_TxR_takeWord_2 N this a0 M).map (fun z => (.inl (some (.int z.1)), z.2, r))) := by
  refine Ctr.ofF (own := "CheekTown$TextReade\x72") (by decide +kernel) hfl rfl (Nat.le_of_ble_eq_true rfl) (fun p e s m args below meth c E hno hr hnm hw ls hl => ?_)
  obtain ⟨hx, hb, hts, hown, hml, hTT, -⟩ := id E
  have hl : lv_has ls 3 [(0, .ref this), (1, .ref (g_sk G a0))] := hl
  obtain ⟨H, hH⟩ : ∃ H, H = s.heap := ⟨_, rfl⟩
  obtain ⟨locs, hlo⟩ : ∃ L : List Loc, L = [] := ⟨_, rfl⟩
  rw [← hH, ← hlo]
  rw [← hlo] at hw
  replace hw : w_W G M r s H locs := by rw [hH]; exact hw
  have w76 : ∀ (M : Mem) (H : Heap) (locs : List Loc) (ls : Array Slot), w_W G M r s H locs → lv_has ls 3 [(0, .ref this)] → W p l e rm_TxR_takeWord_2 s m args below meth c H locs 0 0 (PQ G below args s rm_TxR_takeWord_2.cells rm_TxR_takeWord_2.slots (fun z => (.inl (some (.int z.1)), z.2, r)) (f_TxR_takeWord_2_76 N this a0 M)) (F0 m 76 ls []) := by
    intro M H locs ls hw hl
    unfold f_TxR_takeWord_2_76
    refine lv_aload_n hx hb dX7_takeWord_76 rfl (lv_at hl 0 rfl) ?_
    refine W_bind fun _ hck => ?_
    refine W_bind fun z12 hz => ?_
    refine w_after (cells1 := 0) (slots1 := 0) (w_runU E kU_TxR_28_LR kc_X7_goOn (t_TxR_goOn_2 l hfl G N this M r ((fun z => (.inl none, z, r)) z12) (by rw [hz]; rfl)) ⟨Nat.le_of_ble_eq_true rfl, Nat.le_of_ble_eq_true rfl⟩ hw (w_recv E hw (by decide) ⟨_, _, rfl⟩ (ck_ok hck)) rfl hl.1 rfl (Nat.le_of_ble_eq_true rfl) dX7_takeWord_77 ⟨Nat.le_of_ble_eq_true rfl, Nat.le_of_ble_eq_true rfl⟩) hw rfl (Nat.le_of_ble_eq_true rfl) (Nat.le_of_ble_eq_true rfl) (fun H locs hw => ?_)
    refine W.eq (g2 := F0 m 80 ls []) rfl ?_
    have hw : w_W G z12 r s H locs := hw
    refine lv_iconst (v := 1) hx hb dX7_takeWord_80 (by decide) ?_
    exact p_zret E hw hr (by decide) (Nat.le_of_ble_eq_true rfl) (Nat.le_of_ble_eq_true rfl) rfl dX7_takeWord_81
  have w28 : ∀ (n : Nat) (x2 : Int32) (M : Mem) (H : Heap) (locs : List Loc) (ls : Array Slot), w_W G M r s H locs → lv_has ls 3 [(0, .ref this), (1, .ref (g_sk G a0)), (2, .int x2)] → W p l e rm_TxR_takeWord_2 s m args below meth c H locs 0 0 (PQ G below args s rm_TxR_takeWord_2.cells rm_TxR_takeWord_2.slots (fun z => (.inl (some (.int z.1)), z.2, r)) (f_TxR_takeWord_2_28 N this a0 n x2 M)) (F0 m 28 ls []) := by
    intro n
    induction n with
    | zero => intros; exact W_none
    | succ n ih =>
      intro x2 M H locs ls hw hl
      rw [f_TxR_takeWord_2_28]
      refine lv_iload_n hx hb dX7_takeWord_28 rfl (lv_at hl 2 rfl) ?_
      refine lv_aload_n hx hb dX7_takeWord_29 rfl (lv_at hl 1 rfl) ?_
      refine gx_slen E hw kSl_TxR hl.1 (Nat.le_of_ble_eq_true rfl) dX7_takeWord_30 (Nat.le_of_ble_eq_true rfl) (Nat.le_of_ble_eq_true rfl) (Nat.le_of_ble_eq_true rfl) (Nat.le_of_ble_eq_true rfl) (fun v5 H locs hw => ?_)
      refine cx_icmp_ge (tgt := 76) E dX7_takeWord_33 (by decide) (fun _ => ?_) (fun _ => ?_)
      · exact w76  M _ _ _ hw (lv_sub hl [0] rfl)
      · refine lv_aload_n hx hb dX7_takeWord_36 rfl (lv_at hl 0 rfl) ?_
        refine gx_getI E hw kF_TxR_31_2 (by decide) dX7_takeWord_37 (fun v6 _ => ?_)
        refine lv_iload_n hx hb dX7_takeWord_40 rfl (lv_at hl 2 rfl) ?_
        refine lv_iadd hx hb dX7_takeWord_41 ?_
        refine lv_aload_n hx hb dX7_takeWord_42 rfl (lv_at hl 0 rfl) ?_
        refine gx_getI E hw kF_TxR_25_2 (by decide) dX7_takeWord_43 (fun v7 _ => ?_)
        refine cx_icmp_ge (tgt := 76) E dX7_takeWord_46 (by decide) (fun _ => ?_) (fun _ => ?_)
        · exact w76  M _ _ _ hw (lv_sub hl [0] rfl)
        · refine lv_aload_n hx hb dX7_takeWord_49 rfl (lv_at hl 0 rfl) ?_
          refine gx_getR E hw kF_TxR_15_2 (by decide) dX7_takeWord_50 (fun v8 _ => ?_)
          refine lv_aload_n hx hb dX7_takeWord_53 rfl (lv_at hl 0 rfl) ?_
          refine gx_getI E hw kF_TxR_31_2 (by decide) dX7_takeWord_54 (fun v9 _ => ?_)
          refine lv_iload_n hx hb dX7_takeWord_57 rfl (lv_at hl 2 rfl) ?_
          refine lv_iadd hx hb dX7_takeWord_58 ?_
          refine gx_iald E hw dX7_takeWord_59 (fun v10 _ => ?_)
          refine lv_aload_n hx hb dX7_takeWord_60 rfl (lv_at hl 1 rfl) ?_
          refine lv_iload_n hx hb dX7_takeWord_61 rfl (lv_at hl 2 rfl) ?_
          refine gx_schar E hw kSc_TxR hl.1 (Nat.le_of_ble_eq_true rfl) dX7_takeWord_62 (Nat.le_of_ble_eq_true rfl) (Nat.le_of_ble_eq_true rfl) (Nat.le_of_ble_eq_true rfl) (Nat.le_of_ble_eq_true rfl) (fun v11 H locs hw => ?_)
          refine cx_icmp_eq (tgt := 70) E dX7_takeWord_65 (by decide) (fun _ => ?_) (fun _ => ?_)
          · refine lv_iinc (v := x2 + 1) (lv' := [(2, .int (x2 + 1)), (0, .ref this), (1, .ref (g_sk G a0))]) hx hb dX7_takeWord_70 hl (k := 2) rfl rfl (by decide) rfl (fun ls hl => ?_)
            refine lv_goto (tgt := 28) hx hb dX7_takeWord_73 (by decide) ?_
            exact ih (x2 + 1) M _ _ _ hw (lv_sub hl [1, 2, 0] rfl)
          · refine lv_iconst (v := 0) hx hb dX7_takeWord_68 (by decide) ?_
            exact p_zret E hw hr (by decide) (Nat.le_of_ble_eq_true rfl) (Nat.le_of_ble_eq_true rfl) rfl dX7_takeWord_69
  unfold f_TxR_takeWord_2
  refine lv_aload_n hx hb dX7_takeWord_0 rfl (lv_at hl 0 rfl) ?_
  refine gx_getI E hw kF_TxR_9_2 (by decide) dX7_takeWord_1 (fun v1 _ => ?_)
  refine lv_iconst (v := (-1)) hx hb dX7_takeWord_4 (by decide) ?_
  refine cx_icmp_ne (tgt := 24) E dX7_takeWord_5 (by decide) (fun _ => ?_) (fun _ => ?_)
  · refine lv_iconst (v := 0) hx hb dX7_takeWord_24 (by decide) ?_
    exact p_zret E hw hr (by decide) (Nat.le_of_ble_eq_true rfl) (Nat.le_of_ble_eq_true rfl) rfl dX7_takeWord_25
  · refine lv_aload_n hx hb dX7_takeWord_8 rfl (lv_at hl 0 rfl) ?_
    refine gx_getI E hw kF_TxR_47_2 (by decide) dX7_takeWord_9 (fun v2 _ => ?_)
    refine lv_aload_n hx hb dX7_takeWord_12 rfl (lv_at hl 0 rfl) ?_
    refine gx_getI E hw kF_TxR_31_2 (by decide) dX7_takeWord_13 (fun v3 _ => ?_)
    refine lv_isub hx hb dX7_takeWord_16 ?_
    refine lv_aload_n hx hb dX7_takeWord_17 rfl (lv_at hl 1 rfl) ?_
    refine gx_slen E hw kSl_TxR hl.1 (Nat.le_of_ble_eq_true rfl) dX7_takeWord_18 (Nat.le_of_ble_eq_true rfl) (Nat.le_of_ble_eq_true rfl) (Nat.le_of_ble_eq_true rfl) (Nat.le_of_ble_eq_true rfl) (fun v4 H locs hw => ?_)
    refine cx_icmp_eq (tgt := 26) E dX7_takeWord_21 (by decide) (fun _ => ?_) (fun _ => ?_)
    · refine lv_iconst (v := 0) hx hb dX7_takeWord_26 (by decide) ?_
      refine lv_istore_n (lv' := [(2, .int 0), (0, .ref this), (1, .ref (g_sk G a0))]) hx hb dX7_takeWord_27 rfl hl (by decide) rfl (fun ls hl => ?_)
      exact w28  N 0 M _ _ _ hw (lv_sub hl [1, 2, 0] rfl)
    · refine lv_iconst (v := 0) hx hb dX7_takeWord_24 (by decide) ?_
      exact p_zret E hw hr (by decide) (Nat.le_of_ble_eq_true rfl) (Nat.le_of_ble_eq_true rfl) rfl dX7_takeWord_25
set_option maxHeartbeats 4000000 in
set_option maxRecDepth 100000 in
theorem t_TxR_nextIsWrong_2 (l : Launch) (hfl : l.stackTraces = false) (G : wG) (this : Nat) (M : Mem) (r : Rho) : Ctr l yX7_nextIsWrong (wWs yX7_nextIsWrong cX7_nextIsWrong 1 none) rm_TxR_nextIsWrong_2 rm_TxR_nextIsWrong_2.cells rm_TxR_nextIsWrong_2.slots G [.ref this] M r ((f_TxR_nextIsWrong_2 this M).map (fun z => (.inl none, z, r))) := by
  refine Ctr.ofF (own := "CheekTown$TextReade\x72") (by decide +kernel) hfl rfl (Nat.le_of_ble_eq_true rfl) (fun p e s m args below meth c E hno hr hnm hw ls hl => ?_)
  obtain ⟨hx, hb, hts, hown, hml, hTT, -⟩ := id E
  have hl : lv_has ls 1 [(0, .ref this)] := hl
  obtain ⟨H, hH⟩ : ∃ H, H = s.heap := ⟨_, rfl⟩
  obtain ⟨locs, hlo⟩ : ∃ L : List Loc, L = [] := ⟨_, rfl⟩
  rw [← hH, ← hlo]
  rw [← hlo] at hw
  replace hw : w_W G M r s H locs := by rw [hH]; exact hw
  unfold f_TxR_nextIsWrong_2
  refine lv_aload_n hx hb dX7_nextIsWrong_0 rfl (lv_at hl 0 rfl) ?_
  refine gx_getI E hw kF_TxR_9_2 (by decide) dX7_nextIsWrong_1 (fun v1 _ => ?_)
  refine lv_iconst (v := (-1)) hx hb dX7_nextIsWrong_4 (by decide) ?_
  refine cx_icmp_ne (tgt := 16) E dX7_nextIsWrong_5 (by decide) (fun _ => ?_) (fun _ => ?_)
  · exact p_vret E hw hr (Nat.le_of_ble_eq_true rfl) (Nat.le_of_ble_eq_true rfl) rfl dX7_nextIsWrong_16
  · refine lv_aload_n hx hb dX7_nextIsWrong_8 rfl (lv_at hl 0 rfl) ?_
    refine lv_aload_n hx hb dX7_nextIsWrong_9 rfl (lv_at hl 0 rfl) ?_
    refine gx_getI E hw kF_TxR_31_2 (by decide) dX7_nextIsWrong_10 (fun v2 _ => ?_)
    refine gx_putI E hw kF_TxR_9_2 kT_2_0 (by decide) dX7_nextIsWrong_13 (fun M3 H locs _ hw => ?_)
    exact p_vret E hw hr (Nat.le_of_ble_eq_true rfl) (Nat.le_of_ble_eq_true rfl) rfl dX7_nextIsWrong_16
set_option maxHeartbeats 4000000 in
set_option maxRecDepth 100000 in
theorem t_TxR_readWord_2 (l : Launch) (hfl : l.stackTraces = false) (G : wG) (N : Nat) (this : Nat) (a0 : Nat) (M : Mem) (r : Rho) : Ctr l yX7_readWord (wWs yX7_readWord cX7_readWord 2 none) rm_TxR_readWord_2 rm_TxR_readWord_2.cells rm_TxR_readWord_2.slots G [.ref this, .ref (g_sk G a0)] M r ((f_TxR_readWord_2 N this a0 M).map (fun z => (.inl none, z, r))) := by
  refine Ctr.ofF (own := "CheekTown$TextReade\x72") (by decide +kernel) hfl rfl (Nat.le_of_ble_eq_true rfl) (fun p e s m args below meth c E hno hr hnm hw ls hl => ?_)
  obtain ⟨hx, hb, hts, hown, hml, hTT, -⟩ := id E
  have hl : lv_has ls 2 [(0, .ref this), (1, .ref (g_sk G a0))] := hl
  obtain ⟨H, hH⟩ : ∃ H, H = s.heap := ⟨_, rfl⟩
  obtain ⟨locs, hlo⟩ : ∃ L : List Loc, L = [] := ⟨_, rfl⟩
  rw [← hH, ← hlo]
  rw [← hlo] at hw
  replace hw : w_W G M r s H locs := by rw [hH]; exact hw
  unfold f_TxR_readWord_2
  refine lv_aload_n hx hb dX7_readWord_0 rfl (lv_at hl 0 rfl) ?_
  refine lv_aload_n hx hb dX7_readWord_1 rfl (lv_at hl 1 rfl) ?_
  refine W_bind fun _ hck => ?_
  refine W_bind fun z1 hz => ?_
  refine w_after (cells1 := 0) (slots1 := 0) (w_runU E kU_TxR_59_LR kc_X7_takeWord (t_TxR_takeWord_2 l hfl G N this a0 M r ((fun z => (.inl (some (.int z.1)), z.2, r)) z1) (by rw [hz]; rfl)) ⟨Nat.le_of_ble_eq_true rfl, Nat.le_of_ble_eq_true rfl⟩ hw (w_recv E hw (by decide) ⟨_, _, rfl⟩ (ck_ok hck)) rfl hl.1 rfl (Nat.le_of_ble_eq_true rfl) dX7_readWord_2 ⟨Nat.le_of_ble_eq_true rfl, Nat.le_of_ble_eq_true rfl⟩) hw rfl (Nat.le_of_ble_eq_true rfl) (Nat.le_of_ble_eq_true rfl) (fun H locs hw => ?_)
  refine W.eq (g2 := F0 m 5 ls [.int z1.1]) rfl ?_
  have hw : w_W G z1.2 r s H locs := hw
  refine cx_if_ne (tgt := 12) E dX7_readWord_5 (by decide) (fun _ => ?_) (fun _ => ?_)
  · exact p_vret E hw hr (Nat.le_of_ble_eq_true rfl) (Nat.le_of_ble_eq_true rfl) rfl dX7_readWord_12
  · refine lv_aload_n hx hb dX7_readWord_8 rfl (lv_at hl 0 rfl) ?_
    refine W_bind fun _ hck => ?_
    refine W_bind fun z2 hz => ?_
    refine w_after (cells1 := 0) (slots1 := 0) (w_runU E kU_TxR_41_LR kc_X7_nextIsWrong (t_TxR_nextIsWrong_2 l hfl G this z1.2 r ((fun z => (.inl none, z, r)) z2) (by rw [hz]; rfl)) ⟨Nat.le_of_ble_eq_true rfl, Nat.le_of_ble_eq_true rfl⟩ hw (w_recv E hw (by decide) ⟨_, _, rfl⟩ (ck_ok hck)) rfl hl.1 rfl (Nat.le_of_ble_eq_true rfl) dX7_readWord_9 ⟨Nat.le_of_ble_eq_true rfl, Nat.le_of_ble_eq_true rfl⟩) hw rfl (Nat.le_of_ble_eq_true rfl) (Nat.le_of_ble_eq_true rfl) (fun H locs hw => ?_)
    refine W.eq (g2 := F0 m 12 ls []) rfl ?_
    have hw : w_W G z2 r s H locs := hw
    exact p_vret E hw hr (Nat.le_of_ble_eq_true rfl) (Nat.le_of_ble_eq_true rfl) rfl dX7_readWord_12
set_option maxHeartbeats 4000000 in
set_option maxRecDepth 100000 in
theorem t_TxR_isNumberNext_2 (l : Launch) (hfl : l.stackTraces = false) (G : wG) (this : Nat) (M : Mem) (r : Rho) : Ctr l yX7_isNumberNext (wWs yX7_isNumberNext cX7_isNumberNext 1 (some .boolean)) rm_TxR_isNumberNext_2 rm_TxR_isNumberNext_2.cells rm_TxR_isNumberNext_2.slots G [.ref this] M r ((f_TxR_isNumberNext_2 this M).map (fun z => (.inl (some (.int z)), M, r))) := by
  refine Ctr.ofF (own := "CheekTown$TextReade\x72") (by decide +kernel) hfl rfl (Nat.le_of_ble_eq_true rfl) (fun p e s m args below meth c E hno hr hnm hw ls hl => ?_)
  obtain ⟨hx, hb, hts, hown, hml, hTT, -⟩ := id E
  have hl : lv_has ls 1 [(0, .ref this)] := hl
  obtain ⟨H, hH⟩ : ∃ H, H = s.heap := ⟨_, rfl⟩
  obtain ⟨locs, hlo⟩ : ∃ L : List Loc, L = [] := ⟨_, rfl⟩
  rw [← hH, ← hlo]
  rw [← hlo] at hw
  replace hw : w_W G M r s H locs := by rw [hH]; exact hw
  unfold f_TxR_isNumberNext_2
  refine lv_aload_n hx hb dX7_isNumberNext_0 rfl (lv_at hl 0 rfl) ?_
  refine gx_getI E hw kF_TxR_31_2 (by decide) dX7_isNumberNext_1 (fun v1 _ => ?_)
  refine lv_aload_n hx hb dX7_isNumberNext_4 rfl (lv_at hl 0 rfl) ?_
  refine gx_getI E hw kF_TxR_25_2 (by decide) dX7_isNumberNext_5 (fun v2 _ => ?_)
  refine cx_icmp_ge (tgt := 43) E dX7_isNumberNext_8 (by decide) (fun _ => ?_) (fun _ => ?_)
  · refine lv_iconst (v := 0) hx hb dX7_isNumberNext_43 (by decide) ?_
    exact p_zret E hw hr (by decide) (Nat.le_of_ble_eq_true rfl) (Nat.le_of_ble_eq_true rfl) rfl dX7_isNumberNext_44
  · refine lv_aload_n hx hb dX7_isNumberNext_11 rfl (lv_at hl 0 rfl) ?_
    refine gx_getR E hw kF_TxR_15_2 (by decide) dX7_isNumberNext_12 (fun v3 _ => ?_)
    refine lv_aload_n hx hb dX7_isNumberNext_15 rfl (lv_at hl 0 rfl) ?_
    refine gx_getI E hw kF_TxR_31_2 (by decide) dX7_isNumberNext_16 (fun v4 _ => ?_)
    refine gx_iald E hw dX7_isNumberNext_19 (fun v5 _ => ?_)
    refine lv_bipush (v := 48) hx hb dX7_isNumberNext_20 (by decide) ?_
    refine cx_icmp_lt (tgt := 43) E dX7_isNumberNext_22 (by decide) (fun _ => ?_) (fun _ => ?_)
    · refine lv_iconst (v := 0) hx hb dX7_isNumberNext_43 (by decide) ?_
      exact p_zret E hw hr (by decide) (Nat.le_of_ble_eq_true rfl) (Nat.le_of_ble_eq_true rfl) rfl dX7_isNumberNext_44
    · refine lv_aload_n hx hb dX7_isNumberNext_25 rfl (lv_at hl 0 rfl) ?_
      refine gx_getR E hw kF_TxR_15_2 (by decide) dX7_isNumberNext_26 (fun v6 _ => ?_)
      refine lv_aload_n hx hb dX7_isNumberNext_29 rfl (lv_at hl 0 rfl) ?_
      refine gx_getI E hw kF_TxR_31_2 (by decide) dX7_isNumberNext_30 (fun v7 _ => ?_)
      refine gx_iald E hw dX7_isNumberNext_33 (fun v8 _ => ?_)
      refine lv_bipush (v := 57) hx hb dX7_isNumberNext_34 (by decide) ?_
      refine cx_icmp_gt (tgt := 43) E dX7_isNumberNext_36 (by decide) (fun _ => ?_) (fun _ => ?_)
      · refine lv_iconst (v := 0) hx hb dX7_isNumberNext_43 (by decide) ?_
        exact p_zret E hw hr (by decide) (Nat.le_of_ble_eq_true rfl) (Nat.le_of_ble_eq_true rfl) rfl dX7_isNumberNext_44
      · refine lv_iconst (v := 1) hx hb dX7_isNumberNext_39 (by decide) ?_
        refine lv_goto (tgt := 44) hx hb dX7_isNumberNext_40 (by decide) ?_
        exact p_zret E hw hr (by decide) (Nat.le_of_ble_eq_true rfl) (Nat.le_of_ble_eq_true rfl) rfl dX7_isNumberNext_44
set_option maxHeartbeats 4000000 in
set_option maxRecDepth 100000 in
theorem t_TxR_readNumber_2 (l : Launch) (hfl : l.stackTraces = false) (G : wG) (N : Nat) (this : Nat) (a0 : Int32) (a1 : Int32) (M : Mem) (r : Rho) : Ctr l yX7_readNumber (wWs yX7_readNumber cX7_readNumber 5 (some .int)) rm_TxR_readNumber_2 rm_TxR_readNumber_2.cells rm_TxR_readNumber_2.slots G [.ref this, .int a0, .int a1] M r ((f_TxR_readNumber_2 N this a0 a1 M).map (fun z => (.inl (some (.int z.1)), z.2, r))) := by
  refine Ctr.ofF (own := "CheekTown$TextReade\x72") (by decide +kernel) hfl rfl (Nat.le_of_ble_eq_true rfl) (fun p e s m args below meth c E hno hr hnm hw ls hl => ?_)
  obtain ⟨hx, hb, hts, hown, hml, hTT, -⟩ := id E
  have hl : lv_has ls 5 [(0, .ref this), (1, .int a0), (2, .int a1)] := hl
  obtain ⟨H, hH⟩ : ∃ H, H = s.heap := ⟨_, rfl⟩
  obtain ⟨locs, hlo⟩ : ∃ L : List Loc, L = [] := ⟨_, rfl⟩
  rw [← hH, ← hlo]
  rw [← hlo] at hw
  replace hw : w_W G M r s H locs := by rw [hH]; exact hw
  have w95 : ∀ (M : Mem) (H : Heap) (locs : List Loc) (ls : Array Slot), w_W G M r s H locs → lv_has ls 5 [(0, .ref this)] → W p l e rm_TxR_readNumber_2 s m args below meth c H locs 0 0 (PQ G below args s rm_TxR_readNumber_2.cells rm_TxR_readNumber_2.slots (fun z => (.inl (some (.int z.1)), z.2, r)) (f_TxR_readNumber_2_95 N this a0 a1 M)) (F0 m 95 ls []) := by
    intro M H locs ls hw hl
    unfold f_TxR_readNumber_2_95
    refine lv_aload_n hx hb dX7_readNumber_95 rfl (lv_at hl 0 rfl) ?_
    refine W_bind fun _ hck => ?_
    refine W_bind fun z11 hz => ?_
    refine w_after (cells1 := 0) (slots1 := 0) (w_runU E kU_TxR_41_LR kc_X7_nextIsWrong (t_TxR_nextIsWrong_2 l hfl G this M r ((fun z => (.inl none, z, r)) z11) (by rw [hz]; rfl)) ⟨Nat.le_of_ble_eq_true rfl, Nat.le_of_ble_eq_true rfl⟩ hw (w_recv E hw (by decide) ⟨_, _, rfl⟩ (ck_ok hck)) rfl hl.1 rfl (Nat.le_of_ble_eq_true rfl) dX7_readNumber_96 ⟨Nat.le_of_ble_eq_true rfl, Nat.le_of_ble_eq_true rfl⟩) hw rfl (Nat.le_of_ble_eq_true rfl) (Nat.le_of_ble_eq_true rfl) (fun H locs hw => ?_)
    refine W.eq (g2 := F0 m 99 ls []) rfl ?_
    have hw : w_W G z11 r s H locs := hw
    refine lv_iconst (v := (-1)) hx hb dX7_readNumber_99 (by decide) ?_
    exact p_iret E hw hr (Nat.le_of_ble_eq_true rfl) (Nat.le_of_ble_eq_true rfl) rfl dX7_readNumber_100
  have w77 : ∀ (x3 : Int32) (M : Mem) (H : Heap) (locs : List Loc) (ls : Array Slot), w_W G M r s H locs → lv_has ls 5 [(0, .ref this), (1, .int a0), (2, .int a1), (3, .int x3)] → W p l e rm_TxR_readNumber_2 s m args below meth c H locs 0 0 (PQ G below args s rm_TxR_readNumber_2.cells rm_TxR_readNumber_2.slots (fun z => (.inl (some (.int z.1)), z.2, r)) (f_TxR_readNumber_2_77 N this a0 a1 x3 M)) (F0 m 77 ls []) := by
    intro x3 M H locs ls hw hl
    unfold f_TxR_readNumber_2_77
    refine lv_aload_n hx hb dX7_readNumber_77 rfl (lv_at hl 0 rfl) ?_
    refine gx_getI E hw kF_TxR_9_2 (by decide) dX7_readNumber_78 (fun v9 _ => ?_)
    refine lv_iconst (v := (-1)) hx hb dX7_readNumber_81 (by decide) ?_
    refine cx_icmp_ne (tgt := 95) E dX7_readNumber_82 (by decide) (fun _ => ?_) (fun _ => ?_)
    · exact w95  M _ _ _ hw (lv_sub hl [0] rfl)
    · refine lv_iload_n hx hb dX7_readNumber_85 rfl (lv_at hl 3 rfl) ?_
      refine lv_iload_n hx hb dX7_readNumber_86 rfl (lv_at hl 1 rfl) ?_
      refine cx_icmp_lt (tgt := 95) E dX7_readNumber_87 (by decide) (fun _ => ?_) (fun _ => ?_)
      · exact w95  M _ _ _ hw (lv_sub hl [0] rfl)
      · refine lv_iload_n hx hb dX7_readNumber_90 rfl (lv_at hl 3 rfl) ?_
        refine lv_iload_n hx hb dX7_readNumber_91 rfl (lv_at hl 2 rfl) ?_
        refine cx_icmp_le (tgt := 101) E dX7_readNumber_92 (by decide) (fun _ => ?_) (fun _ => ?_)
        · refine lv_aload_n hx hb dX7_readNumber_101 rfl (lv_at hl 0 rfl) ?_
          refine W_bind fun _ hck => ?_
          refine W_bind fun z10 hz => ?_
          refine w_after (cells1 := 0) (slots1 := 0) (w_runU E kU_TxR_28_LR kc_X7_goOn (t_TxR_goOn_2 l hfl G N this M r ((fun z => (.inl none, z, r)) z10) (by rw [hz]; rfl)) ⟨Nat.le_of_ble_eq_true rfl, Nat.le_of_ble_eq_true rfl⟩ hw (w_recv E hw (by decide) ⟨_, _, rfl⟩ (ck_ok hck)) rfl hl.1 rfl (Nat.le_of_ble_eq_true rfl) dX7_readNumber_102 ⟨Nat.le_of_ble_eq_true rfl, Nat.le_of_ble_eq_true rfl⟩) hw rfl (Nat.le_of_ble_eq_true rfl) (Nat.le_of_ble_eq_true rfl) (fun H locs hw => ?_)
          refine W.eq (g2 := F0 m 105 ls []) rfl ?_
          have hw : w_W G z10 r s H locs := hw
          refine lv_iload_n hx hb dX7_readNumber_105 rfl (lv_at hl 3 rfl) ?_
          exact p_iret E hw hr (Nat.le_of_ble_eq_true rfl) (Nat.le_of_ble_eq_true rfl) rfl dX7_readNumber_106
        · exact w95  M _ _ _ hw (lv_sub hl [0] rfl)
  have w32 : ∀ (n : Nat) (x3 : Int32) (x4 : Int32) (M : Mem) (H : Heap) (locs : List Loc) (ls : Array Slot), w_W G M r s H locs → lv_has ls 5 [(0, .ref this), (1, .int a0), (2, .int a1), (3, .int x3), (4, .int x4)] → W p l e rm_TxR_readNumber_2 s m args below meth c H locs 0 0 (PQ G below args s rm_TxR_readNumber_2.cells rm_TxR_readNumber_2.slots (fun z => (.inl (some (.int z.1)), z.2, r)) (f_TxR_readNumber_2_32 N this a0 a1 n x3 x4 M)) (F0 m 32 ls []) := by
    intro n
    induction n with
    | zero => intros; exact W_none
    | succ n ih =>
      intro x3 x4 M H locs ls hw hl
      rw [f_TxR_readNumber_2_32]
      refine lv_iload_n hx hb dX7_readNumber_32 rfl (lv_at hl 3 rfl) ?_
      refine lv_iconst (v := (-1)) hx hb dX7_readNumber_33 (by decide) ?_
      refine cx_icmp_eq (tgt := 77) E dX7_readNumber_34 (by decide) (fun _ => ?_) (fun _ => ?_)
      · exact w77  x3 M _ _ _ hw (lv_sub hl [0, 1, 2, 3] rfl)
      · refine lv_iload hx hb dX7_readNumber_37 (lv_at hl 4 rfl) ?_
        refine lv_aload_n hx hb dX7_readNumber_39 rfl (lv_at hl 0 rfl) ?_
        refine gx_getI E hw kF_TxR_47_2 (by decide) dX7_readNumber_40 (fun v5 _ => ?_)
        refine cx_icmp_ge (tgt := 77) E dX7_readNumber_43 (by decide) (fun _ => ?_) (fun _ => ?_)
        · exact w77  x3 M _ _ _ hw (lv_sub hl [0, 1, 2, 3] rfl)
        · refine lv_iload hx hb dX7_readNumber_46 (lv_at hl 4 rfl) ?_
          refine lv_aload_n hx hb dX7_readNumber_48 rfl (lv_at hl 0 rfl) ?_
          refine gx_getI E hw kF_TxR_25_2 (by decide) dX7_readNumber_49 (fun v6 _ => ?_)
          refine cx_icmp_ge (tgt := 77) E dX7_readNumber_52 (by decide) (fun _ => ?_) (fun _ => ?_)
          · exact w77  x3 M _ _ _ hw (lv_sub hl [0, 1, 2, 3] rfl)
          · refine lv_bipush (v := 10) hx hb dX7_readNumber_55 (by decide) ?_
            refine lv_iload_n hx hb dX7_readNumber_57 rfl (lv_at hl 3 rfl) ?_
            refine lv_imul hx hb dX7_readNumber_58 ?_
            refine lv_aload_n hx hb dX7_readNumber_59 rfl (lv_at hl 0 rfl) ?_
            refine gx_getR E hw kF_TxR_15_2 (by decide) dX7_readNumber_60 (fun v7 _ => ?_)
            refine lv_iload hx hb dX7_readNumber_63 (lv_at hl 4 rfl) ?_
            refine gx_iald E hw dX7_readNumber_65 (fun v8 _ => ?_)
            refine lv_iadd hx hb dX7_readNumber_66 ?_
            refine lv_bipush (v := 48) hx hb dX7_readNumber_67 (by decide) ?_
            refine lv_isub hx hb dX7_readNumber_69 ?_
            refine lv_istore_n (lv' := [(3, .int (((10 * x3) + v8) - 48)), (0, .ref this), (1, .int a0), (2, .int a1), (4, .int x4)]) hx hb dX7_readNumber_70 rfl hl (by decide) rfl (fun ls hl => ?_)
            refine lv_iinc (v := x4 + 1) (lv' := [(4, .int (x4 + 1)), (3, .int (((10 * x3) + v8) - 48)), (0, .ref this), (1, .int a0), (2, .int a1)]) hx hb dX7_readNumber_71 hl (k := 4) rfl rfl (by decide) rfl (fun ls hl => ?_)
            refine lv_goto (tgt := 32) hx hb dX7_readNumber_74 (by decide) ?_
            exact ih (((10 * x3) + v8) - 48) (x4 + 1) M _ _ _ hw (lv_sub hl [2, 3, 4, 1, 0] rfl)
  have w25 : ∀ (y0 : Int32) (M : Mem) (H : Heap) (locs : List Loc) (ls : Array Slot), w_W G M r s H locs → lv_has ls 5 [(0, .ref this), (1, .int a0), (2, .int a1)] → W p l e rm_TxR_readNumber_2 s m args below meth c H locs 0 0 (PQ G below args s rm_TxR_readNumber_2.cells rm_TxR_readNumber_2.slots (fun z => (.inl (some (.int z.1)), z.2, r)) (f_TxR_readNumber_2_25 N this a0 a1 y0 M)) (F0 m 25 ls [.int y0]) := by
    intro y0 M H locs ls hw hl
    unfold f_TxR_readNumber_2_25
    refine lv_istore_n (lv' := [(3, .int y0), (0, .ref this), (1, .int a0), (2, .int a1)]) hx hb dX7_readNumber_25 rfl hl (by decide) rfl (fun ls hl => ?_)
    refine lv_aload_n hx hb dX7_readNumber_26 rfl (lv_at hl 1 rfl) ?_
    refine gx_getI E hw kF_TxR_31_2 (by decide) dX7_readNumber_27 (fun v4 _ => ?_)
    refine lv_istore (lv' := [(4, .int v4), (3, .int y0), (0, .ref this), (1, .int a0), (2, .int a1)]) hx hb dX7_readNumber_30 hl (by decide) rfl (fun ls hl => ?_)
    exact w32  N y0 v4 M _ _ _ hw (lv_sub hl [2, 3, 4, 1, 0] rfl)
  have w24 : ∀ (M : Mem) (H : Heap) (locs : List Loc) (ls : Array Slot), w_W G M r s H locs → lv_has ls 5 [(0, .ref this), (1, .int a0), (2, .int a1)] → W p l e rm_TxR_readNumber_2 s m args below meth c H locs 0 0 (PQ G below args s rm_TxR_readNumber_2.cells rm_TxR_readNumber_2.slots (fun z => (.inl (some (.int z.1)), z.2, r)) (f_TxR_readNumber_2_24 N this a0 a1 M)) (F0 m 24 ls []) := by
    intro M H locs ls hw hl
    unfold f_TxR_readNumber_2_24
    refine lv_iconst (v := (-1)) hx hb dX7_readNumber_24 (by decide) ?_
    exact w25  (-1) M _ _ _ hw (lv_sub hl [0, 1, 2] rfl)
  unfold f_TxR_readNumber_2
  refine lv_aload_n hx hb dX7_readNumber_0 rfl (lv_at hl 0 rfl) ?_
  refine W_bind fun _ hck => ?_
  refine W_bind fun z1 hz => ?_
  refine w_after (cells1 := 0) (slots1 := 0) (w_runU E kU_TxR_67_LR kc_X7_isNumberNext (t_TxR_isNumberNext_2 l hfl G this M r ((fun z => (.inl (some (.int z)), M, r)) z1) (by rw [hz]; rfl)) ⟨Nat.le_of_ble_eq_true rfl, Nat.le_of_ble_eq_true rfl⟩ hw (w_recv E hw (by decide) ⟨_, _, rfl⟩ (ck_ok hck)) rfl hl.1 rfl (Nat.le_of_ble_eq_true rfl) dX7_readNumber_1 ⟨Nat.le_of_ble_eq_true rfl, Nat.le_of_ble_eq_true rfl⟩) hw rfl (Nat.le_of_ble_eq_true rfl) (Nat.le_of_ble_eq_true rfl) (fun H locs hw => ?_)
  refine W.eq (g2 := F0 m 4 ls [.int z1]) rfl ?_
  have hw : w_W G M r s H locs := hw
  refine cx_if_eq (tgt := 24) E dX7_readNumber_4 (by decide) (fun _ => ?_) (fun _ => ?_)
  · exact w24  M _ _ _ hw (lv_sub hl [0, 1, 2] rfl)
  · refine lv_aload_n hx hb dX7_readNumber_7 rfl (lv_at hl 0 rfl) ?_
    refine gx_getI E hw kF_TxR_47_2 (by decide) dX7_readNumber_8 (fun v2 _ => ?_)
    refine lv_aload_n hx hb dX7_readNumber_11 rfl (lv_at hl 0 rfl) ?_
    refine gx_getI E hw kF_TxR_31_2 (by decide) dX7_readNumber_12 (fun v3 _ => ?_)
    refine lv_isub hx hb dX7_readNumber_15 ?_
    refine lv_iconst (v := 3) hx hb dX7_readNumber_16 (by decide) ?_
    refine cx_icmp_gt (tgt := 24) E dX7_readNumber_17 (by decide) (fun _ => ?_) (fun _ => ?_)
    · exact w24  M _ _ _ hw (lv_sub hl [0, 1, 2] rfl)
    · refine lv_iconst (v := 0) hx hb dX7_readNumber_20 (by decide) ?_
      refine lv_goto (tgt := 25) hx hb dX7_readNumber_21 (by decide) ?_
      exact w25  0 M _ _ _ hw (lv_sub hl [0, 1, 2] rfl)

