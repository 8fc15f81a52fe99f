set_option maxHeartbeats 4000000 in
set_option maxRecDepth 100000 in
theorem t_Law_init (l : Launch) (hfl : l.stackTraces = false) (G : wG) (this : Nat) (a0 : Int32) (M : Mem) (r : Rho) : Ctr l yX1_init (wWs yX1_init cX1_init 2 none) rm_Law_init rm_Law_init.cells rm_Law_init.slots G [.ref this, .int a0] M r ((f_Law_init this a0 M).map (fun z => (.inl none, z, r))) := by
  refine Ctr.ofF (own := "CheekTown$Law") (by decide +kernel) hfl rfl (Nat.le_of_ble_eq_true rfl) (fun p e s m args below meth c E hno hr hnm hw ls hl => ?_)
  obtain ⟨hx, hb, hts, hown, hml, hTT, -⟩ := id E
  have hl : lv_has ls 2 [(0, .ref this), (1, .int a0)] := hl
  obtain ⟨H, hH⟩ : ∃ H, H = s.heap := ⟨_, rfl⟩
  obtain ⟨locs, hlo⟩ : ∃ L : List Loc, L = [] := ⟨_, rfl⟩
  rw [← hH, ← hlo]
  rw [← hlo] at hw
  replace hw : w_W G M r s H locs := by rw [hH]; exact hw
  unfold f_Law_init
  refine lv_aload_n hx hb dX1_init_0 rfl (lv_at hl 0 rfl) ?_
  refine W.objInit hx hb hown (hts _ kO_Law) (hts _ kO_i) (hts _ kO_c) rfl (by rw [hml]; exact hl.1) rfl dX1_init_1 (Nat.le_of_ble_eq_true rfl) (Nat.le_of_ble_eq_true rfl) ?_
  refine W.eq (g2 := F0 m 4 ls []) rfl ?_
  refine lv_aload_n hx hb dX1_init_4 rfl (lv_at hl 0 rfl) ?_
  refine lv_bipush (v := 12) hx hb dX1_init_5 (by decide) ?_
  refine gx_newI E hw (Nat.le_of_ble_eq_true rfl) kAC_I (Nat.le_of_ble_eq_true rfl) (Nat.le_of_ble_eq_true rfl) dX1_init_7 (fun z1 H _ _ hw => ?_)
  refine W.widen (k := 1) (n := 12) (Nat.le_of_ble_eq_true rfl) (Nat.le_of_ble_eq_true rfl) ?_
  refine gx_putFR E hw kF_Law_11_1 kT_1_1 hnm ⟨_, _, _, rfl, rfl⟩ rfl rfl (by decide) dX1_init_9 (fun M2 H locs _ hw => ?_)
  refine lv_aload_n hx hb dX1_init_12 rfl (lv_at hl 0 rfl) ?_
  refine lv_bipush (v := 12) hx hb dX1_init_13 (by decide) ?_
  refine gx_newI E hw (Nat.le_of_ble_eq_true rfl) kAC_I (Nat.le_of_ble_eq_true rfl) (Nat.le_of_ble_eq_true rfl) dX1_init_15 (fun z3 H _ _ hw => ?_)
  refine W.widen (k := 2) (n := 24) (Nat.le_of_ble_eq_true rfl) (Nat.le_of_ble_eq_true rfl) ?_
  refine gx_putFR E hw kF_Law_15_1 kT_1_2 hnm ⟨_, _, _, rfl, rfl⟩ rfl rfl (by decide) dX1_init_17 (fun M4 H locs _ hw => ?_)
  refine lv_aload_n hx hb dX1_init_20 rfl (lv_at hl 0 rfl) ?_
  refine lv_bipush (v := 32) hx hb dX1_init_21 (by decide) ?_
  refine gx_newI E hw (Nat.le_of_ble_eq_true rfl) kAC_I (Nat.le_of_ble_eq_true rfl) (Nat.le_of_ble_eq_true rfl) dX1_init_23 (fun z5 H _ _ hw => ?_)
  refine W.widen (k := 3) (n := 56) (Nat.le_of_ble_eq_true rfl) (Nat.le_of_ble_eq_true rfl) ?_
  refine gx_putFR E hw kF_Law_18_1 kT_1_6 hnm ⟨_, _, _, rfl, rfl⟩ rfl rfl (by decide) dX1_init_25 (fun M6 H locs _ hw => ?_)
  refine lv_aload_n hx hb dX1_init_28 rfl (lv_at hl 0 rfl) ?_
  refine lv_iload_n hx hb dX1_init_29 rfl (lv_at hl 1 rfl) ?_
  refine lv_iconst (v := 0) hx hb dX1_init_30 (by decide) ?_
  refine W_bind fun z7 hz => ?_
  refine w_after (cells1 := 3) (slots1 := 56) (w_runS E kS_Law_21 kc_J9_max_7cf53 (t_Math_max l hfl G a0 0 M6 r ((fun z => (.inl (some (.int z)), M6, r)) z7) (by rw [hz]; rfl)) ⟨Nat.le_of_ble_eq_true rfl, Nat.le_of_ble_eq_true rfl⟩ hw rfl hl.1 rfl (Nat.le_of_ble_eq_true rfl) dX1_init_31 ⟨Nat.le_of_ble_eq_true rfl, Nat.le_of_ble_eq_true rfl⟩) hw rfl (Nat.le_of_ble_eq_true rfl) (Nat.le_of_ble_eq_true rfl) (fun H locs hw => ?_)
  refine W.eq (g2 := F0 m 34 ls [.int z7, .ref this]) rfl ?_
  have hw : w_W G M6 r s H locs := hw
  refine gx_newI E hw (Nat.le_of_ble_eq_true rfl) kAC_I (Nat.le_of_ble_eq_true rfl) (Nat.le_of_ble_eq_true rfl) dX1_init_34 (fun z8 H _ _ hw => ?_)
  refine W.widen (k := 4) (n := 456) (Nat.le_of_ble_eq_true rfl) (Nat.le_of_ble_eq_true rfl) ?_
  refine gx_putFR E hw kF_Law_27_1 kT_1_3 hnm ⟨_, _, _, rfl, rfl⟩ rfl rfl (by decide) dX1_init_36 (fun M9 H locs _ hw => ?_)
  refine lv_aload_n hx hb dX1_init_39 rfl (lv_at hl 0 rfl) ?_
  refine lv_iload_n hx hb dX1_init_40 rfl (lv_at hl 1 rfl) ?_
  refine lv_iconst (v := 0) hx hb dX1_init_41 (by decide) ?_
  refine W_bind fun z10 hz => ?_
  refine w_after (cells1 := 4) (slots1 := 456) (w_runS E kS_Law_21 kc_J9_max_7cf53 (t_Math_max l hfl G a0 0 M9 r ((fun z => (.inl (some (.int z)), M9, r)) z10) (by rw [hz]; rfl)) ⟨Nat.le_of_ble_eq_true rfl, Nat.le_of_ble_eq_true rfl⟩ hw rfl hl.1 rfl (Nat.le_of_ble_eq_true rfl) dX1_init_42 ⟨Nat.le_of_ble_eq_true rfl, Nat.le_of_ble_eq_true rfl⟩) hw rfl (Nat.le_of_ble_eq_true rfl) (Nat.le_of_ble_eq_true rfl) (fun H locs hw => ?_)
  refine W.eq (g2 := F0 m 45 ls [.int z10, .ref this]) rfl ?_
  have hw : w_W G M9 r s H locs := hw
  refine gx_newI E hw (Nat.le_of_ble_eq_true rfl) kAC_I (Nat.le_of_ble_eq_true rfl) (Nat.le_of_ble_eq_true rfl) dX1_init_45 (fun z11 H _ _ hw => ?_)
  refine W.widen (k := 5) (n := 856) (Nat.le_of_ble_eq_true rfl) (Nat.le_of_ble_eq_true rfl) ?_
  refine gx_putFR E hw kF_Law_30_1 kT_1_4 hnm ⟨_, _, _, rfl, rfl⟩ rfl rfl (by decide) dX1_init_47 (fun M12 H locs _ hw => ?_)
  exact p_vret E hw hr (Nat.le_of_ble_eq_true rfl) (Nat.le_of_ble_eq_true rfl) rfl dX1_init_50
set_option maxHeartbeats 4000000 in
set_option maxRecDepth 100000 in
theorem t_LR_init (l : Launch) (hfl : l.stackTraces = false) (G : wG) (this : Nat) (a0 : Nat) (a1 : Int32) (a2 : Nat) (M : Mem) (r : Rho) : Ctr l yX2_init (wWs yX2_init cX2_init 4 none) rm_LR_init rm_LR_init.cells rm_LR_init.slots G [.ref this, .ref a0, .int a1, .ref a2] M r ((f_LR_init this a0 a1 a2 M).map (fun z => (.inl none, z, r))) := by
  refine Ctr.ofF (own := "CheekTown$LawReade\x72") (by decide +kernel) hfl rfl (Nat.le_of_ble_eq_true rfl) (fun p e s m args below meth c E hno hr hnm hw ls hl => ?_)
  obtain ⟨hx, hb, hts, hown, hml, hTT, -⟩ := id E
  have hl : lv_has ls 4 [(0, .ref this), (1, .ref a0), (2, .int a1), (3, .ref a2)] := hl
  obtain ⟨H, hH⟩ : ∃ H, H = s.heap := ⟨_, rfl⟩
  obtain ⟨locs, hlo⟩ : ∃ L : List Loc, L = [] := ⟨_, rfl⟩
  rw [← hH, ← hlo]
  rw [← hlo] at hw
  replace hw : w_W G M r s H locs := by rw [hH]; exact hw
  unfold f_LR_init
  refine lv_aload_n hx hb dX2_init_0 rfl (lv_at hl 0 rfl) ?_
  refine lv_aload_n hx hb dX2_init_1 rfl (lv_at hl 1 rfl) ?_
  refine lv_iload_n hx hb dX2_init_2 rfl (lv_at hl 2 rfl) ?_
  refine W_bind fun z1 hz => ?_
  refine w_after (cells1 := 0) (slots1 := 0) (w_runI E kI_LR_1 kc_X7_init (t_TxR_init_2 l hfl G this a0 a1 M r ((fun z => (.inl none, z, r)) z1) (by rw [hz]; rfl)) ⟨Nat.le_of_ble_eq_true rfl, Nat.le_of_ble_eq_true rfl⟩ hw rfl hl.1 rfl (Nat.le_of_ble_eq_true rfl) dX2_init_3 ⟨Nat.le_of_ble_eq_true rfl, Nat.le_of_ble_eq_true rfl⟩) hw rfl (Nat.le_of_ble_eq_true rfl) (Nat.le_of_ble_eq_true rfl) (fun H locs hw => ?_)
  refine W.eq (g2 := F0 m 6 ls []) rfl ?_
  have hw : w_W G z1 r s H locs := hw
  refine lv_aload_n hx hb dX2_init_6 rfl (lv_at hl 0 rfl) ?_
  refine lv_aload_n hx hb dX2_init_7 rfl (lv_at hl 3 rfl) ?_
  refine gx_putFR E hw kF_LR_7_2 kT_2_6 hnm ⟨_, _, _, rfl, rfl⟩ rfl rfl (by decide) dX2_init_8 (fun M2 H locs _ hw => ?_)
  exact p_vret E hw hr (Nat.le_of_ble_eq_true rfl) (Nat.le_of_ble_eq_true rfl) rfl dX2_init_11
set_option maxHeartbeats 4000000 in
set_option maxRecDepth 100000 in
theorem t_CT_law (l : Launch) (hfl : l.stackTraces = false) (G : wG) (N : Nat) (this : Nat) (M : Mem) (r : Rho) : Ctr l yX11_law (wWs yX11_law cX11_law 5 (some .int)) rm_CT_law rm_CT_law.cells rm_CT_law.slots G [.ref this] M r ((f_CT_law N this M).map (fun z => (z.1.elim (fun v => .inl (some (.int v))) .inr, z.2, r))) := by
  refine Ctr.ofF (own := "CheekTown") (by decide +kernel) hfl rfl (Nat.le_of_ble_eq_true rfl) (fun p e s m args below meth c E hno hr hnm hw ls hl => ?_)
  obtain ⟨hx, hb, hts, hown, hml, hTT, -⟩ := id E
  have hl : lv_has ls 5 [(0, .ref this)] := hl
  obtain ⟨H, hH⟩ : ∃ H, H = s.heap := ⟨_, rfl⟩
  obtain ⟨locs, hlo⟩ : ∃ L : List Loc, L = [] := ⟨_, rfl⟩
  rw [← hH, ← hlo]
  rw [← hlo] at hw
  replace hw : w_W G M r s H locs := by rw [hH]; exact hw
  unfold f_CT_law
  refine lv_aload_n hx hb dX11_law_0 rfl (lv_at hl 0 rfl) ?_
  refine W_bind fun _ hck => ?_
  refine W_bind fun z1 hz => ?_
  refine w_after (cells1 := 0) (slots1 := 0) (w_runV E kV_CT_55 kc_X11_useTapeUp (t_CT_useTapeUp l hfl G this M r ((fun z => (.inl (some (.int z.1)), z.2, r)) z1) (by rw [hz]; rfl)) ⟨Nat.le_of_ble_eq_true rfl, Nat.le_of_ble_eq_true rfl⟩ hw (w_recv E hw (by decide) ⟨_, _, rfl⟩ (ck_ok hck)) rfl hl.1 rfl (Nat.le_of_ble_eq_true rfl) dX11_law_1 ⟨Nat.le_of_ble_eq_true rfl, Nat.le_of_ble_eq_true rfl⟩) hw rfl (Nat.le_of_ble_eq_true rfl) (Nat.le_of_ble_eq_true rfl) (fun H locs hw => ?_)
  refine W.eq (g2 := F0 m 4 ls [.int z1.1]) rfl ?_
  have hw : w_W G z1.2 r s H locs := hw
  refine lv_istore_n (lv' := [(1, .int z1.1), (0, .ref this)]) hx hb dX11_law_4 rfl hl (by decide) rfl (fun ls hl => ?_)
  refine gx_new E hw kN_CT_91 (Nat.le_of_ble_eq_true rfl) (Nat.le_of_ble_eq_true rfl) dX11_law_5 (fun H hw => ?_)
  refine W.widen (k := 1) (n := 7) (Nat.le_of_ble_eq_true rfl) (Nat.le_of_ble_eq_true rfl) ?_
  refine lv_dup hx hb dX11_law_8 rfl ?_
  refine lv_iload_n hx hb dX11_law_9 rfl (lv_at hl 0 rfl) ?_
  refine W_bind fun z2 hz => ?_
  refine w_after (cells1 := 6) (slots1 := 863) (w_runI E kI_CT_93 kc_X1_init (t_Law_init l hfl G (m_sz z1.2) z1.1 (m_new z1.2 (11, 0)) r ((fun z => (.inl none, z, r)) z2) (by rw [hz]; rfl)) ⟨Nat.le_of_ble_eq_true rfl, Nat.le_of_ble_eq_true rfl⟩ hw rfl hl.1 rfl (Nat.le_of_ble_eq_true rfl) dX11_law_10 ⟨Nat.le_of_ble_eq_true rfl, Nat.le_of_ble_eq_true rfl⟩) hw rfl (Nat.le_of_ble_eq_true rfl) (Nat.le_of_ble_eq_true rfl) (fun H locs hw => ?_)
  refine W.eq (g2 := F0 m 13 ls [.ref (m_sz z1.2)]) rfl ?_
  have hw : w_W G z2 r s H locs := hw
  refine lv_astore_n (lv' := [(2, .ref (m_sz z1.2)), (1, .int z1.1), (0, .ref this)]) hx hb dX11_law_13 rfl hl (by decide) rfl (fun ls hl => ?_)
  refine gx_new E hw kN_CT_95 (Nat.le_of_ble_eq_true rfl) (Nat.le_of_ble_eq_true rfl) dX11_law_14 (fun H hw => ?_)
  refine W.widen (k := 7) (n := 870) (Nat.le_of_ble_eq_true rfl) (Nat.le_of_ble_eq_true rfl) ?_
  refine lv_dup hx hb dX11_law_17 rfl ?_
  refine lv_aload_n hx hb dX11_law_18 rfl (lv_at hl 2 rfl) ?_
  refine gx_getR E hw kF_CT_9_10 (by decide) dX11_law_19 (fun v3 _ => ?_)
  refine lv_iload_n hx hb dX11_law_22 rfl (lv_at hl 1 rfl) ?_
  refine lv_aload_n hx hb dX11_law_23 rfl (lv_at hl 0 rfl) ?_
  refine W_bind fun z4 hz => ?_
  refine w_after (cells1 := 7) (slots1 := 870) (w_runI E kI_CT_97 kc_X2_init (t_LR_init l hfl G (m_sz z2) v3 z1.1 (m_sz z1.2) (m_new z2 (12, 0)) r ((fun z => (.inl none, z, r)) z4) (by rw [hz]; rfl)) ⟨Nat.le_of_ble_eq_true rfl, Nat.le_of_ble_eq_true rfl⟩ hw rfl hl.1 rfl (Nat.le_of_ble_eq_true rfl) dX11_law_24 ⟨Nat.le_of_ble_eq_true rfl, Nat.le_of_ble_eq_true rfl⟩) hw rfl (Nat.le_of_ble_eq_true rfl) (Nat.le_of_ble_eq_true rfl) (fun H locs hw => ?_)
  refine W.eq (g2 := F0 m 27 ls [.ref (m_sz z2)]) rfl ?_
  have hw : w_W G z4 r s H locs := hw
  refine lv_astore_n (lv' := [(3, .ref (m_sz z2)), (2, .ref (m_sz z1.2)), (1, .int z1.1), (0, .ref this)]) hx hb dX11_law_27 rfl hl (by decide) rfl (fun ls hl => ?_)
  refine lv_aload_n hx hb dX11_law_28 rfl (lv_at hl 0 rfl) ?_
  refine lv_bipush (v := 12) hx hb dX11_law_29 (by decide) ?_
  refine W_bind fun _ hck => ?_
  refine W_bind fun z5 hz => ?_
  refine w_after (cells1 := 7) (slots1 := 870) (w_runU E kU_CT_100_LR kc_X7_readLines (t_TxR_readLines_2 l hfl G N (m_sz z2) 12 z4 r ((fun z => (.inl (some (.int z.1)), z.2, r)) z5) (by rw [hz]; rfl)) ⟨Nat.le_of_ble_eq_true rfl, Nat.le_of_ble_eq_true rfl⟩ hw (w_recv E hw (by decide) ⟨_, _, rfl⟩ (ck_ok hck)) rfl hl.1 rfl (Nat.le_of_ble_eq_true rfl) dX11_law_31 ⟨Nat.le_of_ble_eq_true rfl, Nat.le_of_ble_eq_true rfl⟩) hw rfl (Nat.le_of_ble_eq_true rfl) (Nat.le_of_ble_eq_true rfl) (fun H locs hw => ?_)
  refine W.eq (g2 := F0 m 34 ls [.int z5.1]) rfl ?_
  have hw : w_W G z5.2 r s H locs := hw
  refine lv_istore (lv' := [(4, .int z5.1), (3, .ref (m_sz z2)), (2, .ref (m_sz z1.2)), (1, .int z1.1), (0, .ref this)]) hx hb dX11_law_34 hl (by decide) rfl (fun ls hl => ?_)
  refine lv_aload_n hx hb dX11_law_36 rfl (lv_at hl 4 rfl) ?_
  refine lv_aload_n hx hb dX11_law_37 rfl (lv_at hl 1 rfl) ?_
  refine gx_getI E hw kF_CT_101_2 (by decide) dX11_law_38 (fun v6 _ => ?_)
  refine gx_putI E hw kF_CT_13_10 kT_10_2 (by decide) dX11_law_41 (fun M7 H locs _ hw => ?_)
  refine lv_iload hx hb dX11_law_44 (lv_at hl 0 rfl) ?_
  refine cx_if_ne (tgt := 59) E dX11_law_46 (by decide) (fun _ => ?_) (fun _ => ?_)
  · refine lv_aload_n hx hb dX11_law_59 rfl (lv_at hl 4 rfl) ?_
    refine gx_getR E hw kF_CT_20_10 (by decide) dX11_law_60 (fun v8 _ => ?_)
    refine lv_aload_n hx hb dX11_law_63 rfl (lv_at hl 2 rfl) ?_
    refine gx_putR E hw kF_CT_104_7 kT_7_6 rfl rfl (by decide) dX11_law_64 (fun M9 H locs _ hw => ?_)
    refine lv_aload_n hx hb dX11_law_67 rfl (lv_at hl 4 rfl) ?_
    refine lv_iconst (v := 0) hx hb dX11_law_68 (by decide) ?_
    refine gx_putI E hw kF_CT_88_10 kT_10_7 (by decide) dX11_law_69 (fun M10 H locs _ hw => ?_)
    refine lv_aload_n hx hb dX11_law_72 rfl (lv_at hl 2 rfl) ?_
    refine gx_getI E hw kF_CT_108_1 (by decide) dX11_law_73 (fun v11 _ => ?_)
    exact p_iret E hw hr (Nat.le_of_ble_eq_true rfl) (Nat.le_of_ble_eq_true rfl) rfl dX11_law_76
  · exact gx_throw E hno hw kX_CT_102 hl.1 dX11_law_49 dX11_law_52 dX11_law_53 dX11_law_55 dX11_law_58 (Nat.le_of_ble_eq_true rfl) (Nat.le_of_ble_eq_true rfl) (Nat.le_of_ble_eq_true rfl) (Nat.le_of_ble_eq_true rfl) (Nat.le_of_ble_eq_true rfl) (Nat.le_of_ble_eq_true rfl) rfl
set_option maxHeartbeats 4000000 in
set_option maxRecDepth 100000 in
theorem t_CT_needGreeting (l : Launch) (hfl : l.stackTraces = false) (G : wG) (a0 : Int32) (M : Mem) (r : Rho) : Ctr l yX11_needGreeting (wWs yX11_needGreeting cX11_needGreeting 1 none) rm_CT_needGreeting rm_CT_needGreeting.cells rm_CT_needGreeting.slots G [.int a0] M r ((f_CT_needGreeting a0 M).map (fun z => (z.1.elim (fun _ => .inl none) .inr, z.2, r))) := by
  refine Ctr.ofF (own := "CheekTown") (by decide +kernel) hfl rfl (Nat.le_of_ble_eq_true rfl) (fun p e s m args below meth c E hno hr hnm hw ls hl => ?_)
  obtain ⟨hx, hb, hts, hown, hml, hTT, -⟩ := id E
  have hl : lv_has ls 1 [(0, .int a0)] := hl
  obtain ⟨H, hH⟩ : ∃ H, H = s.heap := ⟨_, rfl⟩
  obtain ⟨locs, hlo⟩ : ∃ L : List Loc, L = [] := ⟨_, rfl⟩
  rw [← hH, ← hlo]
  rw [← hlo] at hw
  replace hw : w_W G M r s H locs := by rw [hH]; exact hw
  have w10 : ∀ (M : Mem) (H : Heap) (locs : List Loc) (ls : Array Slot), w_W G M r s H locs → lv_has ls 1 [] → W p l e rm_CT_needGreeting s m args below meth c H locs 0 0 (PQ G below args s rm_CT_needGreeting.cells rm_CT_needGreeting.slots (fun z => (z.1.elim (fun _ => .inl none) .inr, z.2, r)) (f_CT_needGreeting_10 a0 M)) (F0 m 10 ls []) := by
    intro M H locs ls hw hl
    unfold f_CT_needGreeting_10
    exact gx_throw E hno hw kX_CT_113 hl.1 dX11_needGreeting_10 dX11_needGreeting_13 dX11_needGreeting_14 dX11_needGreeting_16 dX11_needGreeting_19 (Nat.le_of_ble_eq_true rfl) (Nat.le_of_ble_eq_true rfl) (Nat.le_of_ble_eq_true rfl) (Nat.le_of_ble_eq_true rfl) (Nat.le_of_ble_eq_true rfl) (Nat.le_of_ble_eq_true rfl) rfl
  unfold f_CT_needGreeting
  refine lv_iload_n hx hb dX11_needGreeting_0 rfl (lv_at hl 0 rfl) ?_
  refine cx_if_lt (tgt := 10) E dX11_needGreeting_1 (by decide) (fun _ => ?_) (fun _ => ?_)
  · exact w10  M _ _ _ hw (lv_sub hl [] rfl)
  · refine lv_iload_n hx hb dX11_needGreeting_4 rfl (lv_at hl 0 rfl) ?_
    refine lv_bipush (v := 32) hx hb dX11_needGreeting_5 (by decide) ?_
    refine cx_icmp_lt (tgt := 20) E dX11_needGreeting_7 (by decide) (fun _ => ?_) (fun _ => ?_)
    · exact p_vret E hw hr (Nat.le_of_ble_eq_true rfl) (Nat.le_of_ble_eq_true rfl) rfl dX11_needGreeting_20
    · exact w10  M _ _ _ hw (lv_sub hl [] rfl)
set_option maxHeartbeats 4000000 in
set_option maxRecDepth 100000 in
theorem t_CT_cost (l : Launch) (hfl : l.stackTraces = false) (G : wG) (this : Nat) (a0 : Int32) (a1 : Int32) (M : Mem) (r : Rho) : Ctr l yX11_cost (wWs yX11_cost cX11_cost 3 (some .int)) rm_CT_cost rm_CT_cost.cells rm_CT_cost.slots G [.ref this, .int a0, .int a1] M r ((f_CT_cost this a0 a1 M).map (fun z => (z.1.elim (fun v => .inl (some (.int v))) .inr, z.2, r))) := by
  refine Ctr.ofF (own := "CheekTown") (by decide +kernel) hfl rfl (Nat.le_of_ble_eq_true rfl) (fun p e s m args below meth c E hno hr hnm hw ls hl => ?_)
  obtain ⟨hx, hb, hts, hown, hml, hTT, -⟩ := id E
  have hl : lv_has ls 3 [(0, .ref this), (1, .int a0), (2, .int a1)] := hl
  obtain ⟨H, hH⟩ : ∃ H, H = s.heap := ⟨_, rfl⟩
  obtain ⟨locs, hlo⟩ : ∃ L : List Loc, L = [] := ⟨_, rfl⟩
  rw [← hH, ← hlo]
  rw [← hlo] at hw
  replace hw : w_W G M r s H locs := by rw [hH]; exact hw
  unfold f_CT_cost
  refine lv_iload_n hx hb dX11_cost_0 rfl (lv_at hl 1 rfl) ?_
  refine W_bind fun z1 hz => ?_
  refine w_afterS (cells1 := 1) (slots1 := 6) (vv := (fun _ => none)) (w_runS E kS_CT_149 kc_X11_needGreeting (t_CT_needGreeting l hfl G a0 M r ((fun z => (z.1.elim (fun _ => .inl none) .inr, z.2, r)) z1) (by rw [hz]; rfl)) ⟨Nat.le_of_ble_eq_true rfl, Nat.le_of_ble_eq_true rfl⟩ hw rfl hl.1 rfl (Nat.le_of_ble_eq_true rfl) dX11_cost_1 ⟨Nat.le_of_ble_eq_true rfl, Nat.le_of_ble_eq_true rfl⟩) hw rfl (Nat.le_of_ble_eq_true rfl) (Nat.le_of_ble_eq_true rfl) (fun v2 H locs _ hw => ?_) (fun E9 H locs q ce _ hw hce hcv hcl => w_out E hno hw hce hcv hcl (Nat.le_of_ble_eq_true rfl) (Nat.le_of_ble_eq_true rfl) rfl)
  refine W.eq (g2 := F0 m 4 ls []) rfl ?_
  have hw : w_W G z1.2 r s H locs := hw
  refine lv_iload_n hx hb dX11_cost_4 rfl (lv_at hl 2 rfl) ?_
  refine W_bind fun z3 hz => ?_
  refine w_afterS (cells1 := 2) (slots1 := 12) (vv := (fun _ => none)) (w_runS E kS_CT_149 kc_X11_needGreeting (t_CT_needGreeting l hfl G a1 z1.2 r ((fun z => (z.1.elim (fun _ => .inl none) .inr, z.2, r)) z3) (by rw [hz]; rfl)) ⟨Nat.le_of_ble_eq_true rfl, Nat.le_of_ble_eq_true rfl⟩ hw rfl hl.1 rfl (Nat.le_of_ble_eq_true rfl) dX11_cost_5 ⟨Nat.le_of_ble_eq_true rfl, Nat.le_of_ble_eq_true rfl⟩) hw rfl (Nat.le_of_ble_eq_true rfl) (Nat.le_of_ble_eq_true rfl) (fun v4 H locs _ hw => ?_) (fun E9 H locs q ce _ hw hce hcv hcl => w_out E hno hw hce hcv hcl (Nat.le_of_ble_eq_true rfl) (Nat.le_of_ble_eq_true rfl) rfl)
  refine W.eq (g2 := F0 m 8 ls []) rfl ?_
  have hw : w_W G z3.2 r s H locs := hw
  refine lv_aload_n hx hb dX11_cost_8 rfl (lv_at hl 0 rfl) ?_
  refine gx_getR E hw kF_CT_20_10 (by decide) dX11_cost_9 (fun v5 _ => ?_)
  refine gx_getR E hw kF_CT_116_7 (by decide) dX11_cost_12 (fun v6 _ => ?_)
  refine gx_getR E hw kF_CT_152_0 (by decide) dX11_cost_15 (fun v7 _ => ?_)
  refine lv_iload_n hx hb dX11_cost_18 rfl (lv_at hl 1 rfl) ?_
  refine lv_iload_n hx hb dX11_cost_19 rfl (lv_at hl 2 rfl) ?_
  refine W_bind fun _ hck => ?_
  refine W_bind fun z8 hz => ?_
  refine w_after (cells1 := 2) (slots1 := 12) (w_runV E kV_CT_156 kc_X4_costOf (t_Manners_costOf l hfl G v7 a0 a1 z3.2 r ((fun z => (.inl (some (.int z)), z3.2, r)) z8) (by rw [hz]; rfl)) ⟨Nat.le_of_ble_eq_true rfl, Nat.le_of_ble_eq_true rfl⟩ hw (w_recv E hw (by decide) ⟨_, _, rfl⟩ (ck_ok hck)) rfl hl.1 rfl (Nat.le_of_ble_eq_true rfl) dX11_cost_20 ⟨Nat.le_of_ble_eq_true rfl, Nat.le_of_ble_eq_true rfl⟩) hw rfl (Nat.le_of_ble_eq_true rfl) (Nat.le_of_ble_eq_true rfl) (fun H locs hw => ?_)
  refine W.eq (g2 := F0 m 23 ls [.int z8]) rfl ?_
  have hw : w_W G z3.2 r s H locs := hw
  exact p_iret E hw hr (Nat.le_of_ble_eq_true rfl) (Nat.le_of_ble_eq_true rfl) rfl dX11_cost_23
set_option maxHeartbeats 4000000 in
set_option maxRecDepth 100000 in
theorem t_CT_needLand (l : Launch) (hfl : l.stackTraces = false) (G : wG) (this : Nat) (a0 : Int32) (M : Mem) (r : Rho) : Ctr l yX11_needLand (wWs yX11_needLand cX11_needLand 2 none) rm_CT_needLand rm_CT_needLand.cells rm_CT_needLand.slots G [.ref this, .int a0] M r ((f_CT_needLand this a0 M).map (fun z => (z.1.elim (fun _ => .inl none) .inr, z.2, r))) := by
  refine Ctr.ofF (own := "CheekTown") (by decide +kernel) hfl rfl (Nat.le_of_ble_eq_true rfl) (fun p e s m args below meth c E hno hr hnm hw ls hl => ?_)
  obtain ⟨hx, hb, hts, hown, hml, hTT, -⟩ := id E
  have hl : lv_has ls 2 [(0, .ref this), (1, .int a0)] := hl
  obtain ⟨H, hH⟩ : ∃ H, H = s.heap := ⟨_, rfl⟩
  obtain ⟨locs, hlo⟩ : ∃ L : List Loc, L = [] := ⟨_, rfl⟩
  rw [← hH, ← hlo]
  rw [← hlo] at hw
  replace hw : w_W G M r s H locs := by rw [hH]; exact hw
  have w18 : ∀ (M : Mem) (H : Heap) (locs : List Loc) (ls : Array Slot), w_W G M r s H locs → lv_has ls 2 [] → W p l e rm_CT_needLand s m args below meth c H locs 0 0 (PQ G below args s rm_CT_needLand.cells rm_CT_needLand.slots (fun z => (z.1.elim (fun _ => .inl none) .inr, z.2, r)) (f_CT_needLand_18 this a0 M)) (F0 m 18 ls []) := by
    intro M H locs ls hw hl
    unfold f_CT_needLand_18
    exact gx_throw E hno hw kX_CT_125 hl.1 dX11_needLand_18 dX11_needLand_21 dX11_needLand_22 dX11_needLand_24 dX11_needLand_27 (Nat.le_of_ble_eq_true rfl) (Nat.le_of_ble_eq_true rfl) (Nat.le_of_ble_eq_true rfl) (Nat.le_of_ble_eq_true rfl) (Nat.le_of_ble_eq_true rfl) (Nat.le_of_ble_eq_true rfl) rfl
  unfold f_CT_needLand
  refine lv_iload_n hx hb dX11_needLand_0 rfl (lv_at hl 1 rfl) ?_
  refine cx_if_lt (tgt := 18) E dX11_needLand_1 (by decide) (fun _ => ?_) (fun _ => ?_)
  · exact w18  M _ _ _ hw (lv_sub hl [] rfl)
  · refine lv_iload_n hx hb dX11_needLand_4 rfl (lv_at hl 1 rfl) ?_
    refine lv_aload_n hx hb dX11_needLand_5 rfl (lv_at hl 0 rfl) ?_
    refine gx_getR E hw kF_CT_20_10 (by decide) dX11_needLand_6 (fun v1 _ => ?_)
    refine gx_getR E hw kF_CT_116_7 (by decide) dX11_needLand_9 (fun v2 _ => ?_)
    refine gx_getI E hw kF_CT_120_0 (by decide) dX11_needLand_12 (fun v3 _ => ?_)
    refine cx_icmp_lt (tgt := 28) E dX11_needLand_15 (by decide) (fun _ => ?_) (fun _ => ?_)
    · exact p_vret E hw hr (Nat.le_of_ble_eq_true rfl) (Nat.le_of_ble_eq_true rfl) rfl dX11_needLand_28
    · exact w18  M _ _ _ hw (lv_sub hl [] rfl)
set_option maxHeartbeats 4000000 in
set_option maxRecDepth 100000 in
theorem t_Lands_weightOf (l : Launch) (hfl : l.stackTraces = false) (G : wG) (N : Nat) (this : Nat) (a0 : Int32) (a1 : Int32) (M : Mem) (r : Rho) : Ctr l yX0_weightOf (wWs yX0_weightOf cX0_weightOf 5 (some .int)) rm_Lands_weightOf rm_Lands_weightOf.cells rm_Lands_weightOf.slots G [.ref this, .int a0, .int a1] M r ((f_Lands_weightOf N this a0 a1 M).map (fun z => (.inl (some (.int z)), M, r))) := by
  refine Ctr.ofF (own := "CheekTown$Lands") (by decide +kernel) hfl rfl (Nat.le_of_ble_eq_true rfl) (fun p e s m args below meth c E hno hr hnm hw ls hl => ?_)
  obtain ⟨hx, hb, hts, hown, hml, hTT, -⟩ := id E
  have hl : lv_has ls 5 [(0, .ref this), (1, .int a0), (2, .int a1)] := hl
  obtain ⟨H, hH⟩ : ∃ H, H = s.heap := ⟨_, rfl⟩
  obtain ⟨locs, hlo⟩ : ∃ L : List Loc, L = [] := ⟨_, rfl⟩
  rw [← hH, ← hlo]
  rw [← hlo] at hw
  replace hw : w_W G M r s H locs := by rw [hH]; exact hw
  have w5 : ∀ (n : Nat) (x3 : Int32) (x4 : Int32) (H : Heap) (locs : List Loc) (ls : Array Slot), w_W G M r s H locs → lv_has ls 5 [(0, .ref this), (1, .int a0), (2, .int a1), (3, .int x3), (4, .int x4)] → W p l e rm_Lands_weightOf s m args below meth c H locs 0 0 (PQ G below args s rm_Lands_weightOf.cells rm_Lands_weightOf.slots (fun z => (.inl (some (.int z)), M, r)) (f_Lands_weightOf_5 N this a0 a1 M n x3 x4)) (F0 m 5 ls []) := by
    intro n
    induction n with
    | zero => intros; exact W_none
    | succ n ih =>
      intro x3 x4 H locs ls hw hl
      rw [f_Lands_weightOf_5]
      refine lv_iload hx hb dX0_weightOf_5 (lv_at hl 4 rfl) ?_
      refine lv_aload_n hx hb dX0_weightOf_7 rfl (lv_at hl 0 rfl) ?_
      refine gx_getI E hw kF_Lands_36_0 (by decide) dX0_weightOf_8 (fun v1 _ => ?_)
      refine cx_icmp_ge (tgt := 59) E dX0_weightOf_11 (by decide) (fun _ => ?_) (fun _ => ?_)
      · refine lv_iload_n hx hb dX0_weightOf_59 rfl (lv_at hl 3 rfl) ?_
        exact p_iret E hw hr (Nat.le_of_ble_eq_true rfl) (Nat.le_of_ble_eq_true rfl) rfl dX0_weightOf_60
      · refine lv_iload hx hb dX0_weightOf_14 (lv_at hl 4 rfl) ?_
        refine lv_bipush (v := 24) hx hb dX0_weightOf_16 (by decide) ?_
        refine cx_icmp_ge (tgt := 59) E dX0_weightOf_18 (by decide) (fun _ => ?_) (fun _ => ?_)
        · refine lv_iload_n hx hb dX0_weightOf_59 rfl (lv_at hl 3 rfl) ?_
          exact p_iret E hw hr (Nat.le_of_ble_eq_true rfl) (Nat.le_of_ble_eq_true rfl) rfl dX0_weightOf_60
        · refine lv_aload_n hx hb dX0_weightOf_21 rfl (lv_at hl 0 rfl) ?_
          refine gx_getR E hw kF_Lands_18_0 (by decide) dX0_weightOf_22 (fun v2 _ => ?_)
          refine lv_iload hx hb dX0_weightOf_25 (lv_at hl 4 rfl) ?_
          refine gx_iald E hw dX0_weightOf_27 (fun v3 _ => ?_)
          refine lv_iload_n hx hb dX0_weightOf_28 rfl (lv_at hl 1 rfl) ?_
          refine cx_icmp_ne (tgt := 53) E dX0_weightOf_29 (by decide) (fun _ => ?_) (fun _ => ?_)
          · refine lv_iinc (v := x4 + 1) (lv' := [(4, .int (x4 + 1)), (0, .ref this), (1, .int a0), (2, .int a1), (3, .int x3)]) hx hb dX0_weightOf_53 hl (k := 4) rfl rfl (by decide) rfl (fun ls hl => ?_)
            refine lv_goto (tgt := 5) hx hb dX0_weightOf_56 (by decide) ?_
            exact ih x3 (x4 + 1) _ _ _ hw (lv_sub hl [1, 2, 3, 4, 0] rfl)
          · refine lv_aload_n hx hb dX0_weightOf_32 rfl (lv_at hl 0 rfl) ?_
            refine gx_getR E hw kF_Lands_22_0 (by decide) dX0_weightOf_33 (fun v4 _ => ?_)
            refine lv_iload hx hb dX0_weightOf_36 (lv_at hl 4 rfl) ?_
            refine gx_iald E hw dX0_weightOf_38 (fun v5 _ => ?_)
            refine lv_iload_n hx hb dX0_weightOf_39 rfl (lv_at hl 2 rfl) ?_
            refine cx_icmp_ne (tgt := 53) E dX0_weightOf_40 (by decide) (fun _ => ?_) (fun _ => ?_)
            · refine lv_iinc (v := x4 + 1) (lv' := [(4, .int (x4 + 1)), (0, .ref this), (1, .int a0), (2, .int a1), (3, .int x3)]) hx hb dX0_weightOf_53 hl (k := 4) rfl rfl (by decide) rfl (fun ls hl => ?_)
              refine lv_goto (tgt := 5) hx hb dX0_weightOf_56 (by decide) ?_
              exact ih x3 (x4 + 1) _ _ _ hw (lv_sub hl [1, 2, 3, 4, 0] rfl)
            · refine lv_iload_n hx hb dX0_weightOf_43 rfl (lv_at hl 3 rfl) ?_
              refine lv_aload_n hx hb dX0_weightOf_44 rfl (lv_at hl 0 rfl) ?_
              refine gx_getR E hw kF_Lands_25_0 (by decide) dX0_weightOf_45 (fun v6 _ => ?_)
              refine lv_iload hx hb dX0_weightOf_48 (lv_at hl 4 rfl) ?_
              refine gx_iald E hw dX0_weightOf_50 (fun v7 _ => ?_)
              refine lv_iadd hx hb dX0_weightOf_51 ?_
              refine lv_istore_n (lv' := [(3, .int (x3 + v7)), (0, .ref this), (1, .int a0), (2, .int a1), (4, .int x4)]) hx hb dX0_weightOf_52 rfl hl (by decide) rfl (fun ls hl => ?_)
              refine lv_iinc (v := x4 + 1) (lv' := [(4, .int (x4 + 1)), (3, .int (x3 + v7)), (0, .ref this), (1, .int a0), (2, .int a1)]) hx hb dX0_weightOf_53 hl (k := 4) rfl rfl (by decide) rfl (fun ls hl => ?_)
              refine lv_goto (tgt := 5) hx hb dX0_weightOf_56 (by decide) ?_
              exact ih (x3 + v7) (x4 + 1) _ _ _ hw (lv_sub hl [2, 3, 4, 1, 0] rfl)
  unfold f_Lands_weightOf
  refine lv_iconst (v := 0) hx hb dX0_weightOf_0 (by decide) ?_
  refine lv_istore_n (lv' := [(3, .int 0), (0, .ref this), (1, .int a0), (2, .int a1)]) hx hb dX0_weightOf_1 rfl hl (by decide) rfl (fun ls hl => ?_)
  refine lv_iconst (v := 0) hx hb dX0_weightOf_2 (by decide) ?_
  refine lv_istore (lv' := [(4, .int 0), (3, .int 0), (0, .ref this), (1, .int a0), (2, .int a1)]) hx hb dX0_weightOf_3 hl (by decide) rfl (fun ls hl => ?_)
  exact w5  N 0 0 _ _ _ hw (lv_sub hl [2, 3, 4, 1, 0] rfl)
set_option maxHeartbeats 4000000 in
set_option maxRecDepth 100000 in
theorem t_CT_habit (l : Launch) (hfl : l.stackTraces = false) (G : wG) (N : Nat) (this : Nat) (a0 : Int32) (a1 : Int32) (M : Mem) (r : Rho) : Ctr l yX11_habit (wWs yX11_habit cX11_habit 3 (some .int)) rm_CT_habit rm_CT_habit.cells rm_CT_habit.slots G [.ref this, .int a0, .int a1] M r ((f_CT_habit N this a0 a1 M).map (fun z => (z.1.elim (fun v => .inl (some (.int v))) .inr, z.2, r))) := by
  refine Ctr.ofF (own := "CheekTown") (by decide +kernel) hfl rfl (Nat.le_of_ble_eq_true rfl) (fun p e s m args below meth c E hno hr hnm hw ls hl => ?_)
  obtain ⟨hx, hb, hts, hown, hml, hTT, -⟩ := id E
  have hl : lv_has ls 3 [(0, .ref this), (1, .int a0), (2, .int a1)] := hl
  obtain ⟨H, hH⟩ : ∃ H, H = s.heap := ⟨_, rfl⟩
  obtain ⟨locs, hlo⟩ : ∃ L : List Loc, L = [] := ⟨_, rfl⟩
  rw [← hH, ← hlo]
  rw [← hlo] at hw
  replace hw : w_W G M r s H locs := by rw [hH]; exact hw
  unfold f_CT_habit
  refine lv_aload_n hx hb dX11_habit_0 rfl (lv_at hl 0 rfl) ?_
  refine lv_iload_n hx hb dX11_habit_1 rfl (lv_at hl 1 rfl) ?_
  refine W_bind fun _ hck => ?_
  refine W_bind fun z1 hz => ?_
  refine w_afterS (cells1 := 1) (slots1 := 6) (vv := (fun _ => none)) (w_runV E kV_CT_162 kc_X11_needLand (t_CT_needLand l hfl G this a0 M r ((fun z => (z.1.elim (fun _ => .inl none) .inr, z.2, r)) z1) (by rw [hz]; rfl)) ⟨Nat.le_of_ble_eq_true rfl, Nat.le_of_ble_eq_true rfl⟩ hw (w_recv E hw (by decide) ⟨_, _, rfl⟩ (ck_ok hck)) rfl hl.1 rfl (Nat.le_of_ble_eq_true rfl) dX11_habit_2 ⟨Nat.le_of_ble_eq_true rfl, Nat.le_of_ble_eq_true rfl⟩) hw rfl (Nat.le_of_ble_eq_true rfl) (Nat.le_of_ble_eq_true rfl) (fun v2 H locs _ hw => ?_) (fun E9 H locs q ce _ hw hce hcv hcl => w_out E hno hw hce hcv hcl (Nat.le_of_ble_eq_true rfl) (Nat.le_of_ble_eq_true rfl) rfl)
  refine W.eq (g2 := F0 m 5 ls []) rfl ?_
  have hw : w_W G z1.2 r s H locs := hw
  refine lv_iload_n hx hb dX11_habit_5 rfl (lv_at hl 2 rfl) ?_
  refine W_bind fun z3 hz => ?_
  refine w_afterS (cells1 := 2) (slots1 := 12) (vv := (fun _ => none)) (w_runS E kS_CT_149 kc_X11_needGreeting (t_CT_needGreeting l hfl G a1 z1.2 r ((fun z => (z.1.elim (fun _ => .inl none) .inr, z.2, r)) z3) (by rw [hz]; rfl)) ⟨Nat.le_of_ble_eq_true rfl, Nat.le_of_ble_eq_true rfl⟩ hw rfl hl.1 rfl (Nat.le_of_ble_eq_true rfl) dX11_habit_6 ⟨Nat.le_of_ble_eq_true rfl, Nat.le_of_ble_eq_true rfl⟩) hw rfl (Nat.le_of_ble_eq_true rfl) (Nat.le_of_ble_eq_true rfl) (fun v4 H locs _ hw => ?_) (fun E9 H locs q ce _ hw hce hcv hcl => w_out E hno hw hce hcv hcl (Nat.le_of_ble_eq_true rfl) (Nat.le_of_ble_eq_true rfl) rfl)
  refine W.eq (g2 := F0 m 9 ls []) rfl ?_
  have hw : w_W G z3.2 r s H locs := hw
  refine lv_aload_n hx hb dX11_habit_9 rfl (lv_at hl 0 rfl) ?_
  refine gx_getR E hw kF_CT_20_10 (by decide) dX11_habit_10 (fun v5 _ => ?_)
  refine gx_getR E hw kF_CT_116_7 (by decide) dX11_habit_13 (fun v6 _ => ?_)
  refine lv_iload_n hx hb dX11_habit_16 rfl (lv_at hl 1 rfl) ?_
  refine lv_iload_n hx hb dX11_habit_17 rfl (lv_at hl 2 rfl) ?_
  refine W_bind fun _ hck => ?_
  refine W_bind fun z7 hz => ?_
  refine w_after (cells1 := 2) (slots1 := 12) (w_runV E kV_CT_165 kc_X0_weightOf (t_Lands_weightOf l hfl G N v6 a0 a1 z3.2 r ((fun z => (.inl (some (.int z)), z3.2, r)) z7) (by rw [hz]; rfl)) ⟨Nat.le_of_ble_eq_true rfl, Nat.le_of_ble_eq_true rfl⟩ hw (w_recv E hw (by decide) ⟨_, _, rfl⟩ (ck_ok hck)) rfl hl.1 rfl (Nat.le_of_ble_eq_true rfl) dX11_habit_18 ⟨Nat.le_of_ble_eq_true rfl, Nat.le_of_ble_eq_true rfl⟩) hw rfl (Nat.le_of_ble_eq_true rfl) (Nat.le_of_ble_eq_true rfl) (fun H locs hw => ?_)
  refine W.eq (g2 := F0 m 21 ls [.int z7]) rfl ?_
  have hw : w_W G z3.2 r s H locs := hw
  exact p_iret E hw hr (Nat.le_of_ble_eq_true rfl) (Nat.le_of_ble_eq_true rfl) rfl dX11_habit_21
set_option maxHeartbeats 4000000 in
set_option maxRecDepth 100000 in
theorem t_CT_needPerson (l : Launch) (hfl : l.stackTraces = false) (G : wG) (this : Nat) (a0 : Int32) (M : Mem) (r : Rho) : Ctr l yX11_needPerson (wWs yX11_needPerson cX11_needPerson 2 none) rm_CT_needPerson rm_CT_needPerson.cells rm_CT_needPerson.slots G [.ref this, .int a0] M r ((f_CT_needPerson this a0 M).map (fun z => (z.1.elim (fun _ => .inl none) .inr, z.2, r))) := by
  refine Ctr.ofF (own := "CheekTown") (by decide +kernel) hfl rfl (Nat.le_of_ble_eq_true rfl) (fun p e s m args below meth c E hno hr hnm hw ls hl => ?_)
  obtain ⟨hx, hb, hts, hown, hml, hTT, -⟩ := id E
  have hl : lv_has ls 2 [(0, .ref this), (1, .int a0)] := hl
  obtain ⟨H, hH⟩ : ∃ H, H = s.heap := ⟨_, rfl⟩
  obtain ⟨locs, hlo⟩ : ∃ L : List Loc, L = [] := ⟨_, rfl⟩
  rw [← hH, ← hlo]
  rw [← hlo] at hw
  replace hw : w_W G M r s H locs := by rw [hH]; exact hw
  have w15 : ∀ (M : Mem) (H : Heap) (locs : List Loc) (ls : Array Slot), w_W G M r s H locs → lv_has ls 2 [] → W p l e rm_CT_needPerson s m args below meth c H locs 0 0 (PQ G below args s rm_CT_needPerson.cells rm_CT_needPerson.slots (fun z => (z.1.elim (fun _ => .inl none) .inr, z.2, r)) (f_CT_needPerson_15 this a0 M)) (F0 m 15 ls []) := by
    intro M H locs ls hw hl
    unfold f_CT_needPerson_15
    exact gx_throw E hno hw kX_CT_130 hl.1 dX11_needPerson_15 dX11_needPerson_18 dX11_needPerson_19 dX11_needPerson_21 dX11_needPerson_24 (Nat.le_of_ble_eq_true rfl) (Nat.le_of_ble_eq_true rfl) (Nat.le_of_ble_eq_true rfl) (Nat.le_of_ble_eq_true rfl) (Nat.le_of_ble_eq_true rfl) (Nat.le_of_ble_eq_true rfl) rfl
  unfold f_CT_needPerson
  refine lv_iload_n hx hb dX11_needPerson_0 rfl (lv_at hl 1 rfl) ?_
  refine cx_if_lt (tgt := 15) E dX11_needPerson_1 (by decide) (fun _ => ?_) (fun _ => ?_)
  · exact w15  M _ _ _ hw (lv_sub hl [] rfl)
  · refine lv_iload_n hx hb dX11_needPerson_4 rfl (lv_at hl 1 rfl) ?_
    refine lv_aload_n hx hb dX11_needPerson_5 rfl (lv_at hl 0 rfl) ?_
    refine gx_getR E hw kF_CT_20_10 (by decide) dX11_needPerson_6 (fun v1 _ => ?_)
    refine gx_getI E hw kF_CT_127_7 (by decide) dX11_needPerson_9 (fun v2 _ => ?_)
    refine cx_icmp_lt (tgt := 25) E dX11_needPerson_12 (by decide) (fun _ => ?_) (fun _ => ?_)
    · exact p_vret E hw hr (Nat.le_of_ble_eq_true rfl) (Nat.le_of_ble_eq_true rfl) rfl dX11_needPerson_25
    · exact w15  M _ _ _ hw (lv_sub hl [] rfl)
set_option maxHeartbeats 4000000 in
set_option maxRecDepth 100000 in
theorem t_CT_needWhat (l : Launch) (hfl : l.stackTraces = false) (G : wG) (a0 : Int32) (a1 : Int32) (M : Mem) (r : Rho) : Ctr l yX11_needWhat (wWs yX11_needWhat cX11_needWhat 2 none) rm_CT_needWhat rm_CT_needWhat.cells rm_CT_needWhat.slots G [.int a0, .int a1] M r ((f_CT_needWhat a0 a1 M).map (fun z => (z.1.elim (fun _ => .inl none) .inr, z.2, r))) := by
  refine Ctr.ofF (own := "CheekTown") (by decide +kernel) hfl rfl (Nat.le_of_ble_eq_true rfl) (fun p e s m args below meth c E hno hr hnm hw ls hl => ?_)
  obtain ⟨hx, hb, hts, hown, hml, hTT, -⟩ := id E
  have hl : lv_has ls 2 [(0, .int a0), (1, .int a1)] := hl
  obtain ⟨H, hH⟩ : ∃ H, H = s.heap := ⟨_, rfl⟩
  obtain ⟨locs, hlo⟩ : ∃ L : List Loc, L = [] := ⟨_, rfl⟩
  rw [← hH, ← hlo]
  rw [← hlo] at hw
  replace hw : w_W G M r s H locs := by rw [hH]; exact hw
  have w9 : ∀ (M : Mem) (H : Heap) (locs : List Loc) (ls : Array Slot), w_W G M r s H locs → lv_has ls 2 [] → W p l e rm_CT_needWhat s m args below meth c H locs 0 0 (PQ G below args s rm_CT_needWhat.cells rm_CT_needWhat.slots (fun z => (z.1.elim (fun _ => .inl none) .inr, z.2, r)) (f_CT_needWhat_9 a0 a1 M)) (F0 m 9 ls []) := by
    intro M H locs ls hw hl
    unfold f_CT_needWhat_9
    exact gx_throwN E hno hw kX_CT_146 hl.1 dX11_needWhat_9 dX11_needWhat_12 dX11_needWhat_13 dX11_needWhat_15 dX11_needWhat_18 (Nat.le_of_ble_eq_true rfl) (Nat.le_of_ble_eq_true rfl) (Nat.le_of_ble_eq_true rfl) (Nat.le_of_ble_eq_true rfl) (Nat.le_of_ble_eq_true rfl) (Nat.le_of_ble_eq_true rfl) rfl
  unfold f_CT_needWhat
  refine lv_iload_n hx hb dX11_needWhat_0 rfl (lv_at hl 0 rfl) ?_
  refine cx_if_lt (tgt := 9) E dX11_needWhat_1 (by decide) (fun _ => ?_) (fun _ => ?_)
  · exact w9  M _ _ _ hw (lv_sub hl [] rfl)
  · refine lv_iload_n hx hb dX11_needWhat_4 rfl (lv_at hl 0 rfl) ?_
    refine lv_iload_n hx hb dX11_needWhat_5 rfl (lv_at hl 1 rfl) ?_
    refine cx_icmp_le (tgt := 19) E dX11_needWhat_6 (by decide) (fun _ => ?_) (fun _ => ?_)
    · exact p_vret E hw hr (Nat.le_of_ble_eq_true rfl) (Nat.le_of_ble_eq_true rfl) rfl dX11_needWhat_19
    · exact w9  M _ _ _ hw (lv_sub hl [] rfl)
set_option maxHeartbeats 4000000 in
set_option maxRecDepth 100000 in
theorem t_Person_meetings (l : Launch) (hfl : l.stackTraces = false) (G : wG) (N : Nat) (this : Nat) (M : Mem) (r : Rho) : Ctr l yX5_meetings (wWs yX5_meetings cX5_meetings 3 (some .int)) rm_Person_meetings rm_Person_meetings.cells rm_Person_meetings.slots G [.ref this] M r ((f_Person_meetings N this M).map (fun z => (.inl (some (.int z)), M, r))) := by
  refine Ctr.ofF (own := "CheekTown$Person") (by decide +kernel) hfl rfl (Nat.le_of_ble_eq_true rfl) (fun p e s m args below meth c E hno hr hnm hw ls hl => ?_)
  obtain ⟨hx, hb, hts, hown, hml, hTT, -⟩ := id E
  have hl : lv_has ls 3 [(0, .ref this)] := hl
  obtain ⟨H, hH⟩ : ∃ H, H = s.heap := ⟨_, rfl⟩
  obtain ⟨locs, hlo⟩ : ∃ L : List Loc, L = [] := ⟨_, rfl⟩
  rw [← hH, ← hlo]
  rw [← hlo] at hw
  replace hw : w_W G M r s H locs := by rw [hH]; exact hw
  have w4 : ∀ (n : Nat) (x1 : Int32) (x2 : Int32) (H : Heap) (locs : List Loc) (ls : Array Slot), w_W G M r s H locs → lv_has ls 3 [(0, .ref this), (1, .int x1), (2, .int x2)] → W p l e rm_Person_meetings s m args below meth c H locs 0 0 (PQ G below args s rm_Person_meetings.cells rm_Person_meetings.slots (fun z => (.inl (some (.int z)), M, r)) (f_Person_meetings_4 N this M n x1 x2)) (F0 m 4 ls []) := by
    intro n
    induction n with
    | zero => intros; exact W_none
    | succ n ih =>
      intro x1 x2 H locs ls hw hl
      rw [f_Person_meetings_4]
      refine lv_iload_n hx hb dX5_meetings_4 rfl (lv_at hl 2 rfl) ?_
      refine lv_bipush (v := 10) hx hb dX5_meetings_5 (by decide) ?_
      refine cx_icmp_ge (tgt := 25) E dX5_meetings_7 (by decide) (fun _ => ?_) (fun _ => ?_)
      · refine lv_iload_n hx hb dX5_meetings_25 rfl (lv_at hl 1 rfl) ?_
        exact p_iret E hw hr (Nat.le_of_ble_eq_true rfl) (Nat.le_of_ble_eq_true rfl) rfl dX5_meetings_26
      · refine lv_iload_n hx hb dX5_meetings_10 rfl (lv_at hl 1 rfl) ?_
        refine lv_aload_n hx hb dX5_meetings_11 rfl (lv_at hl 0 rfl) ?_
        refine gx_getR E hw kF_Person_18_5 (by decide) dX5_meetings_12 (fun v1 _ => ?_)
        refine lv_iload_n hx hb dX5_meetings_15 rfl (lv_at hl 2 rfl) ?_
        refine gx_iald E hw dX5_meetings_16 (fun v2 _ => ?_)
        refine lv_iadd hx hb dX5_meetings_17 ?_
        refine lv_istore_n (lv' := [(1, .int (x1 + v2)), (0, .ref this), (2, .int x2)]) hx hb dX5_meetings_18 rfl hl (by decide) rfl (fun ls hl => ?_)
        refine lv_iinc (v := x2 + 1) (lv' := [(2, .int (x2 + 1)), (1, .int (x1 + v2)), (0, .ref this)]) hx hb dX5_meetings_19 hl (k := 2) rfl rfl (by decide) rfl (fun ls hl => ?_)
        refine lv_goto (tgt := 4) hx hb dX5_meetings_22 (by decide) ?_
        exact ih (x1 + v2) (x2 + 1) _ _ _ hw (lv_sub hl [2, 1, 0] rfl)
  unfold f_Person_meetings
  refine lv_iconst (v := 0) hx hb dX5_meetings_0 (by decide) ?_
  refine lv_istore_n (lv' := [(1, .int 0), (0, .ref this)]) hx hb dX5_meetings_1 rfl hl (by decide) rfl (fun ls hl => ?_)
  refine lv_iconst (v := 0) hx hb dX5_meetings_2 (by decide) ?_
  refine lv_istore_n (lv' := [(2, .int 0), (1, .int 0), (0, .ref this)]) hx hb dX5_meetings_3 rfl hl (by decide) rfl (fun ls hl => ?_)
  exact w4  N 0 0 _ _ _ hw (lv_sub hl [2, 1, 0] rfl)
set_option maxHeartbeats 4000000 in
set_option maxRecDepth 100000 in
theorem t_CT_person (l : Launch) (hfl : l.stackTraces = false) (G : wG) (N : Nat) (this : Nat) (a0 : Int32) (a1 : Int32) (M : Mem) (r : Rho) : Ctr l yX11_person (wWs yX11_person cX11_person 4 (some .int)) rm_CT_person rm_CT_person.cells rm_CT_person.slots G [.ref this, .int a0, .int a1] M r ((f_CT_person N this a0 a1 M).map (fun z => (z.1.elim (fun v => .inl (some (.int v))) .inr, z.2, r))) := by
  refine Ctr.ofF (own := "CheekTown") (by decide +kernel) hfl rfl (Nat.le_of_ble_eq_true rfl) (fun p e s m args below meth c E hno hr hnm hw ls hl => ?_)
  obtain ⟨hx, hb, hts, hown, hml, hTT, -⟩ := id E
  have hl : lv_has ls 4 [(0, .ref this), (1, .int a0), (2, .int a1)] := hl
  obtain ⟨H, hH⟩ : ∃ H, H = s.heap := ⟨_, rfl⟩
  obtain ⟨locs, hlo⟩ : ∃ L : List Loc, L = [] := ⟨_, rfl⟩
  rw [← hH, ← hlo]
  rw [← hlo] at hw
  replace hw : w_W G M r s H locs := by rw [hH]; exact hw
  unfold f_CT_person
  refine lv_aload_n hx hb dX11_person_0 rfl (lv_at hl 0 rfl) ?_
  refine lv_iload_n hx hb dX11_person_1 rfl (lv_at hl 1 rfl) ?_
  refine W_bind fun _ hck => ?_
  refine W_bind fun z1 hz => ?_
  refine w_afterS (cells1 := 1) (slots1 := 6) (vv := (fun _ => none)) (w_runV E kV_CT_132 kc_X11_needPerson (t_CT_needPerson l hfl G this a0 M r ((fun z => (z.1.elim (fun _ => .inl none) .inr, z.2, r)) z1) (by rw [hz]; rfl)) ⟨Nat.le_of_ble_eq_true rfl, Nat.le_of_ble_eq_true rfl⟩ hw (w_recv E hw (by decide) ⟨_, _, rfl⟩ (ck_ok hck)) rfl hl.1 rfl (Nat.le_of_ble_eq_true rfl) dX11_person_2 ⟨Nat.le_of_ble_eq_true rfl, Nat.le_of_ble_eq_true rfl⟩) hw rfl (Nat.le_of_ble_eq_true rfl) (Nat.le_of_ble_eq_true rfl) (fun v2 H locs _ hw => ?_) (fun E9 H locs q ce _ hw hce hcv hcl => w_out E hno hw hce hcv hcl (Nat.le_of_ble_eq_true rfl) (Nat.le_of_ble_eq_true rfl) rfl)
  refine W.eq (g2 := F0 m 5 ls []) rfl ?_
  have hw : w_W G z1.2 r s H locs := hw
  refine lv_iload_n hx hb dX11_person_5 rfl (lv_at hl 2 rfl) ?_
  refine lv_bipush (v := 6) hx hb dX11_person_6 (by decide) ?_
  refine W_bind fun z3 hz => ?_
  refine w_afterS (cells1 := 2) (slots1 := 12) (vv := (fun _ => none)) (w_runS E kS_CT_168 kc_X11_needWhat (t_CT_needWhat l hfl G a1 6 z1.2 r ((fun z => (z.1.elim (fun _ => .inl none) .inr, z.2, r)) z3) (by rw [hz]; rfl)) ⟨Nat.le_of_ble_eq_true rfl, Nat.le_of_ble_eq_true rfl⟩ hw rfl hl.1 rfl (Nat.le_of_ble_eq_true rfl) dX11_person_8 ⟨Nat.le_of_ble_eq_true rfl, Nat.le_of_ble_eq_true rfl⟩) hw rfl (Nat.le_of_ble_eq_true rfl) (Nat.le_of_ble_eq_true rfl) (fun v4 H locs _ hw => ?_) (fun E9 H locs q ce _ hw hce hcv hcl => w_out E hno hw hce hcv hcl (Nat.le_of_ble_eq_true rfl) (Nat.le_of_ble_eq_true rfl) rfl)
  refine W.eq (g2 := F0 m 11 ls []) rfl ?_
  have hw : w_W G z3.2 r s H locs := hw
  refine lv_aload_n hx hb dX11_person_11 rfl (lv_at hl 0 rfl) ?_
  refine gx_getR E hw kF_CT_20_10 (by decide) dX11_person_12 (fun v5 _ => ?_)
  refine gx_getR E hw kF_CT_172_7 (by decide) dX11_person_15 (fun v6 _ => ?_)
  refine lv_iload_n hx hb dX11_person_18 rfl (lv_at hl 1 rfl) ?_
  refine gx_aald E hw (by decide) dX11_person_19 (fun v7 _ => ?_)
  refine lv_astore_n (lv' := [(3, .ref v7), (0, .ref this), (1, .int a0), (2, .int a1)]) hx hb dX11_person_20 rfl hl (by decide) rfl (fun ls hl => ?_)
  refine lv_iload_n hx hb dX11_person_21 rfl (lv_at hl 3 rfl) ?_
  refine cx_tab 0 (tgt := 60) E dX11_person_22 (by decide) (by decide) rfl (by decide) (fun _ => ?_) (fun hn0 => ?_)
  · refine lv_aload_n hx hb dX11_person_60 rfl (lv_at hl 0 rfl) ?_
    refine gx_getI E hw kF_CT_176_5 (by decide) dX11_person_61 (fun v8 _ => ?_)
    exact p_iret E hw hr (Nat.le_of_ble_eq_true rfl) (Nat.le_of_ble_eq_true rfl) rfl dX11_person_64
  refine cx_tab 1 (tgt := 65) E dX11_person_22 (by decide) (by decide) rfl (by decide) (fun _ => ?_) (fun hn1 => ?_)
  · refine lv_aload_n hx hb dX11_person_65 rfl (lv_at hl 0 rfl) ?_
    refine gx_getI E hw kF_CT_181_5 (by decide) dX11_person_66 (fun v9 _ => ?_)
    exact p_iret E hw hr (Nat.le_of_ble_eq_true rfl) (Nat.le_of_ble_eq_true rfl) rfl dX11_person_69
  refine cx_tab 2 (tgt := 70) E dX11_person_22 (by decide) (by decide) rfl (by decide) (fun _ => ?_) (fun hn2 => ?_)
  · refine lv_aload_n hx hb dX11_person_70 rfl (lv_at hl 0 rfl) ?_
    refine gx_getI E hw kF_CT_184_5 (by decide) dX11_person_71 (fun v10 _ => ?_)
    exact p_iret E hw hr (Nat.le_of_ble_eq_true rfl) (Nat.le_of_ble_eq_true rfl) rfl dX11_person_74
  refine cx_tab 3 (tgt := 75) E dX11_person_22 (by decide) (by decide) rfl (by decide) (fun _ => ?_) (fun hn3 => ?_)
  · refine lv_aload_n hx hb dX11_person_75 rfl (lv_at hl 0 rfl) ?_
    refine gx_getI E hw kF_CT_187_5 (by decide) dX11_person_76 (fun v11 _ => ?_)
    exact p_iret E hw hr (Nat.le_of_ble_eq_true rfl) (Nat.le_of_ble_eq_true rfl) rfl dX11_person_79
  refine cx_tab 4 (tgt := 80) E dX11_person_22 (by decide) (by decide) rfl (by decide) (fun _ => ?_) (fun hn4 => ?_)
  · refine lv_aload_n hx hb dX11_person_80 rfl (lv_at hl 0 rfl) ?_
    refine gx_getI E hw kF_CT_190_5 (by decide) dX11_person_81 (fun v12 _ => ?_)
    refine cx_if_eq (tgt := 91) E dX11_person_84 (by decide) (fun _ => ?_) (fun _ => ?_)
    · refine lv_iconst (v := 0) hx hb dX11_person_91 (by decide) ?_
      exact p_iret E hw hr (Nat.le_of_ble_eq_true rfl) (Nat.le_of_ble_eq_true rfl) rfl dX11_person_92
    · refine lv_iconst (v := 1) hx hb dX11_person_87 (by decide) ?_
      refine lv_goto (tgt := 92) hx hb dX11_person_88 (by decide) ?_
      exact p_iret E hw hr (Nat.le_of_ble_eq_true rfl) (Nat.le_of_ble_eq_true rfl) rfl dX11_person_92
  refine cx_tab 5 (tgt := 93) E dX11_person_22 (by decide) (by decide) rfl (by decide) (fun _ => ?_) (fun hn5 => ?_)
  · refine lv_aload_n hx hb dX11_person_93 rfl (lv_at hl 0 rfl) ?_
    refine gx_getI E hw kF_CT_194_5 (by decide) dX11_person_94 (fun v13 _ => ?_)
    exact p_iret E hw hr (Nat.le_of_ble_eq_true rfl) (Nat.le_of_ble_eq_true rfl) rfl dX11_person_97
  refine lv_tableOut (tgt := 98) hx hb dX11_person_22 (by have h9 := (⟨hn0, hn1, hn2, hn3, hn4, hn5⟩ : a1.toInt ≠ 0 ∧ a1.toInt ≠ 1 ∧ a1.toInt ≠ 2 ∧ a1.toInt ≠ 3 ∧ a1.toInt ≠ 4 ∧ a1.toInt ≠ 5); omega) (by decide) ?_
  refine lv_aload_n hx hb dX11_person_98 rfl (lv_at hl 0 rfl) ?_
  refine W_bind fun _ hck => ?_
  refine W_bind fun z14 hz => ?_
  refine w_after (cells1 := 2) (slots1 := 12) (w_runV E kV_CT_197 kc_X5_meetings (t_Person_meetings l hfl G N v7 z3.2 r ((fun z => (.inl (some (.int z)), z3.2, r)) z14) (by rw [hz]; rfl)) ⟨Nat.le_of_ble_eq_true rfl, Nat.le_of_ble_eq_true rfl⟩ hw (w_recv E hw (by decide) ⟨_, _, rfl⟩ (ck_ok hck)) rfl hl.1 rfl (Nat.le_of_ble_eq_true rfl) dX11_person_99 ⟨Nat.le_of_ble_eq_true rfl, Nat.le_of_ble_eq_true rfl⟩) hw rfl (Nat.le_of_ble_eq_true rfl) (Nat.le_of_ble_eq_true rfl) (fun H locs hw => ?_)
  refine W.eq (g2 := F0 m 102 ls [.int z14]) rfl ?_
  have hw : w_W G z3.2 r s H locs := hw
  exact p_iret E hw hr (Nat.le_of_ble_eq_true rfl) (Nat.le_of_ble_eq_true rfl) rfl dX11_person_102
set_option maxHeartbeats 4000000 in
set_option maxRecDepth 100000 in
theorem t_CT_needTwo (l : Launch) (hfl : l.stackTraces = false) (G : wG) (this : Nat) (a0 : Int32) (a1 : Int32) (M : Mem) (r : Rho) : Ctr l yX11_needTwo (wWs yX11_needTwo cX11_needTwo 3 none) rm_CT_needTwo rm_CT_needTwo.cells rm_CT_needTwo.slots G [.ref this, .int a0, .int a1] M r ((f_CT_needTwo this a0 a1 M).map (fun z => (z.1.elim (fun _ => .inl none) .inr, z.2, r))) := by
  refine Ctr.ofF (own := "CheekTown") (by decide +kernel) hfl rfl (Nat.le_of_ble_eq_true rfl) (fun p e s m args below meth c E hno hr hnm hw ls hl => ?_)
  obtain ⟨hx, hb, hts, hown, hml, hTT, -⟩ := id E
  have hl : lv_has ls 3 [(0, .ref this), (1, .int a0), (2, .int a1)] := hl
  obtain ⟨H, hH⟩ : ∃ H, H = s.heap := ⟨_, rfl⟩
  obtain ⟨locs, hlo⟩ : ∃ L : List Loc, L = [] := ⟨_, rfl⟩
  rw [← hH, ← hlo]
  rw [← hlo] at hw
  replace hw : w_W G M r s H locs := by rw [hH]; exact hw
  unfold f_CT_needTwo
  refine lv_aload_n hx hb dX11_needTwo_0 rfl (lv_at hl 0 rfl) ?_
  refine lv_iload_n hx hb dX11_needTwo_1 rfl (lv_at hl 1 rfl) ?_
  refine W_bind fun _ hck => ?_
  refine W_bind fun z1 hz => ?_
  refine w_afterS (cells1 := 1) (slots1 := 6) (vv := (fun _ => none)) (w_runV E kV_CT_132 kc_X11_needPerson (t_CT_needPerson l hfl G this a0 M r ((fun z => (z.1.elim (fun _ => .inl none) .inr, z.2, r)) z1) (by rw [hz]; rfl)) ⟨Nat.le_of_ble_eq_true rfl, Nat.le_of_ble_eq_true rfl⟩ hw (w_recv E hw (by decide) ⟨_, _, rfl⟩ (ck_ok hck)) rfl hl.1 rfl (Nat.le_of_ble_eq_true rfl) dX11_needTwo_2 ⟨Nat.le_of_ble_eq_true rfl, Nat.le_of_ble_eq_true rfl⟩) hw rfl (Nat.le_of_ble_eq_true rfl) (Nat.le_of_ble_eq_true rfl) (fun v2 H locs _ hw => ?_) (fun E9 H locs q ce _ hw hce hcv hcl => w_out E hno hw hce hcv hcl (Nat.le_of_ble_eq_true rfl) (Nat.le_of_ble_eq_true rfl) rfl)
  refine W.eq (g2 := F0 m 5 ls []) rfl ?_
  have hw : w_W G z1.2 r s H locs := hw
  refine lv_aload_n hx hb dX11_needTwo_5 rfl (lv_at hl 0 rfl) ?_
  refine lv_iload_n hx hb dX11_needTwo_6 rfl (lv_at hl 2 rfl) ?_
  refine W_bind fun _ hck => ?_
  refine W_bind fun z3 hz => ?_
  refine w_afterS (cells1 := 2) (slots1 := 12) (vv := (fun _ => none)) (w_runV E kV_CT_132 kc_X11_needPerson (t_CT_needPerson l hfl G this a1 z1.2 r ((fun z => (z.1.elim (fun _ => .inl none) .inr, z.2, r)) z3) (by rw [hz]; rfl)) ⟨Nat.le_of_ble_eq_true rfl, Nat.le_of_ble_eq_true rfl⟩ hw (w_recv E hw (by decide) ⟨_, _, rfl⟩ (ck_ok hck)) rfl hl.1 rfl (Nat.le_of_ble_eq_true rfl) dX11_needTwo_7 ⟨Nat.le_of_ble_eq_true rfl, Nat.le_of_ble_eq_true rfl⟩) hw rfl (Nat.le_of_ble_eq_true rfl) (Nat.le_of_ble_eq_true rfl) (fun v4 H locs _ hw => ?_) (fun E9 H locs q ce _ hw hce hcv hcl => w_out E hno hw hce hcv hcl (Nat.le_of_ble_eq_true rfl) (Nat.le_of_ble_eq_true rfl) rfl)
  refine W.eq (g2 := F0 m 10 ls []) rfl ?_
  have hw : w_W G z3.2 r s H locs := hw
  refine lv_iload_n hx hb dX11_needTwo_10 rfl (lv_at hl 1 rfl) ?_
  refine lv_iload_n hx hb dX11_needTwo_11 rfl (lv_at hl 2 rfl) ?_
  refine cx_icmp_ne (tgt := 25) E dX11_needTwo_12 (by decide) (fun _ => ?_) (fun _ => ?_)
  · exact p_vret E hw hr (Nat.le_of_ble_eq_true rfl) (Nat.le_of_ble_eq_true rfl) rfl dX11_needTwo_25
  · exact gx_throw E hno hw kX_CT_135 hl.1 dX11_needTwo_15 dX11_needTwo_18 dX11_needTwo_19 dX11_needTwo_21 dX11_needTwo_24 (Nat.le_of_ble_eq_true rfl) (Nat.le_of_ble_eq_true rfl) (Nat.le_of_ble_eq_true rfl) (Nat.le_of_ble_eq_true rfl) (Nat.le_of_ble_eq_true rfl) (Nat.le_of_ble_eq_true rfl) rfl
set_option maxHeartbeats 4000000 in
set_option maxRecDepth 100000 in
theorem t_CT_saw (l : Launch) (hfl : l.stackTraces = false) (G : wG) (this : Nat) (a0 : Int32) (a1 : Int32) (a2 : Int32) (M : Mem) (r : Rho) : Ctr l yX11_saw (wWs yX11_saw cX11_saw 5 (some .int)) rm_CT_saw rm_CT_saw.cells rm_CT_saw.slots G [.ref this, .int a0, .int a1, .int a2] M r ((f_CT_saw this a0 a1 a2 M).map (fun z => (z.1.elim (fun v => .inl (some (.int v))) .inr, z.2, r))) := by
  refine Ctr.ofF (own := "CheekTown") (by decide +kernel) hfl rfl (Nat.le_of_ble_eq_true rfl) (fun p e s m args below meth c E hno hr hnm hw ls hl => ?_)
  obtain ⟨hx, hb, hts, hown, hml, hTT, -⟩ := id E
  have hl : lv_has ls 5 [(0, .ref this), (1, .int a0), (2, .int a1), (3, .int a2)] := hl
  obtain ⟨H, hH⟩ : ∃ H, H = s.heap := ⟨_, rfl⟩
  obtain ⟨locs, hlo⟩ : ∃ L : List Loc, L = [] := ⟨_, rfl⟩
  rw [← hH, ← hlo]
  rw [← hlo] at hw
  replace hw : w_W G M r s H locs := by rw [hH]; exact hw
  unfold f_CT_saw
  refine lv_aload_n hx hb dX11_saw_0 rfl (lv_at hl 0 rfl) ?_
  refine lv_iload_n hx hb dX11_saw_1 rfl (lv_at hl 1 rfl) ?_
  refine lv_iload_n hx hb dX11_saw_2 rfl (lv_at hl 2 rfl) ?_
  refine W_bind fun _ hck => ?_
  refine W_bind fun z1 hz => ?_
  refine w_afterS (cells1 := 3) (slots1 := 18) (vv := (fun _ => none)) (w_runV E kV_CT_200 kc_X11_needTwo (t_CT_needTwo l hfl G this a0 a1 M r ((fun z => (z.1.elim (fun _ => .inl none) .inr, z.2, r)) z1) (by rw [hz]; rfl)) ⟨Nat.le_of_ble_eq_true rfl, Nat.le_of_ble_eq_true rfl⟩ hw (w_recv E hw (by decide) ⟨_, _, rfl⟩ (ck_ok hck)) rfl hl.1 rfl (Nat.le_of_ble_eq_true rfl) dX11_saw_3 ⟨Nat.le_of_ble_eq_true rfl, Nat.le_of_ble_eq_true rfl⟩) hw rfl (Nat.le_of_ble_eq_true rfl) (Nat.le_of_ble_eq_true rfl) (fun v2 H locs _ hw => ?_) (fun E9 H locs q ce _ hw hce hcv hcl => w_out E hno hw hce hcv hcl (Nat.le_of_ble_eq_true rfl) (Nat.le_of_ble_eq_true rfl) rfl)
  refine W.eq (g2 := F0 m 6 ls []) rfl ?_
  have hw : w_W G z1.2 r s H locs := hw
  refine lv_aload_n hx hb dX11_saw_6 rfl (lv_at hl 0 rfl) ?_
  refine gx_getR E hw kF_CT_20_10 (by decide) dX11_saw_7 (fun v3 _ => ?_)
  refine gx_getR E hw kF_CT_172_7 (by decide) dX11_saw_10 (fun v4 _ => ?_)
  refine lv_iload_n hx hb dX11_saw_13 rfl (lv_at hl 1 rfl) ?_
  refine gx_aald E hw (by decide) dX11_saw_14 (fun v5 _ => ?_)
  refine lv_astore (lv' := [(4, .ref v5), (0, .ref this), (1, .int a0), (2, .int a1), (3, .int a2)]) hx hb dX11_saw_15 hl (by decide) rfl (fun ls hl => ?_)
  refine lv_iload_n hx hb dX11_saw_17 rfl (lv_at hl 4 rfl) ?_
  refine cx_if_eq (tgt := 31) E dX11_saw_18 (by decide) (fun _ => ?_) (fun _ => ?_)
  · refine lv_aload hx hb dX11_saw_31 (lv_at hl 0 rfl) ?_
    refine gx_getR E hw kF_CT_206_5 (by decide) dX11_saw_33 (fun v6 _ => ?_)
    refine lv_iload_n hx hb dX11_saw_36 rfl (lv_at hl 3 rfl) ?_
    refine gx_iald E hw dX11_saw_37 (fun v7 _ => ?_)
    exact p_iret E hw hr (Nat.le_of_ble_eq_true rfl) (Nat.le_of_ble_eq_true rfl) rfl dX11_saw_38
  · refine lv_aload hx hb dX11_saw_21 (lv_at hl 0 rfl) ?_
    refine gx_getR E hw kF_CT_203_5 (by decide) dX11_saw_23 (fun v8 _ => ?_)
    refine lv_iload_n hx hb dX11_saw_26 rfl (lv_at hl 3 rfl) ?_
    refine gx_iald E hw dX11_saw_27 (fun v9 _ => ?_)
    refine lv_goto (tgt := 38) hx hb dX11_saw_28 (by decide) ?_
    exact p_iret E hw hr (Nat.le_of_ble_eq_true rfl) (Nat.le_of_ble_eq_true rfl) rfl dX11_saw_38
set_option maxHeartbeats 4000000 in
set_option maxRecDepth 100000 in
theorem t_CT_needTie (l : Launch) (hfl : l.stackTraces = false) (G : wG) (this : Nat) (a0 : Int32) (M : Mem) (r : Rho) : Ctr l yX11_needTie (wWs yX11_needTie cX11_needTie 2 none) rm_CT_needTie rm_CT_needTie.cells rm_CT_needTie.slots G [.ref this, .int a0] M r ((f_CT_needTie this a0 M).map (fun z => (z.1.elim (fun _ => .inl none) .inr, z.2, r))) := by
  refine Ctr.ofF (own := "CheekTown") (by decide +kernel) hfl rfl (Nat.le_of_ble_eq_true rfl) (fun p e s m args below meth c E hno hr hnm hw ls hl => ?_)
  obtain ⟨hx, hb, hts, hown, hml, hTT, -⟩ := id E
  have hl : lv_has ls 2 [(0, .ref this), (1, .int a0)] := hl
  obtain ⟨H, hH⟩ : ∃ H, H = s.heap := ⟨_, rfl⟩
  obtain ⟨locs, hlo⟩ : ∃ L : List Loc, L = [] := ⟨_, rfl⟩
  rw [← hH, ← hlo]
  rw [← hlo] at hw
  replace hw : w_W G M r s H locs := by rw [hH]; exact hw
  have w15 : ∀ (M : Mem) (H : Heap) (locs : List Loc) (ls : Array Slot), w_W G M r s H locs → lv_has ls 2 [] → W p l e rm_CT_needTie s m args below meth c H locs 0 0 (PQ G below args s rm_CT_needTie.cells rm_CT_needTie.slots (fun z => (z.1.elim (fun _ => .inl none) .inr, z.2, r)) (f_CT_needTie_15 this a0 M)) (F0 m 15 ls []) := by
    intro M H locs ls hw hl
    unfold f_CT_needTie_15
    exact gx_throw E hno hw kX_CT_140 hl.1 dX11_needTie_15 dX11_needTie_18 dX11_needTie_19 dX11_needTie_21 dX11_needTie_24 (Nat.le_of_ble_eq_true rfl) (Nat.le_of_ble_eq_true rfl) (Nat.le_of_ble_eq_true rfl) (Nat.le_of_ble_eq_true rfl) (Nat.le_of_ble_eq_true rfl) (Nat.le_of_ble_eq_true rfl) rfl
  unfold f_CT_needTie
  refine lv_iload_n hx hb dX11_needTie_0 rfl (lv_at hl 1 rfl) ?_
  refine cx_if_lt (tgt := 15) E dX11_needTie_1 (by decide) (fun _ => ?_) (fun _ => ?_)
  · exact w15  M _ _ _ hw (lv_sub hl [] rfl)
  · refine lv_iload_n hx hb dX11_needTie_4 rfl (lv_at hl 1 rfl) ?_
    refine lv_aload_n hx hb dX11_needTie_5 rfl (lv_at hl 0 rfl) ?_
    refine gx_getR E hw kF_CT_20_10 (by decide) dX11_needTie_6 (fun v1 _ => ?_)
    refine gx_getI E hw kF_CT_137_7 (by decide) dX11_needTie_9 (fun v2 _ => ?_)
    refine cx_icmp_lt (tgt := 25) E dX11_needTie_12 (by decide) (fun _ => ?_) (fun _ => ?_)
    · exact p_vret E hw hr (Nat.le_of_ble_eq_true rfl) (Nat.le_of_ble_eq_true rfl) rfl dX11_needTie_25
    · exact w15  M _ _ _ hw (lv_sub hl [] rfl)
set_option maxHeartbeats 4000000 in
set_option maxRecDepth 100000 in
theorem t_CT_tie (l : Launch) (hfl : l.stackTraces = false) (G : wG) (this : Nat) (a0 : Int32) (a1 : Int32) (M : Mem) (r : Rho) : Ctr l yX11_tie (wWs yX11_tie cX11_tie 3 (some .int)) rm_CT_tie rm_CT_tie.cells rm_CT_tie.slots G [.ref this, .int a0, .int a1] M r ((f_CT_tie this a0 a1 M).map (fun z => (z.1.elim (fun v => .inl (some (.int v))) .inr, z.2, r))) := by
  refine Ctr.ofF (own := "CheekTown") (by decide +kernel) hfl rfl (Nat.le_of_ble_eq_true rfl) (fun p e s m args below meth c E hno hr hnm hw ls hl => ?_)
  obtain ⟨hx, hb, hts, hown, hml, hTT, -⟩ := id E
  have hl : lv_has ls 3 [(0, .ref this), (1, .int a0), (2, .int a1)] := hl
  obtain ⟨H, hH⟩ : ∃ H, H = s.heap := ⟨_, rfl⟩
  obtain ⟨locs, hlo⟩ : ∃ L : List Loc, L = [] := ⟨_, rfl⟩
  rw [← hH, ← hlo]
  rw [← hlo] at hw
  replace hw : w_W G M r s H locs := by rw [hH]; exact hw
  unfold f_CT_tie
  refine lv_aload_n hx hb dX11_tie_0 rfl (lv_at hl 0 rfl) ?_
  refine lv_iload_n hx hb dX11_tie_1 rfl (lv_at hl 1 rfl) ?_
  refine W_bind fun _ hck => ?_
  refine W_bind fun z1 hz => ?_
  refine w_afterS (cells1 := 1) (slots1 := 6) (vv := (fun _ => none)) (w_runV E kV_CT_209 kc_X11_needTie (t_CT_needTie l hfl G this a0 M r ((fun z => (z.1.elim (fun _ => .inl none) .inr, z.2, r)) z1) (by rw [hz]; rfl)) ⟨Nat.le_of_ble_eq_true rfl, Nat.le_of_ble_eq_true rfl⟩ hw (w_recv E hw (by decide) ⟨_, _, rfl⟩ (ck_ok hck)) rfl hl.1 rfl (Nat.le_of_ble_eq_true rfl) dX11_tie_2 ⟨Nat.le_of_ble_eq_true rfl, Nat.le_of_ble_eq_true rfl⟩) hw rfl (Nat.le_of_ble_eq_true rfl) (Nat.le_of_ble_eq_true rfl) (fun v2 H locs _ hw => ?_) (fun E9 H locs q ce _ hw hce hcv hcl => w_out E hno hw hce hcv hcl (Nat.le_of_ble_eq_true rfl) (Nat.le_of_ble_eq_true rfl) rfl)
  refine W.eq (g2 := F0 m 5 ls []) rfl ?_
  have hw : w_W G z1.2 r s H locs := hw
  refine lv_iload_n hx hb dX11_tie_5 rfl (lv_at hl 2 rfl) ?_
  refine cx_if_eq (tgt := 21) E dX11_tie_6 (by decide) (fun _ => ?_) (fun _ => ?_)
  · refine lv_aload_n hx hb dX11_tie_21 rfl (lv_at hl 0 rfl) ?_
    refine gx_getR E hw kF_CT_20_10 (by decide) dX11_tie_22 (fun v3 _ => ?_)
    refine gx_getR E hw kF_CT_215_7 (by decide) dX11_tie_25 (fun v4 _ => ?_)
    refine lv_iload_n hx hb dX11_tie_28 rfl (lv_at hl 1 rfl) ?_
    refine gx_iald E hw dX11_tie_29 (fun v5 _ => ?_)
    exact p_iret E hw hr (Nat.le_of_ble_eq_true rfl) (Nat.le_of_ble_eq_true rfl) rfl dX11_tie_30
  · refine lv_aload_n hx hb dX11_tie_9 rfl (lv_at hl 0 rfl) ?_
    refine gx_getR E hw kF_CT_20_10 (by decide) dX11_tie_10 (fun v6 _ => ?_)
    refine gx_getR E hw kF_CT_212_7 (by decide) dX11_tie_13 (fun v7 _ => ?_)
    refine lv_iload_n hx hb dX11_tie_16 rfl (lv_at hl 1 rfl) ?_
    refine gx_iald E hw dX11_tie_17 (fun v8 _ => ?_)
    refine lv_goto (tgt := 30) hx hb dX11_tie_18 (by decide) ?_
    exact p_iret E hw hr (Nat.le_of_ble_eq_true rfl) (Nat.le_of_ble_eq_true rfl) rfl dX11_tie_30
set_option maxHeartbeats 4000000 in
set_option maxRecDepth 100000 in
theorem t_Law_valueOf (l : Launch) (hfl : l.stackTraces = false) (G : wG) (a0 : Int32) (a1 : Nat) (a2 : Int32) (a3 : Int32) (M : Mem) (r : Rho) : Ctr l yX1_valueOf (wWs yX1_valueOf cX1_valueOf 6 (some .int)) rm_Law_valueOf rm_Law_valueOf.cells rm_Law_valueOf.slots G [.int a0, .ref a1, .int a2, .int a3] M r ((f_Law_valueOf a0 a1 a2 a3 M).map (fun z => (.inl (some (.int z)), M, r))) := by
  refine Ctr.ofF (own := "CheekTown$Law") (by decide +kernel) hfl rfl (Nat.le_of_ble_eq_true rfl) (fun p e s m args below meth c E hno hr hnm hw ls hl => ?_)
  obtain ⟨hx, hb, hts, hown, hml, hTT, -⟩ := id E
  have hl : lv_has ls 6 [(0, .int a0), (1, .ref a1), (2, .int a2), (3, .int a3)] := hl
  obtain ⟨H, hH⟩ : ∃ H, H = s.heap := ⟨_, rfl⟩
  obtain ⟨locs, hlo⟩ : ∃ L : List Loc, L = [] := ⟨_, rfl⟩
  rw [← hH, ← hlo]
  rw [← hlo] at hw
  replace hw : w_W G M r s H locs := by rw [hH]; exact hw
  unfold f_Law_valueOf
  refine lv_aload_n hx hb dX1_valueOf_0 rfl (lv_at hl 1 rfl) ?_
  refine gx_getR E hw kF_Law_52_7 (by decide) dX1_valueOf_1 (fun v1 _ => ?_)
  refine lv_iload_n hx hb dX1_valueOf_4 rfl (lv_at hl 2 rfl) ?_
  refine gx_aald E hw (by decide) dX1_valueOf_5 (fun v2 _ => ?_)
  refine lv_astore (lv' := [(4, .ref v2), (0, .int a0), (1, .ref a1), (2, .int a2), (3, .int a3)]) hx hb dX1_valueOf_6 hl (by decide) rfl (fun ls hl => ?_)
  refine lv_aload_n hx hb dX1_valueOf_8 rfl (lv_at hl 2 rfl) ?_
  refine gx_getR E hw kF_Law_52_7 (by decide) dX1_valueOf_9 (fun v3 _ => ?_)
  refine lv_iload_n hx hb dX1_valueOf_12 rfl (lv_at hl 4 rfl) ?_
  refine gx_aald E hw (by decide) dX1_valueOf_13 (fun v4 _ => ?_)
  refine lv_astore (lv' := [(5, .ref v4), (4, .ref v2), (0, .int a0), (1, .ref a1), (2, .int a2), (3, .int a3)]) hx hb dX1_valueOf_14 hl (by decide) rfl (fun ls hl => ?_)
  refine lv_iload_n hx hb dX1_valueOf_16 rfl (lv_at hl 2 rfl) ?_
  refine cx_tab 1 (tgt := 60) E dX1_valueOf_17 (by decide) (by decide) rfl (by decide) (fun _ => ?_) (fun hn0 => ?_)
  · refine lv_iload_n hx hb dX1_valueOf_60 rfl (lv_at hl 4 rfl) ?_
    exact p_iret E hw hr (Nat.le_of_ble_eq_true rfl) (Nat.le_of_ble_eq_true rfl) rfl dX1_valueOf_61
  refine cx_tab 2 (tgt := 62) E dX1_valueOf_17 (by decide) (by decide) rfl (by decide) (fun _ => ?_) (fun hn1 => ?_)
  · refine lv_iload_n hx hb dX1_valueOf_62 rfl (lv_at hl 5 rfl) ?_
    exact p_iret E hw hr (Nat.le_of_ble_eq_true rfl) (Nat.le_of_ble_eq_true rfl) rfl dX1_valueOf_63
  refine cx_tab 3 (tgt := 64) E dX1_valueOf_17 (by decide) (by decide) rfl (by decide) (fun _ => ?_) (fun hn2 => ?_)
  · refine lv_aload hx hb dX1_valueOf_64 (lv_at hl 1 rfl) ?_
    refine gx_getI E hw kF_Law_58_5 (by decide) dX1_valueOf_66 (fun v5 _ => ?_)
    exact p_iret E hw hr (Nat.le_of_ble_eq_true rfl) (Nat.le_of_ble_eq_true rfl) rfl dX1_valueOf_69
  refine cx_tab 4 (tgt := 70) E dX1_valueOf_17 (by decide) (by decide) rfl (by decide) (fun _ => ?_) (fun hn3 => ?_)
  · refine lv_aload hx hb dX1_valueOf_70 (lv_at hl 0 rfl) ?_
    refine gx_getI E hw kF_Law_58_5 (by decide) dX1_valueOf_72 (fun v6 _ => ?_)
    exact p_iret E hw hr (Nat.le_of_ble_eq_true rfl) (Nat.le_of_ble_eq_true rfl) rfl dX1_valueOf_75
  refine cx_tab 5 (tgt := 76) E dX1_valueOf_17 (by decide) (by decide) rfl (by decide) (fun _ => ?_) (fun hn4 => ?_)
  · refine lv_aload hx hb dX1_valueOf_76 (lv_at hl 1 rfl) ?_
    refine gx_getR E hw kF_Law_63_5 (by decide) dX1_valueOf_78 (fun v7 _ => ?_)
    refine lv_iload_n hx hb dX1_valueOf_81 rfl (lv_at hl 5 rfl) ?_
    refine gx_iald E hw dX1_valueOf_82 (fun v8 _ => ?_)
    exact p_iret E hw hr (Nat.le_of_ble_eq_true rfl) (Nat.le_of_ble_eq_true rfl) rfl dX1_valueOf_83
  refine cx_tab 6 (tgt := 84) E dX1_valueOf_17 (by decide) (by decide) rfl (by decide) (fun _ => ?_) (fun hn5 => ?_)
  · refine lv_aload_n hx hb dX1_valueOf_84 rfl (lv_at hl 3 rfl) ?_
    refine gx_getI E hw kF_Law_66_7 (by decide) dX1_valueOf_85 (fun v9 _ => ?_)
    exact p_iret E hw hr (Nat.le_of_ble_eq_true rfl) (Nat.le_of_ble_eq_true rfl) rfl dX1_valueOf_88
  refine cx_tab 7 (tgt := 89) E dX1_valueOf_17 (by decide) (by decide) rfl (by decide) (fun _ => ?_) (fun hn6 => ?_)
  · refine lv_aload hx hb dX1_valueOf_89 (lv_at hl 1 rfl) ?_
    refine gx_getI E hw kF_Law_69_5 (by decide) dX1_valueOf_91 (fun v10 _ => ?_)
    refine lv_aload hx hb dX1_valueOf_94 (lv_at hl 0 rfl) ?_
    refine gx_getI E hw kF_Law_69_5 (by decide) dX1_valueOf_96 (fun v11 _ => ?_)
    refine cx_icmp_ne (tgt := 106) E dX1_valueOf_99 (by decide) (fun _ => ?_) (fun _ => ?_)
    · refine lv_iconst (v := 0) hx hb dX1_valueOf_106 (by decide) ?_
      exact p_iret E hw hr (Nat.le_of_ble_eq_true rfl) (Nat.le_of_ble_eq_true rfl) rfl dX1_valueOf_107
    · refine lv_iconst (v := 1) hx hb dX1_valueOf_102 (by decide) ?_
      refine lv_goto (tgt := 107) hx hb dX1_valueOf_103 (by decide) ?_
      exact p_iret E hw hr (Nat.le_of_ble_eq_true rfl) (Nat.le_of_ble_eq_true rfl) rfl dX1_valueOf_107
  refine lv_tableOut (tgt := 108) hx hb dX1_valueOf_17 (by have h9 := (⟨hn0, hn1, hn2, hn3, hn4, hn5, hn6⟩ : a0.toInt ≠ 1 ∧ a0.toInt ≠ 2 ∧ a0.toInt ≠ 3 ∧ a0.toInt ≠ 4 ∧ a0.toInt ≠ 5 ∧ a0.toInt ≠ 6 ∧ a0.toInt ≠ 7); omega) (by decide) ?_
  refine lv_aload hx hb dX1_valueOf_108 (lv_at hl 1 rfl) ?_
  refine gx_getI E hw kF_Law_72_5 (by decide) dX1_valueOf_110 (fun v12 _ => ?_)
  refine cx_if_ne (tgt := 124) E dX1_valueOf_113 (by decide) (fun _ => ?_) (fun _ => ?_)
  · refine lv_iconst (v := 1) hx hb dX1_valueOf_124 (by decide) ?_
    refine lv_goto (tgt := 129) hx hb dX1_valueOf_125 (by decide) ?_
    exact p_iret E hw hr (Nat.le_of_ble_eq_true rfl) (Nat.le_of_ble_eq_true rfl) rfl dX1_valueOf_129
  · refine lv_aload hx hb dX1_valueOf_116 (lv_at hl 0 rfl) ?_
    refine gx_getI E hw kF_Law_72_5 (by decide) dX1_valueOf_118 (fun v13 _ => ?_)
    refine cx_if_eq (tgt := 128) E dX1_valueOf_121 (by decide) (fun _ => ?_) (fun _ => ?_)
    · refine lv_iconst (v := 0) hx hb dX1_valueOf_128 (by decide) ?_
      exact p_iret E hw hr (Nat.le_of_ble_eq_true rfl) (Nat.le_of_ble_eq_true rfl) rfl dX1_valueOf_129
    · refine lv_iconst (v := 1) hx hb dX1_valueOf_124 (by decide) ?_
      refine lv_goto (tgt := 129) hx hb dX1_valueOf_125 (by decide) ?_
      exact p_iret E hw hr (Nat.le_of_ble_eq_true rfl) (Nat.le_of_ble_eq_true rfl) rfl dX1_valueOf_129
set_option maxHeartbeats 4000000 in
set_option maxRecDepth 100000 in
theorem t_Law_joined (l : Launch) (hfl : l.stackTraces = false) (G : wG) (a0 : Int32) (a1 : Int32) (a2 : Int32) (M : Mem) (r : Rho) : Ctr l yX1_joined (wWs yX1_joined cX1_joined 3 (some .int)) rm_Law_joined rm_Law_joined.cells rm_Law_joined.slots G [.int a0, .int a1, .int a2] M r ((f_Law_joined a0 a1 a2).map (fun z => (.inl (some (.int z)), M, r))) := by
  refine Ctr.ofF (own := "CheekTown$Law") (by decide +kernel) hfl rfl (Nat.le_of_ble_eq_true rfl) (fun p e s m args below meth c E hno hr hnm hw ls hl => ?_)
  obtain ⟨hx, hb, hts, hown, hml, hTT, -⟩ := id E
  have hl : lv_has ls 3 [(0, .int a0), (1, .int a1), (2, .int a2)] := hl
  obtain ⟨H, hH⟩ : ∃ H, H = s.heap := ⟨_, rfl⟩
  obtain ⟨locs, hlo⟩ : ∃ L : List Loc, L = [] := ⟨_, rfl⟩
  rw [← hH, ← hlo]
  rw [← hlo] at hw
  replace hw : w_W G M r s H locs := by rw [hH]; exact hw
  unfold f_Law_joined
  refine lv_iload_n hx hb dX1_joined_0 rfl (lv_at hl 0 rfl) ?_
  refine cx_tab 10 (tgt := 32) E dX1_joined_1 (by decide) (by decide) rfl (by decide) (fun _ => ?_) (fun hn0 => ?_)
  · refine lv_iload_n hx hb dX1_joined_32 rfl (lv_at hl 1 rfl) ?_
    refine lv_iload_n hx hb dX1_joined_33 rfl (lv_at hl 2 rfl) ?_
    refine lv_iadd hx hb dX1_joined_34 ?_
    exact p_iret E hw hr (Nat.le_of_ble_eq_true rfl) (Nat.le_of_ble_eq_true rfl) rfl dX1_joined_35
  refine cx_tab 11 (tgt := 36) E dX1_joined_1 (by decide) (by decide) rfl (by decide) (fun _ => ?_) (fun hn1 => ?_)
  · refine lv_iload_n hx hb dX1_joined_36 rfl (lv_at hl 1 rfl) ?_
    refine lv_iload_n hx hb dX1_joined_37 rfl (lv_at hl 2 rfl) ?_
    refine cx_icmp_ge (tgt := 45) E dX1_joined_38 (by decide) (fun _ => ?_) (fun _ => ?_)
    · refine lv_iconst (v := 0) hx hb dX1_joined_45 (by decide) ?_
      exact p_iret E hw hr (Nat.le_of_ble_eq_true rfl) (Nat.le_of_ble_eq_true rfl) rfl dX1_joined_46
    · refine lv_iconst (v := 1) hx hb dX1_joined_41 (by decide) ?_
      refine lv_goto (tgt := 46) hx hb dX1_joined_42 (by decide) ?_
      exact p_iret E hw hr (Nat.le_of_ble_eq_true rfl) (Nat.le_of_ble_eq_true rfl) rfl dX1_joined_46
  refine cx_tab 12 (tgt := 47) E dX1_joined_1 (by decide) (by decide) rfl (by decide) (fun _ => ?_) (fun hn2 => ?_)
  · refine lv_iload_n hx hb dX1_joined_47 rfl (lv_at hl 1 rfl) ?_
    refine lv_iload_n hx hb dX1_joined_48 rfl (lv_at hl 2 rfl) ?_
    refine cx_icmp_le (tgt := 56) E dX1_joined_49 (by decide) (fun _ => ?_) (fun _ => ?_)
    · refine lv_iconst (v := 0) hx hb dX1_joined_56 (by decide) ?_
      exact p_iret E hw hr (Nat.le_of_ble_eq_true rfl) (Nat.le_of_ble_eq_true rfl) rfl dX1_joined_57
    · refine lv_iconst (v := 1) hx hb dX1_joined_52 (by decide) ?_
      refine lv_goto (tgt := 57) hx hb dX1_joined_53 (by decide) ?_
      exact p_iret E hw hr (Nat.le_of_ble_eq_true rfl) (Nat.le_of_ble_eq_true rfl) rfl dX1_joined_57
  refine cx_tab 13 (tgt := 58) E dX1_joined_1 (by decide) (by decide) rfl (by decide) (fun _ => ?_) (fun hn3 => ?_)
  · refine lv_iload_n hx hb dX1_joined_58 rfl (lv_at hl 1 rfl) ?_
    refine lv_iload_n hx hb dX1_joined_59 rfl (lv_at hl 2 rfl) ?_
    refine lv_iand hx hb dX1_joined_60 ?_
    exact p_iret E hw hr (Nat.le_of_ble_eq_true rfl) (Nat.le_of_ble_eq_true rfl) rfl dX1_joined_61
  refine lv_tableOut (tgt := 62) hx hb dX1_joined_1 (by have h9 := (⟨hn0, hn1, hn2, hn3⟩ : a0.toInt ≠ 10 ∧ a0.toInt ≠ 11 ∧ a0.toInt ≠ 12 ∧ a0.toInt ≠ 13); omega) (by decide) ?_
  refine lv_iload_n hx hb dX1_joined_62 rfl (lv_at hl 1 rfl) ?_
  refine lv_iload_n hx hb dX1_joined_63 rfl (lv_at hl 2 rfl) ?_
  refine lv_ior hx hb dX1_joined_64 ?_
  exact p_iret E hw hr (Nat.le_of_ble_eq_true rfl) (Nat.le_of_ble_eq_true rfl) rfl dX1_joined_65
set_option maxHeartbeats 4000000 in
set_option maxRecDepth 100000 in
theorem t_Law_holds (l : Launch) (hfl : l.stackTraces = false) (G : wG) (N : Nat) (this : Nat) (a0 : Int32) (a1 : Int32) (a2 : Nat) (a3 : Int32) (a4 : Int32) (M : Mem) (r : Rho) : Ctr l yX1_holds (wWs yX1_holds cX1_holds 9 (some .boolean)) rm_Law_holds rm_Law_holds.cells rm_Law_holds.slots G [.ref this, .int a0, .int a1, .ref a2, .int a3, .int a4] M r ((f_Law_holds N this a0 a1 a2 a3 a4 M).map (fun z => (.inl (some (.int z.1)), z.2, r))) := by
  refine Ctr.ofF (own := "CheekTown$Law") (by decide +kernel) hfl rfl (Nat.le_of_ble_eq_true rfl) (fun p e s m args below meth c E hno hr hnm hw ls hl => ?_)
  obtain ⟨hx, hb, hts, hown, hml, hTT, -⟩ := id E
  have hl : lv_has ls 9 [(0, .ref this), (1, .int a0), (2, .int a1), (3, .ref a2), (4, .int a3), (5, .int a4)] := hl
  obtain ⟨H, hH⟩ : ∃ H, H = s.heap := ⟨_, rfl⟩
  obtain ⟨locs, hlo⟩ : ∃ L : List Loc, L = [] := ⟨_, rfl⟩
  rw [← hH, ← hlo]
  rw [← hlo] at hw
  replace hw : w_W G M r s H locs := by rw [hH]; exact hw
  have w188 : ∀ (M : Mem) (H : Heap) (locs : List Loc) (ls : Array Slot), w_W G M r s H locs → lv_has ls 9 [(0, .ref this)] → W p l e rm_Law_holds s m args below meth c H locs 0 0 (PQ G below args s rm_Law_holds.cells rm_Law_holds.slots (fun z => (.inl (some (.int z.1)), z.2, r)) (f_Law_holds_188 N this a0 a1 a2 a3 a4 M)) (F0 m 188 ls []) := by
    intro M H locs ls hw hl
    unfold f_Law_holds_188
    refine lv_aload_n hx hb dX1_holds_188 rfl (lv_at hl 0 rfl) ?_
    refine gx_getR E hw kF_Law_18_1 (by decide) dX1_holds_189 (fun v11 _ => ?_)
    refine lv_iconst (v := 0) hx hb dX1_holds_192 (by decide) ?_
    refine gx_iald E hw dX1_holds_193 (fun v12 _ => ?_)
    refine cx_if_eq (tgt := 201) E dX1_holds_194 (by decide) (fun _ => ?_) (fun _ => ?_)
    · refine lv_iconst (v := 0) hx hb dX1_holds_201 (by decide) ?_
      exact p_zret E hw hr (by decide) (Nat.le_of_ble_eq_true rfl) (Nat.le_of_ble_eq_true rfl) rfl dX1_holds_202
    · refine lv_iconst (v := 1) hx hb dX1_holds_197 (by decide) ?_
      refine lv_goto (tgt := 202) hx hb dX1_holds_198 (by decide) ?_
      exact p_zret E hw hr (by decide) (Nat.le_of_ble_eq_true rfl) (Nat.le_of_ble_eq_true rfl) rfl dX1_holds_202
  have w136 : ∀ (k13 : Int32 → Int32 → Mem → Option (Int32 × Mem)) (hk13 : ∀ (x6 : Int32) (x7 : Int32) (M : Mem) (H : Heap) (locs : List Loc) (ls : Array Slot), w_W G M r s H locs → lv_has ls 9 [(0, .ref this), (2, .int a1), (3, .ref a2), (4, .int a3), (5, .int a4), (6, .int x6), (7, .int x7)] → W p l e rm_Law_holds s m args below meth c H locs 0 0 (PQ G below args s rm_Law_holds.cells rm_Law_holds.slots (fun z => (.inl (some (.int z.1)), z.2, r)) (k13 x6 x7 M)) (F0 m 13 ls [])) (x6 : Int32) (x7 : Int32) (x8 : Int32) (M : Mem) (H : Heap) (locs : List Loc) (ls : Array Slot), w_W G M r s H locs → lv_has ls 9 [(0, .ref this), (2, .int a1), (3, .ref a2), (4, .int a3), (5, .int a4), (6, .int x6), (7, .int x7), (8, .int x8)] → W p l e rm_Law_holds s m args below meth c H locs 0 0 (PQ G below args s rm_Law_holds.cells rm_Law_holds.slots (fun z => (.inl (some (.int z.1)), z.2, r)) (f_Law_holds_136 N this a0 a1 a2 a3 a4 k13 x6 x7 x8 M)) (F0 m 136 ls []) := by
    intro k13 hk13 x6 x7 x8 M H locs ls hw hl
    unfold f_Law_holds_136
    refine lv_iload hx hb dX1_holds_136 (lv_at hl 7 rfl) ?_
    refine lv_bipush (v := 9) hx hb dX1_holds_138 (by decide) ?_
    refine cx_icmp_le (tgt := 182) E dX1_holds_140 (by decide) (fun _ => ?_) (fun _ => ?_)
    · refine lv_iinc (v := x7 + 1) (lv' := [(7, .int (x7 + 1)), (0, .ref this), (2, .int a1), (3, .ref a2), (4, .int a3), (5, .int a4), (6, .int x6), (8, .int x8)]) hx hb dX1_holds_182 hl (k := 6) rfl rfl (by decide) rfl (fun ls hl => ?_)
      refine lv_goto (tgt := 13) hx hb dX1_holds_185 (by decide) ?_
      exact hk13 x6 (x7 + 1) M _ _ _ hw (lv_sub hl [1, 2, 3, 4, 5, 6, 0] rfl)
    · refine lv_iload hx hb dX1_holds_143 (lv_at hl 5 rfl) ?_
      refine lv_iconst (v := 2) hx hb dX1_holds_145 (by decide) ?_
      refine cx_icmp_lt (tgt := 182) E dX1_holds_146 (by decide) (fun _ => ?_) (fun _ => ?_)
      · refine lv_iinc (v := x7 + 1) (lv' := [(7, .int (x7 + 1)), (0, .ref this), (2, .int a1), (3, .ref a2), (4, .int a3), (5, .int a4), (6, .int x6), (8, .int x8)]) hx hb dX1_holds_182 hl (k := 6) rfl rfl (by decide) rfl (fun ls hl => ?_)
        refine lv_goto (tgt := 13) hx hb dX1_holds_185 (by decide) ?_
        exact hk13 x6 (x7 + 1) M _ _ _ hw (lv_sub hl [1, 2, 3, 4, 5, 6, 0] rfl)
      · refine lv_iinc (v := x6 + (-1)) (lv' := [(6, .int (x6 + (-1))), (0, .ref this), (2, .int a1), (3, .ref a2), (4, .int a3), (5, .int a4), (7, .int x7), (8, .int x8)]) hx hb dX1_holds_149 hl (k := 5) rfl rfl (by decide) rfl (fun ls hl => ?_)
        refine lv_aload_n hx hb dX1_holds_152 rfl (lv_at hl 1 rfl) ?_
        refine gx_getR E hw kF_Law_18_1 (by decide) dX1_holds_153 (fun v18 _ => ?_)
        refine lv_iload hx hb dX1_holds_156 (lv_at hl 0 rfl) ?_
        refine lv_iconst (v := 1) hx hb dX1_holds_158 (by decide) ?_
        refine lv_isub hx hb dX1_holds_159 ?_
        refine lv_iload hx hb dX1_holds_160 (lv_at hl 7 rfl) ?_
        refine lv_aload_n hx hb dX1_holds_162 rfl (lv_at hl 1 rfl) ?_
        refine gx_getR E hw kF_Law_18_1 (by decide) dX1_holds_163 (fun v19 _ => ?_)
        refine lv_iload hx hb dX1_holds_166 (lv_at hl 0 rfl) ?_
        refine lv_iconst (v := 1) hx hb dX1_holds_168 (by decide) ?_
        refine lv_isub hx hb dX1_holds_169 ?_
        refine gx_iald E hw dX1_holds_170 (fun v20 _ => ?_)
        refine lv_aload_n hx hb dX1_holds_171 rfl (lv_at hl 1 rfl) ?_
        refine gx_getR E hw kF_Law_18_1 (by decide) dX1_holds_172 (fun v21 _ => ?_)
        refine lv_iload hx hb dX1_holds_175 (lv_at hl 0 rfl) ?_
        refine gx_iald E hw dX1_holds_177 (fun v22 _ => ?_)
        refine W_bind fun z23 hz => ?_
        refine w_after (cells1 := 0) (slots1 := 0) (w_runS E kS_Law_48 kc_X1_joined (t_Law_joined l hfl G x8 v20 v22 M r ((fun z => (.inl (some (.int z)), M, r)) z23) (by rw [hz]; rfl)) ⟨Nat.le_of_ble_eq_true rfl, Nat.le_of_ble_eq_true rfl⟩ hw rfl hl.1 rfl (Nat.le_of_ble_eq_true rfl) dX1_holds_178 ⟨Nat.le_of_ble_eq_true rfl, Nat.le_of_ble_eq_true rfl⟩) hw rfl (Nat.le_of_ble_eq_true rfl) (Nat.le_of_ble_eq_true rfl) (fun H locs hw => ?_)
        refine W.eq (g2 := F0 m 181 ls [.int z23, .int ((x6 + (-1)) - 1), .ref v18]) rfl ?_
        have hw : w_W G M r s H locs := hw
        refine gx_iast E hw dX1_holds_181 (fun M24 H locs _ hw => ?_)
        refine lv_iinc (v := x7 + 1) (lv' := [(7, .int (x7 + 1)), (6, .int (x6 + (-1))), (0, .ref this), (2, .int a1), (3, .ref a2), (4, .int a3), (5, .int a4), (8, .int x8)]) hx hb dX1_holds_182 hl (k := 6) rfl rfl (by decide) rfl (fun ls hl => ?_)
        refine lv_goto (tgt := 13) hx hb dX1_holds_185 (by decide) ?_
        exact hk13 (x6 + (-1)) (x7 + 1) M24 _ _ _ hw (lv_sub hl [2, 3, 4, 5, 6, 1, 0] rfl)
  have w100 : ∀ (k13 : Int32 → Int32 → Mem → Option (Int32 × Mem)) (hk13 : ∀ (x6 : Int32) (x7 : Int32) (M : Mem) (H : Heap) (locs : List Loc) (ls : Array Slot), w_W G M r s H locs → lv_has ls 9 [(0, .ref this), (2, .int a1), (3, .ref a2), (4, .int a3), (5, .int a4), (6, .int x6), (7, .int x7)] → W p l e rm_Law_holds s m args below meth c H locs 0 0 (PQ G below args s rm_Law_holds.cells rm_Law_holds.slots (fun z => (.inl (some (.int z.1)), z.2, r)) (k13 x6 x7 M)) (F0 m 13 ls [])) (x6 : Int32) (x7 : Int32) (x8 : Int32) (M : Mem) (H : Heap) (locs : List Loc) (ls : Array Slot), w_W G M r s H locs → lv_has ls 9 [(0, .ref this), (2, .int a1), (3, .ref a2), (4, .int a3), (5, .int a4), (6, .int x6), (7, .int x7), (8, .int x8)] → W p l e rm_Law_holds s m args below meth c H locs 0 0 (PQ G below args s rm_Law_holds.cells rm_Law_holds.slots (fun z => (.inl (some (.int z.1)), z.2, r)) (f_Law_holds_100 N this a0 a1 a2 a3 a4 k13 x6 x7 x8 M)) (F0 m 100 ls []) := by
    intro k13 hk13 x6 x7 x8 M H locs ls hw hl
    unfold f_Law_holds_100
    refine lv_iload hx hb dX1_holds_100 (lv_at hl 7 rfl) ?_
    refine lv_bipush (v := 9) hx hb dX1_holds_102 (by decide) ?_
    refine cx_icmp_ne (tgt := 136) E dX1_holds_104 (by decide) (fun _ => ?_) (fun _ => ?_)
    · exact w136 k13 hk13 x6 x7 x8 M _ _ _ hw (lv_sub hl [0, 1, 2, 3, 4, 5, 6, 7] rfl)
    · refine lv_iload hx hb dX1_holds_107 (lv_at hl 5 rfl) ?_
      refine lv_iconst (v := 1) hx hb dX1_holds_109 (by decide) ?_
      refine cx_icmp_lt (tgt := 136) E dX1_holds_110 (by decide) (fun _ => ?_) (fun _ => ?_)
      · exact w136 k13 hk13 x6 x7 x8 M _ _ _ hw (lv_sub hl [0, 1, 2, 3, 4, 5, 6, 7] rfl)
      · refine lv_aload_n hx hb dX1_holds_113 rfl (lv_at hl 0 rfl) ?_
        refine gx_getR E hw kF_Law_18_1 (by decide) dX1_holds_114 (fun v13 _ => ?_)
        refine lv_iload hx hb dX1_holds_117 (lv_at hl 5 rfl) ?_
        refine lv_iconst (v := 1) hx hb dX1_holds_119 (by decide) ?_
        refine lv_isub hx hb dX1_holds_120 ?_
        refine lv_iconst (v := 1) hx hb dX1_holds_121 (by decide) ?_
        refine lv_aload_n hx hb dX1_holds_122 rfl (lv_at hl 0 rfl) ?_
        refine gx_getR E hw kF_Law_18_1 (by decide) dX1_holds_123 (fun v14 _ => ?_)
        refine lv_iload hx hb dX1_holds_126 (lv_at hl 5 rfl) ?_
        refine lv_iconst (v := 1) hx hb dX1_holds_128 (by decide) ?_
        refine lv_isub hx hb dX1_holds_129 ?_
        refine gx_iald E hw dX1_holds_130 (fun v15 _ => ?_)
        refine lv_isub hx hb dX1_holds_131 ?_
        refine gx_iast E hw dX1_holds_132 (fun M16 H locs _ hw => ?_)
        refine lv_goto (tgt := 182) hx hb dX1_holds_133 (by decide) ?_
        refine lv_iinc (v := x7 + 1) (lv' := [(7, .int (x7 + 1)), (0, .ref this), (2, .int a1), (3, .ref a2), (4, .int a3), (5, .int a4), (6, .int x6), (8, .int x8)]) hx hb dX1_holds_182 hl (k := 6) rfl rfl (by decide) rfl (fun ls hl => ?_)
        refine lv_goto (tgt := 13) hx hb dX1_holds_185 (by decide) ?_
        exact hk13 x6 (x7 + 1) M16 _ _ _ hw (lv_sub hl [1, 2, 3, 4, 5, 6, 0] rfl)
  have w93 : ∀ (k13 : Int32 → Int32 → Mem → Option (Int32 × Mem)) (hk13 : ∀ (x6 : Int32) (x7 : Int32) (M : Mem) (H : Heap) (locs : List Loc) (ls : Array Slot), w_W G M r s H locs → lv_has ls 9 [(0, .ref this), (2, .int a1), (3, .ref a2), (4, .int a3), (5, .int a4), (6, .int x6), (7, .int x7)] → W p l e rm_Law_holds s m args below meth c H locs 0 0 (PQ G below args s rm_Law_holds.cells rm_Law_holds.slots (fun z => (.inl (some (.int z.1)), z.2, r)) (k13 x6 x7 M)) (F0 m 13 ls [])) (x6 : Int32) (x7 : Int32) (y0 : Nat) (y1 : Int32) (y2 : Int32) (M : Mem) (H : Heap) (locs : List Loc) (ls : Array Slot), w_W G M r s H locs → lv_has ls 9 [(0, .ref this), (2, .int a1), (3, .ref a2), (4, .int a3), (5, .int a4), (6, .int x6), (7, .int x7)] → W p l e rm_Law_holds s m args below meth c H locs 0 0 (PQ G below args s rm_Law_holds.cells rm_Law_holds.slots (fun z => (.inl (some (.int z.1)), z.2, r)) (f_Law_holds_93 N this a0 a1 a2 a3 a4 k13 x6 x7 y0 y1 y2 M)) (F0 m 93 ls [.int y2, .int y1, .ref y0]) := by
    intro k13 hk13 x6 x7 y0 y1 y2 M H locs ls hw hl
    unfold f_Law_holds_93
    refine gx_iast E hw dX1_holds_93 (fun M17 H locs _ hw => ?_)
    refine lv_iinc (v := x6 + 1) (lv' := [(6, .int (x6 + 1)), (0, .ref this), (2, .int a1), (3, .ref a2), (4, .int a3), (5, .int a4), (7, .int x7)]) hx hb dX1_holds_94 hl (k := 5) rfl rfl (by decide) rfl (fun ls hl => ?_)
    refine lv_goto (tgt := 182) hx hb dX1_holds_97 (by decide) ?_
    refine lv_iinc (v := x7 + 1) (lv' := [(7, .int (x7 + 1)), (6, .int (x6 + 1)), (0, .ref this), (2, .int a1), (3, .ref a2), (4, .int a3), (5, .int a4)]) hx hb dX1_holds_182 hl (k := 6) rfl rfl (by decide) rfl (fun ls hl => ?_)
    refine lv_goto (tgt := 13) hx hb dX1_holds_185 (by decide) ?_
    exact hk13 (x6 + 1) (x7 + 1) M17 _ _ _ hw (lv_sub hl [2, 3, 4, 5, 6, 1, 0] rfl)
  have w13 : ∀ (n : Nat) (x6 : Int32) (x7 : Int32) (M : Mem) (H : Heap) (locs : List Loc) (ls : Array Slot), w_W G M r s H locs → lv_has ls 9 [(0, .ref this), (2, .int a1), (3, .ref a2), (4, .int a3), (5, .int a4), (6, .int x6), (7, .int x7)] → W p l e rm_Law_holds s m args below meth c H locs 0 0 (PQ G below args s rm_Law_holds.cells rm_Law_holds.slots (fun z => (.inl (some (.int z.1)), z.2, r)) (f_Law_holds_13 N this a0 a1 a2 a3 a4 n x6 x7 M)) (F0 m 13 ls []) := by
    intro n
    induction n with
    | zero => intros; exact W_none
    | succ n ih =>
      intro x6 x7 M H locs ls hw hl
      rw [f_Law_holds_13]
      refine lv_iload hx hb dX1_holds_13 (lv_at hl 6 rfl) ?_
      refine lv_iload_n hx hb dX1_holds_15 rfl (lv_at hl 1 rfl) ?_
      refine cx_icmp_ge (tgt := 188) E dX1_holds_16 (by decide) (fun _ => ?_) (fun _ => ?_)
      · exact w188  M _ _ _ hw (lv_sub hl [0] rfl)
      · refine lv_iload hx hb dX1_holds_19 (lv_at hl 6 rfl) ?_
        refine lv_aload_n hx hb dX1_holds_21 rfl (lv_at hl 0 rfl) ?_
        refine gx_getR E hw kF_Law_27_1 (by decide) dX1_holds_22 (fun v1 _ => ?_)
        refine gx_alen E hw dX1_holds_25 (fun v2 _ => ?_)
        refine cx_icmp_ge (tgt := 188) E dX1_holds_26 (by decide) (fun _ => ?_) (fun _ => ?_)
        · exact w188  M _ _ _ hw (lv_sub hl [0] rfl)
        · refine lv_iload hx hb dX1_holds_29 (lv_at hl 6 rfl) ?_
          refine lv_aload_n hx hb dX1_holds_31 rfl (lv_at hl 0 rfl) ?_
          refine gx_getR E hw kF_Law_30_1 (by decide) dX1_holds_32 (fun v3 _ => ?_)
          refine gx_alen E hw dX1_holds_35 (fun v4 _ => ?_)
          refine cx_icmp_ge (tgt := 188) E dX1_holds_36 (by decide) (fun _ => ?_) (fun _ => ?_)
          · exact w188  M _ _ _ hw (lv_sub hl [0] rfl)
          · refine lv_aload_n hx hb dX1_holds_39 rfl (lv_at hl 0 rfl) ?_
            refine gx_getR E hw kF_Law_27_1 (by decide) dX1_holds_40 (fun v5 _ => ?_)
            refine lv_iload hx hb dX1_holds_43 (lv_at hl 6 rfl) ?_
            refine gx_iald E hw dX1_holds_45 (fun v6 _ => ?_)
            refine lv_istore (lv' := [(8, .int v6), (0, .ref this), (2, .int a1), (3, .ref a2), (4, .int a3), (5, .int a4), (6, .int x6), (7, .int x7)]) hx hb dX1_holds_46 hl (by decide) rfl (fun ls hl => ?_)
            refine lv_iload hx hb dX1_holds_48 (lv_at hl 0 rfl) ?_
            refine lv_bipush (v := 9) hx hb dX1_holds_50 (by decide) ?_
            refine cx_icmp_ge (tgt := 100) E dX1_holds_52 (by decide) (fun _ => ?_) (fun _ => ?_)
            · exact w100 (f_Law_holds_13 N this a0 a1 a2 a3 a4 n) ih x6 x7 v6 M _ _ _ hw (lv_sub hl [1, 2, 3, 4, 5, 6, 7, 0] rfl)
            · refine lv_iload hx hb dX1_holds_55 (lv_at hl 6 rfl) ?_
              refine lv_bipush (v := 32) hx hb dX1_holds_57 (by decide) ?_
              refine cx_icmp_ge (tgt := 100) E dX1_holds_59 (by decide) (fun _ => ?_) (fun _ => ?_)
              · exact w100 (f_Law_holds_13 N this a0 a1 a2 a3 a4 n) ih x6 x7 v6 M _ _ _ hw (lv_sub hl [1, 2, 3, 4, 5, 6, 7, 0] rfl)
              · refine lv_aload_n hx hb dX1_holds_62 rfl (lv_at hl 1 rfl) ?_
                refine gx_getR E hw kF_Law_18_1 (by decide) dX1_holds_63 (fun v7 _ => ?_)
                refine lv_iload hx hb dX1_holds_66 (lv_at hl 6 rfl) ?_
                refine lv_iload hx hb dX1_holds_68 (lv_at hl 0 rfl) ?_
                refine cx_if_ne (tgt := 83) E dX1_holds_70 (by decide) (fun _ => ?_) (fun _ => ?_)
                · refine lv_iload hx hb dX1_holds_83 (lv_at hl 0 rfl) ?_
                  refine lv_aload_n hx hb dX1_holds_85 rfl (lv_at hl 3 rfl) ?_
                  refine lv_iload hx hb dX1_holds_86 (lv_at hl 4 rfl) ?_
                  refine lv_iload hx hb dX1_holds_88 (lv_at hl 5 rfl) ?_
                  refine W_bind fun z8 hz => ?_
                  refine w_after (cells1 := 0) (slots1 := 0) (w_runS E kS_Law_44 kc_X1_valueOf (t_Law_valueOf l hfl G v6 a2 a3 a4 M r ((fun z => (.inl (some (.int z)), M, r)) z8) (by rw [hz]; rfl)) ⟨Nat.le_of_ble_eq_true rfl, Nat.le_of_ble_eq_true rfl⟩ hw rfl hl.1 rfl (Nat.le_of_ble_eq_true rfl) dX1_holds_90 ⟨Nat.le_of_ble_eq_true rfl, Nat.le_of_ble_eq_true rfl⟩) hw rfl (Nat.le_of_ble_eq_true rfl) (Nat.le_of_ble_eq_true rfl) (fun H locs hw => ?_)
                  refine W.eq (g2 := F0 m 93 ls [.int z8, .int x6, .ref v7]) rfl ?_
                  have hw : w_W G M r s H locs := hw
                  exact w93 (f_Law_holds_13 N this a0 a1 a2 a3 a4 n) ih x6 x7 v7 x6 z8 M _ _ _ hw (lv_sub hl [1, 2, 3, 4, 5, 6, 7] rfl)
                · refine lv_aload_n hx hb dX1_holds_73 rfl (lv_at hl 1 rfl) ?_
                  refine gx_getR E hw kF_Law_30_1 (by decide) dX1_holds_74 (fun v9 _ => ?_)
                  refine lv_iload hx hb dX1_holds_77 (lv_at hl 7 rfl) ?_
                  refine gx_iald E hw dX1_holds_79 (fun v10 _ => ?_)
                  refine lv_goto (tgt := 93) hx hb dX1_holds_80 (by decide) ?_
                  exact w93 (f_Law_holds_13 N this a0 a1 a2 a3 a4 n) ih x6 x7 v7 x6 v10 M _ _ _ hw (lv_sub hl [1, 2, 3, 4, 5, 6, 7] rfl)
  unfold f_Law_holds
  refine lv_iload_n hx hb dX1_holds_0 rfl (lv_at hl 1 rfl) ?_
  refine lv_iload_n hx hb dX1_holds_1 rfl (lv_at hl 2 rfl) ?_
  refine cx_icmp_ne (tgt := 7) E dX1_holds_2 (by decide) (fun _ => ?_) (fun _ => ?_)
  · refine lv_iconst (v := 0) hx hb dX1_holds_7 (by decide) ?_
    refine lv_istore (lv' := [(6, .int 0), (0, .ref this), (1, .int a0), (2, .int a1), (3, .ref a2), (4, .int a3), (5, .int a4)]) hx hb dX1_holds_8 hl (by decide) rfl (fun ls hl => ?_)
    refine lv_iload_n hx hb dX1_holds_10 rfl (lv_at hl 2 rfl) ?_
    refine lv_istore (lv' := [(7, .int a0), (6, .int 0), (0, .ref this), (1, .int a0), (2, .int a1), (3, .ref a2), (4, .int a3), (5, .int a4)]) hx hb dX1_holds_11 hl (by decide) rfl (fun ls hl => ?_)
    exact w13  N 0 a0 M _ _ _ hw (lv_sub hl [2, 4, 5, 6, 7, 1, 0] rfl)
  · refine lv_iconst (v := 1) hx hb dX1_holds_5 (by decide) ?_
    exact p_zret E hw hr (by decide) (Nat.le_of_ble_eq_true rfl) (Nat.le_of_ble_eq_true rfl) rfl dX1_holds_6
set_option maxHeartbeats 4000000 in
set_option maxRecDepth 100000 in
theorem t_Law_greetingFor (l : Launch) (hfl : l.stackTraces = false) (G : wG) (N : Nat) (this : Nat) (a0 : Nat) (a1 : Int32) (a2 : Int32) (M : Mem) (r : Rho) : Ctr l yX1_greetingFor (wWs yX1_greetingFor cX1_greetingFor 6 (some .int)) rm_Law_greetingFor rm_Law_greetingFor.cells rm_Law_greetingFor.slots G [.ref this, .ref a0, .int a1, .int a2] M r ((f_Law_greetingFor N this a0 a1 a2 M).map (fun z => (.inl (some (.int z.1)), z.2, r))) := by
  refine Ctr.ofF (own := "CheekTown$Law") (by decide +kernel) hfl rfl (Nat.le_of_ble_eq_true rfl) (fun p e s m args below meth c E hno hr hnm hw ls hl => ?_)
  obtain ⟨hx, hb, hts, hown, hml, hTT, -⟩ := id E
  have hl : lv_has ls 6 [(0, .ref this), (1, .ref a0), (2, .int a1), (3, .int a2)] := hl
  obtain ⟨H, hH⟩ : ∃ H, H = s.heap := ⟨_, rfl⟩
  obtain ⟨locs, hlo⟩ : ∃ L : List Loc, L = [] := ⟨_, rfl⟩
  rw [← hH, ← hlo]
  rw [← hlo] at hw
  replace hw : w_W G M r s H locs := by rw [hH]; exact hw
  have w6 : ∀ (n : Nat) (x4 : Int32) (x5 : Int32) (M : Mem) (H : Heap) (locs : List Loc) (ls : Array Slot), w_W G M r s H locs → lv_has ls 6 [(0, .ref this), (1, .ref a0), (2, .int a1), (3, .int a2), (4, .int x4), (5, .int x5)] → W p l e rm_Law_greetingFor s m args below meth c H locs 0 0 (PQ G below args s rm_Law_greetingFor.cells rm_Law_greetingFor.slots (fun z => (.inl (some (.int z.1)), z.2, r)) (f_Law_greetingFor_6 N this a0 a1 a2 n x4 x5 M)) (F0 m 6 ls []) := by
    intro n
    induction n with
    | zero => intros; exact W_none
    | succ n ih =>
      intro x4 x5 M H locs ls hw hl
      rw [f_Law_greetingFor_6]
      refine lv_iload hx hb dX1_greetingFor_6 (lv_at hl 5 rfl) ?_
      refine lv_aload_n hx hb dX1_greetingFor_8 rfl (lv_at hl 0 rfl) ?_
      refine gx_getI E hw kF_Law_37_1 (by decide) dX1_greetingFor_9 (fun v1 _ => ?_)
      refine cx_icmp_ge (tgt := 64) E dX1_greetingFor_12 (by decide) (fun _ => ?_) (fun _ => ?_)
      · refine lv_iconst (v := (-1)) hx hb dX1_greetingFor_64 (by decide) ?_
        exact p_iret E hw hr (Nat.le_of_ble_eq_true rfl) (Nat.le_of_ble_eq_true rfl) rfl dX1_greetingFor_65
      · refine lv_iload hx hb dX1_greetingFor_15 (lv_at hl 5 rfl) ?_
        refine lv_bipush (v := 12) hx hb dX1_greetingFor_17 (by decide) ?_
        refine cx_icmp_ge (tgt := 64) E dX1_greetingFor_19 (by decide) (fun _ => ?_) (fun _ => ?_)
        · refine lv_iconst (v := (-1)) hx hb dX1_greetingFor_64 (by decide) ?_
          exact p_iret E hw hr (Nat.le_of_ble_eq_true rfl) (Nat.le_of_ble_eq_true rfl) rfl dX1_greetingFor_65
        · refine lv_aload_n hx hb dX1_greetingFor_22 rfl (lv_at hl 0 rfl) ?_
          refine lv_iload hx hb dX1_greetingFor_23 (lv_at hl 4 rfl) ?_
          refine lv_aload_n hx hb dX1_greetingFor_25 rfl (lv_at hl 0 rfl) ?_
          refine gx_getR E hw kF_Law_15_1 (by decide) dX1_greetingFor_26 (fun v2 _ => ?_)
          refine lv_iload hx hb dX1_greetingFor_29 (lv_at hl 5 rfl) ?_
          refine gx_iald E hw dX1_greetingFor_31 (fun v3 _ => ?_)
          refine lv_aload_n hx hb dX1_greetingFor_32 rfl (lv_at hl 1 rfl) ?_
          refine lv_iload_n hx hb dX1_greetingFor_33 rfl (lv_at hl 2 rfl) ?_
          refine lv_iload_n hx hb dX1_greetingFor_34 rfl (lv_at hl 3 rfl) ?_
          refine W_bind fun _ hck => ?_
          refine W_bind fun z4 hz => ?_
          refine w_after (cells1 := 0) (slots1 := 0) (w_runV E kV_Law_40 kc_X1_holds (t_Law_holds l hfl G N this x4 v3 a0 a1 a2 M r ((fun z => (.inl (some (.int z.1)), z.2, r)) z4) (by rw [hz]; rfl)) ⟨Nat.le_of_ble_eq_true rfl, Nat.le_of_ble_eq_true rfl⟩ hw (w_recv E hw (by decide) ⟨_, _, rfl⟩ (ck_ok hck)) rfl hl.1 rfl (Nat.le_of_ble_eq_true rfl) dX1_greetingFor_35 ⟨Nat.le_of_ble_eq_true rfl, Nat.le_of_ble_eq_true rfl⟩) hw rfl (Nat.le_of_ble_eq_true rfl) (Nat.le_of_ble_eq_true rfl) (fun H locs hw => ?_)
          refine W.eq (g2 := F0 m 38 ls [.int z4.1]) rfl ?_
          have hw : w_W G z4.2 r s H locs := hw
          refine cx_if_eq (tgt := 49) E dX1_greetingFor_38 (by decide) (fun _ => ?_) (fun _ => ?_)
          · refine lv_aload_n hx hb dX1_greetingFor_49 rfl (lv_at hl 0 rfl) ?_
            refine gx_getR E hw kF_Law_15_1 (by decide) dX1_greetingFor_50 (fun v5 _ => ?_)
            refine lv_iload hx hb dX1_greetingFor_53 (lv_at hl 5 rfl) ?_
            refine gx_iald E hw dX1_greetingFor_55 (fun v6 _ => ?_)
            refine lv_istore (lv' := [(4, .int v6), (0, .ref this), (1, .ref a0), (2, .int a1), (3, .int a2), (5, .int x5)]) hx hb dX1_greetingFor_56 hl (by decide) rfl (fun ls hl => ?_)
            refine lv_iinc (v := x5 + 1) (lv' := [(5, .int (x5 + 1)), (4, .int v6), (0, .ref this), (1, .ref a0), (2, .int a1), (3, .int a2)]) hx hb dX1_greetingFor_58 hl (k := 5) rfl rfl (by decide) rfl (fun ls hl => ?_)
            refine lv_goto (tgt := 6) hx hb dX1_greetingFor_61 (by decide) ?_
            exact ih v6 (x5 + 1) z4.2 _ _ _ hw (lv_sub hl [2, 3, 4, 5, 1, 0] rfl)
          · refine lv_aload_n hx hb dX1_greetingFor_41 rfl (lv_at hl 0 rfl) ?_
            refine gx_getR E hw kF_Law_11_1 (by decide) dX1_greetingFor_42 (fun v7 _ => ?_)
            refine lv_iload hx hb dX1_greetingFor_45 (lv_at hl 5 rfl) ?_
            refine gx_iald E hw dX1_greetingFor_47 (fun v8 _ => ?_)
            exact p_iret E hw hr (Nat.le_of_ble_eq_true rfl) (Nat.le_of_ble_eq_true rfl) rfl dX1_greetingFor_48
  unfold f_Law_greetingFor
  refine lv_iconst (v := 0) hx hb dX1_greetingFor_0 (by decide) ?_
  refine lv_istore (lv' := [(4, .int 0), (0, .ref this), (1, .ref a0), (2, .int a1), (3, .int a2)]) hx hb dX1_greetingFor_1 hl (by decide) rfl (fun ls hl => ?_)
  refine lv_iconst (v := 0) hx hb dX1_greetingFor_3 (by decide) ?_
  refine lv_istore (lv' := [(5, .int 0), (4, .int 0), (0, .ref this), (1, .ref a0), (2, .int a1), (3, .int a2)]) hx hb dX1_greetingFor_4 hl (by decide) rfl (fun ls hl => ?_)
  exact w6  N 0 0 M _ _ _ hw (lv_sub hl [2, 3, 4, 5, 1, 0] rfl)
set_option maxHeartbeats 4000000 in
set_option maxRecDepth 100000 in
theorem t_Town_greetingFor (l : Launch) (hfl : l.stackTraces = false) (G : wG) (N : Nat) (this : Nat) (a0 : Int32) (a1 : Int32) (M : Mem) (r : Rho) : Ctr l yX8_greetingFor (wWs yX8_greetingFor cX8_greetingFor 5 (some .int)) rm_Town_greetingFor rm_Town_greetingFor.cells rm_Town_greetingFor.slots G [.ref this, .int a0, .int a1] M r ((f_Town_greetingFor N this a0 a1 M).map (fun z => (.inl (some (.int z.1)), z.2, r))) := by
  refine Ctr.ofF (own := "CheekTown$Town") (by decide +kernel) hfl rfl (Nat.le_of_ble_eq_true rfl) (fun p e s m args below meth c E hno hr hnm hw ls hl => ?_)
  obtain ⟨hx, hb, hts, hown, hml, hTT, -⟩ := id E
  have hl : lv_has ls 5 [(0, .ref this), (1, .int a0), (2, .int a1)] := hl
  obtain ⟨H, hH⟩ : ∃ H, H = s.heap := ⟨_, rfl⟩
  obtain ⟨locs, hlo⟩ : ∃ L : List Loc, L = [] := ⟨_, rfl⟩
  rw [← hH, ← hlo]
  rw [← hlo] at hw
  replace hw : w_W G M r s H locs := by rw [hH]; exact hw
  have w21 : ∀ (y0 : Int32) (M : Mem) (H : Heap) (locs : List Loc) (ls : Array Slot), w_W G M r s H locs → lv_has ls 5 [(0, .ref this), (1, .int a0), (2, .int a1)] → W p l e rm_Town_greetingFor s m args below meth c H locs 0 0 (PQ G below args s rm_Town_greetingFor.cells rm_Town_greetingFor.slots (fun z => (.inl (some (.int z.1)), z.2, r)) (f_Town_greetingFor_21 N this a0 a1 y0 M)) (F0 m 21 ls [.int y0]) := by
    intro y0 M H locs ls hw hl
    unfold f_Town_greetingFor_21
    refine lv_istore_n (lv' := [(3, .int y0), (0, .ref this), (1, .int a0), (2, .int a1)]) hx hb dX8_greetingFor_21 rfl hl (by decide) rfl (fun ls hl => ?_)
    refine lv_iload_n hx hb dX8_greetingFor_22 rfl (lv_at hl 0 rfl) ?_
    refine lv_iconst (v := (-1)) hx hb dX8_greetingFor_23 (by decide) ?_
    refine cx_icmp_eq (tgt := 29) E dX8_greetingFor_24 (by decide) (fun _ => ?_) (fun _ => ?_)
    · refine lv_aload_n hx hb dX8_greetingFor_29 rfl (lv_at hl 1 rfl) ?_
      refine gx_getR E hw kF_Town_20_7 (by decide) dX8_greetingFor_30 (fun v4 _ => ?_)
      refine lv_iload_n hx hb dX8_greetingFor_33 rfl (lv_at hl 2 rfl) ?_
      refine gx_aald E hw (by decide) dX8_greetingFor_34 (fun v5 _ => ?_)
      refine gx_getR E hw kF_Town_116_5 (by decide) dX8_greetingFor_35 (fun v6 _ => ?_)
      refine lv_iload_n hx hb dX8_greetingFor_38 rfl (lv_at hl 3 rfl) ?_
      refine gx_iald E hw dX8_greetingFor_39 (fun v7 _ => ?_)
      refine lv_istore (lv' := [(4, .int v7), (3, .int y0), (0, .ref this), (1, .int a0), (2, .int a1)]) hx hb dX8_greetingFor_40 hl (by decide) rfl (fun ls hl => ?_)
      refine lv_iload hx hb dX8_greetingFor_42 (lv_at hl 0 rfl) ?_
      refine lv_iconst (v := (-1)) hx hb dX8_greetingFor_44 (by decide) ?_
      refine cx_icmp_eq (tgt := 53) E dX8_greetingFor_45 (by decide) (fun _ => ?_) (fun _ => ?_)
      · refine lv_aload_n hx hb dX8_greetingFor_53 rfl (lv_at hl 2 rfl) ?_
        refine gx_getR E hw kF_Town_20_7 (by decide) dX8_greetingFor_54 (fun v8 _ => ?_)
        refine lv_iload_n hx hb dX8_greetingFor_57 rfl (lv_at hl 3 rfl) ?_
        refine gx_aald E hw (by decide) dX8_greetingFor_58 (fun v9 _ => ?_)
        refine gx_getI E hw kF_Town_90_5 (by decide) dX8_greetingFor_59 (fun v10 _ => ?_)
        exact p_iret E hw hr (Nat.le_of_ble_eq_true rfl) (Nat.le_of_ble_eq_true rfl) rfl dX8_greetingFor_62
      · refine lv_iload hx hb dX8_greetingFor_48 (lv_at hl 0 rfl) ?_
        refine lv_goto (tgt := 62) hx hb dX8_greetingFor_50 (by decide) ?_
        exact p_iret E hw hr (Nat.le_of_ble_eq_true rfl) (Nat.le_of_ble_eq_true rfl) rfl dX8_greetingFor_62
    · refine lv_iload_n hx hb dX8_greetingFor_27 rfl (lv_at hl 0 rfl) ?_
      exact p_iret E hw hr (Nat.le_of_ble_eq_true rfl) (Nat.le_of_ble_eq_true rfl) rfl dX8_greetingFor_28
  unfold f_Town_greetingFor
  refine lv_aload_n hx hb dX8_greetingFor_0 rfl (lv_at hl 0 rfl) ?_
  refine gx_getN E hw kF_Town_62_7 (by decide) dX8_greetingFor_1 (fun v1 _ => ?_)
  refine cx_nonnull (tgt := 11) E dX8_greetingFor_4 (by decide) (fun _ => ?_) (fun _ => ?_)
  · refine lv_aload_n hx hb dX8_greetingFor_11 rfl (lv_at hl 0 rfl) ?_
    refine gx_getR E hw kF_Town_62_7 (by decide) dX8_greetingFor_12 (fun v2 _ => ?_)
    refine lv_aload_n hx hb dX8_greetingFor_15 rfl (lv_at hl 0 rfl) ?_
    refine lv_iload_n hx hb dX8_greetingFor_16 rfl (lv_at hl 1 rfl) ?_
    refine lv_iload_n hx hb dX8_greetingFor_17 rfl (lv_at hl 2 rfl) ?_
    refine W_bind fun _ hck => ?_
    refine W_bind fun z3 hz => ?_
    refine w_after (cells1 := 0) (slots1 := 0) (w_runV E kV_Town_110 kc_X1_greetingFor (t_Law_greetingFor l hfl G N v2 this a0 a1 M r ((fun z => (.inl (some (.int z.1)), z.2, r)) z3) (by rw [hz]; rfl)) ⟨Nat.le_of_ble_eq_true rfl, Nat.le_of_ble_eq_true rfl⟩ hw (w_recv E hw (by decide) ⟨_, _, rfl⟩ (ck_ok hck)) rfl hl.1 rfl (Nat.le_of_ble_eq_true rfl) dX8_greetingFor_18 ⟨Nat.le_of_ble_eq_true rfl, Nat.le_of_ble_eq_true rfl⟩) hw rfl (Nat.le_of_ble_eq_true rfl) (Nat.le_of_ble_eq_true rfl) (fun H locs hw => ?_)
    refine W.eq (g2 := F0 m 21 ls [.int z3.1]) rfl ?_
    have hw : w_W G z3.2 r s H locs := hw
    exact w21  z3.1 z3.2 _ _ _ hw (lv_sub hl [0, 1, 2] rfl)
  · refine lv_iconst (v := (-1)) hx hb dX8_greetingFor_7 (by decide) ?_
    refine lv_goto (tgt := 21) hx hb dX8_greetingFor_8 (by decide) ?_
    exact w21  (-1) M _ _ _ hw (lv_sub hl [0, 1, 2] rfl)
set_option maxHeartbeats 4000000 in
set_option maxRecDepth 100000 in
theorem t_CT_will (l : Launch) (hfl : l.stackTraces = false) (G : wG) (N : Nat) (this : Nat) (a0 : Int32) (a1 : Int32) (M : Mem) (r : Rho) : Ctr l yX11_will (wWs yX11_will cX11_will 3 (some .int)) rm_CT_will rm_CT_will.cells rm_CT_will.slots G [.ref this, .int a0, .int a1] M r ((f_CT_will N this a0 a1 M).map (fun z => (z.1.elim (fun v => .inl (some (.int v))) .inr, z.2, r))) := by
  refine Ctr.ofF (own := "CheekTown") (by decide +kernel) hfl rfl (Nat.le_of_ble_eq_true rfl) (fun p e s m args below meth c E hno hr hnm hw ls hl => ?_)
  obtain ⟨hx, hb, hts, hown, hml, hTT, -⟩ := id E
  have hl : lv_has ls 3 [(0, .ref this), (1, .int a0), (2, .int a1)] := hl
  obtain ⟨H, hH⟩ : ∃ H, H = s.heap := ⟨_, rfl⟩
  obtain ⟨locs, hlo⟩ : ∃ L : List Loc, L = [] := ⟨_, rfl⟩
  rw [← hH, ← hlo]
  rw [← hlo] at hw
  replace hw : w_W G M r s H locs := by rw [hH]; exact hw
  unfold f_CT_will
  refine lv_aload_n hx hb dX11_will_0 rfl (lv_at hl 0 rfl) ?_
  refine lv_iload_n hx hb dX11_will_1 rfl (lv_at hl 1 rfl) ?_
  refine lv_iload_n hx hb dX11_will_2 rfl (lv_at hl 2 rfl) ?_
  refine W_bind fun _ hck => ?_
  refine W_bind fun z1 hz => ?_
  refine w_afterS (cells1 := 3) (slots1 := 18) (vv := (fun _ => none)) (w_runV E kV_CT_200 kc_X11_needTwo (t_CT_needTwo l hfl G this a0 a1 M r ((fun z => (z.1.elim (fun _ => .inl none) .inr, z.2, r)) z1) (by rw [hz]; rfl)) ⟨Nat.le_of_ble_eq_true rfl, Nat.le_of_ble_eq_true rfl⟩ hw (w_recv E hw (by decide) ⟨_, _, rfl⟩ (ck_ok hck)) rfl hl.1 rfl (Nat.le_of_ble_eq_true rfl) dX11_will_3 ⟨Nat.le_of_ble_eq_true rfl, Nat.le_of_ble_eq_true rfl⟩) hw rfl (Nat.le_of_ble_eq_true rfl) (Nat.le_of_ble_eq_true rfl) (fun v2 H locs _ hw => ?_) (fun E9 H locs q ce _ hw hce hcv hcl => w_out E hno hw hce hcv hcl (Nat.le_of_ble_eq_true rfl) (Nat.le_of_ble_eq_true rfl) rfl)
  refine W.eq (g2 := F0 m 6 ls []) rfl ?_
  have hw : w_W G z1.2 r s H locs := hw
  refine lv_aload_n hx hb dX11_will_6 rfl (lv_at hl 0 rfl) ?_
  refine gx_getR E hw kF_CT_20_10 (by decide) dX11_will_7 (fun v3 _ => ?_)
  refine lv_iload_n hx hb dX11_will_10 rfl (lv_at hl 1 rfl) ?_
  refine lv_iload_n hx hb dX11_will_11 rfl (lv_at hl 2 rfl) ?_
  refine W_bind fun _ hck => ?_
  refine W_bind fun z4 hz => ?_
  refine w_after (cells1 := 3) (slots1 := 18) (w_runV E kV_CT_218 kc_X8_greetingFor (t_Town_greetingFor l hfl G N v3 a0 a1 z1.2 r ((fun z => (.inl (some (.int z.1)), z.2, r)) z4) (by rw [hz]; rfl)) ⟨Nat.le_of_ble_eq_true rfl, Nat.le_of_ble_eq_true rfl⟩ hw (w_recv E hw (by decide) ⟨_, _, rfl⟩ (ck_ok hck)) rfl hl.1 rfl (Nat.le_of_ble_eq_true rfl) dX11_will_12 ⟨Nat.le_of_ble_eq_true rfl, Nat.le_of_ble_eq_true rfl⟩) hw rfl (Nat.le_of_ble_eq_true rfl) (Nat.le_of_ble_eq_true rfl) (fun H locs hw => ?_)
  refine W.eq (g2 := F0 m 15 ls [.int z4.1]) rfl ?_
  have hw : w_W G z4.2 r s H locs := hw
  exact p_iret E hw hr (Nat.le_of_ble_eq_true rfl) (Nat.le_of_ble_eq_true rfl) rfl dX11_will_15
set_option maxHeartbeats 4000000 in
set_option maxRecDepth 100000 in
theorem t_CT_rememberAct (l : Launch) (hfl : l.stackTraces = false) (G : wG) (N : Nat) (this : Nat) (M : Mem) (r : Rho) : Ctr l yX11_rememberAct (wWs yX11_rememberAct cX11_rememberAct 3 none) rm_CT_rememberAct rm_CT_rememberAct.cells rm_CT_rememberAct.slots G [.ref this] M r ((f_CT_rememberAct N this M).map (fun z => (.inl none, z, r))) := by
  refine Ctr.ofF (own := "CheekTown") (by decide +kernel) hfl rfl (Nat.le_of_ble_eq_true rfl) (fun p e s m args below meth c E hno hr hnm hw ls hl => ?_)
  obtain ⟨hx, hb, hts, hown, hml, hTT, -⟩ := id E
  have hl : lv_has ls 3 [(0, .ref this)] := hl
  obtain ⟨H, hH⟩ : ∃ H, H = s.heap := ⟨_, rfl⟩
  obtain ⟨locs, hlo⟩ : ∃ L : List Loc, L = [] := ⟨_, rfl⟩
  rw [← hH, ← hlo]
  rw [← hlo] at hw
  replace hw : w_W G M r s H locs := by rw [hH]; exact hw
  have w58 : ∀ (M : Mem) (H : Heap) (locs : List Loc) (ls : Array Slot), w_W G M r s H locs → lv_has ls 3 [(0, .ref this)] → W p l e rm_CT_rememberAct s m args below meth c H locs 0 0 (PQ G below args s rm_CT_rememberAct.cells rm_CT_rememberAct.slots (fun z => (.inl none, z, r)) (f_CT_rememberAct_58 N this M)) (F0 m 58 ls []) := by
    intro M H locs ls hw hl
    unfold f_CT_rememberAct_58
    refine lv_aload_n hx hb dX11_rememberAct_58 rfl (lv_at hl 0 rfl) ?_
    refine gx_getR E hw kF_CT_27_10 (by decide) dX11_rememberAct_59 (fun v4 _ => ?_)
    refine lv_aload_n hx hb dX11_rememberAct_62 rfl (lv_at hl 0 rfl) ?_
    refine gx_getI E hw kF_CT_88_10 (by decide) dX11_rememberAct_63 (fun v5 _ => ?_)
    refine gx_aald E hw (by decide) dX11_rememberAct_66 (fun v6 _ => ?_)
    refine lv_aload_n hx hb dX11_rememberAct_67 rfl (lv_at hl 0 rfl) ?_
    refine gx_getR E hw kF_CT_20_10 (by decide) dX11_rememberAct_68 (fun v7 _ => ?_)
    refine W_bind fun _ hck => ?_
    refine W_bind fun z8 hz => ?_
    refine w_after (cells1 := 0) (slots1 := 0) (w_runV E kV_CT_59 kc_X8_copyFrom (t_Town_copyFrom l hfl G N v6 v7 M r ((fun z => (.inl none, z, r)) z8) (by rw [hz]; rfl)) ⟨Nat.le_of_ble_eq_true rfl, Nat.le_of_ble_eq_true rfl⟩ hw (w_recv E hw (by decide) ⟨_, _, rfl⟩ (ck_ok hck)) rfl hl.1 rfl (Nat.le_of_ble_eq_true rfl) dX11_rememberAct_71 ⟨Nat.le_of_ble_eq_true rfl, Nat.le_of_ble_eq_true rfl⟩) hw rfl (Nat.le_of_ble_eq_true rfl) (Nat.le_of_ble_eq_true rfl) (fun H locs hw => ?_)
    refine W.eq (g2 := F0 m 74 ls []) rfl ?_
    have hw : w_W G z8 r s H locs := hw
    refine lv_aload_n hx hb dX11_rememberAct_74 rfl (lv_at hl 0 rfl) ?_
    refine lv_dup hx hb dX11_rememberAct_75 rfl ?_
    refine gx_getI E hw kF_CT_88_10 (by decide) dX11_rememberAct_76 (fun v9 _ => ?_)
    refine lv_iconst (v := 1) hx hb dX11_rememberAct_79 (by decide) ?_
    refine lv_iadd hx hb dX11_rememberAct_80 ?_
    refine gx_putI E hw kF_CT_88_10 kT_10_7 (by decide) dX11_rememberAct_81 (fun M10 H locs _ hw => ?_)
    exact p_vret E hw hr (Nat.le_of_ble_eq_true rfl) (Nat.le_of_ble_eq_true rfl) rfl dX11_rememberAct_84
  have w18 : ∀ (n : Nat) (x1 : Nat) (x2 : Int32) (M : Mem) (H : Heap) (locs : List Loc) (ls : Array Slot), w_W G M r s H locs → lv_has ls 3 [(0, .ref this), (1, .ref x1), (2, .int x2)] → W p l e rm_CT_rememberAct s m args below meth c H locs 0 0 (PQ G below args s rm_CT_rememberAct.cells rm_CT_rememberAct.slots (fun z => (.inl none, z, r)) (f_CT_rememberAct_18 N this n x1 x2 M)) (F0 m 18 ls []) := by
    intro n
    induction n with
    | zero => intros; exact W_none
    | succ n ih =>
      intro x1 x2 M H locs ls hw hl
      rw [f_CT_rememberAct_18]
      refine lv_iload_n hx hb dX11_rememberAct_18 rfl (lv_at hl 2 rfl) ?_
      refine lv_bipush (v := 12) hx hb dX11_rememberAct_19 (by decide) ?_
      refine cx_icmp_ge (tgt := 44) E dX11_rememberAct_21 (by decide) (fun _ => ?_) (fun _ => ?_)
      · refine lv_aload_n hx hb dX11_rememberAct_44 rfl (lv_at hl 0 rfl) ?_
        refine gx_getR E hw kF_CT_27_10 (by decide) dX11_rememberAct_45 (fun v11 _ => ?_)
        refine lv_bipush (v := 11) hx hb dX11_rememberAct_48 (by decide) ?_
        refine lv_aload_n hx hb dX11_rememberAct_50 rfl (lv_at hl 1 rfl) ?_
        refine gx_aast E hw (by decide) dX11_rememberAct_51 (fun M12 H locs _ hw => ?_)
        refine lv_aload_n hx hb dX11_rememberAct_52 rfl (lv_at hl 0 rfl) ?_
        refine lv_bipush (v := 11) hx hb dX11_rememberAct_53 (by decide) ?_
        refine gx_putI E hw kF_CT_88_10 kT_10_7 (by decide) dX11_rememberAct_55 (fun M13 H locs _ hw => ?_)
        exact w58  M13 _ _ _ hw (lv_sub hl [0] rfl)
      · refine lv_aload_n hx hb dX11_rememberAct_24 rfl (lv_at hl 0 rfl) ?_
        refine gx_getR E hw kF_CT_27_10 (by decide) dX11_rememberAct_25 (fun v14 _ => ?_)
        refine lv_iload_n hx hb dX11_rememberAct_28 rfl (lv_at hl 2 rfl) ?_
        refine lv_iconst (v := 1) hx hb dX11_rememberAct_29 (by decide) ?_
        refine lv_isub hx hb dX11_rememberAct_30 ?_
        refine lv_aload_n hx hb dX11_rememberAct_31 rfl (lv_at hl 0 rfl) ?_
        refine gx_getR E hw kF_CT_27_10 (by decide) dX11_rememberAct_32 (fun v15 _ => ?_)
        refine lv_iload_n hx hb dX11_rememberAct_35 rfl (lv_at hl 2 rfl) ?_
        refine gx_aald E hw (by decide) dX11_rememberAct_36 (fun v16 _ => ?_)
        refine gx_aast E hw (by decide) dX11_rememberAct_37 (fun M17 H locs _ hw => ?_)
        refine lv_iinc (v := x2 + 1) (lv' := [(2, .int (x2 + 1)), (0, .ref this), (1, .ref x1)]) hx hb dX11_rememberAct_38 hl (k := 2) rfl rfl (by decide) rfl (fun ls hl => ?_)
        refine lv_goto (tgt := 18) hx hb dX11_rememberAct_41 (by decide) ?_
        exact ih x1 (x2 + 1) M17 _ _ _ hw (lv_sub hl [1, 2, 0] rfl)
  unfold f_CT_rememberAct
  refine lv_aload_n hx hb dX11_rememberAct_0 rfl (lv_at hl 0 rfl) ?_
  refine gx_getI E hw kF_CT_88_10 (by decide) dX11_rememberAct_1 (fun v1 _ => ?_)
  refine lv_bipush (v := 12) hx hb dX11_rememberAct_4 (by decide) ?_
  refine cx_icmp_ne (tgt := 58) E dX11_rememberAct_6 (by decide) (fun _ => ?_) (fun _ => ?_)
  · exact w58  M _ _ _ hw (lv_sub hl [0] rfl)
  · refine lv_aload_n hx hb dX11_rememberAct_9 rfl (lv_at hl 0 rfl) ?_
    refine gx_getR E hw kF_CT_27_10 (by decide) dX11_rememberAct_10 (fun v2 _ => ?_)
    refine lv_iconst (v := 0) hx hb dX11_rememberAct_13 (by decide) ?_
    refine gx_aald E hw (by decide) dX11_rememberAct_14 (fun v3 _ => ?_)
    refine lv_astore_n (lv' := [(1, .ref v3), (0, .ref this)]) hx hb dX11_rememberAct_15 rfl hl (by decide) rfl (fun ls hl => ?_)
    refine lv_iconst (v := 1) hx hb dX11_rememberAct_16 (by decide) ?_
    refine lv_istore_n (lv' := [(2, .int 1), (1, .ref v3), (0, .ref this)]) hx hb dX11_rememberAct_17 rfl hl (by decide) rfl (fun ls hl => ?_)
    exact w18  N v3 1 M _ _ _ hw (lv_sub hl [2, 1, 0] rfl)

