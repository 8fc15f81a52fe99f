set_option maxHeartbeats 4000000 in
set_option maxRecDepth 100000 in
theorem t_CT_log (l : Launch) (hfl : l.stackTraces = false) (G : wG) (this : Nat) (a0 : Int32) (a1 : Int32) (M : Mem) (r : Rho) : Ctr l yX11_log (wWs yX11_log cX11_log 3 (some .int)) rm_CT_log rm_CT_log.cells rm_CT_log.slots G [.ref this, .int a0, .int a1] M r ((f_CT_log this a0 a1 M).map (fun z => (z.1.elim (fun v => .inl (some (.int v))) .inr, z.2, r))) := by
  refine Ctr.ofF (own := "CheekTown") (by decide +kernel) hfl rfl (Nat.le_of_ble_eq_true rfl) (fun p e s m args below meth c E hno hr hnm hw ls hl => ?_)
  obtain ⟨hx, hb, hts, hown, hml, hTT, -⟩ := id E
  have hl : lv_has ls 3 [(0, .ref this), (1, .int a0), (2, .int a1)] := hl
  obtain ⟨H, hH⟩ : ∃ H, H = s.heap := ⟨_, rfl⟩
  obtain ⟨locs, hlo⟩ : ∃ L : List Loc, L = [] := ⟨_, rfl⟩
  rw [← hH, ← hlo]
  rw [← hlo] at hw
  replace hw : w_W G M r s H locs := by rw [hH]; exact hw
  unfold f_CT_log
  refine lv_iload_n hx hb dX11_log_0 rfl (lv_at hl 2 rfl) ?_
  refine lv_bipush (v := 7) hx hb dX11_log_1 (by decide) ?_
  refine W_bind fun z1 hz => ?_
  refine w_afterS (cells1 := 1) (slots1 := 6) (vv := (fun _ => none)) (w_runS E kS_CT_168 kc_X11_needWhat (t_CT_needWhat l hfl G a1 7 M r ((fun z => (z.1.elim (fun _ => .inl none) .inr, z.2, r)) z1) (by rw [hz]; rfl)) ⟨Nat.le_of_ble_eq_true rfl, Nat.le_of_ble_eq_true rfl⟩ hw rfl hl.1 rfl (Nat.le_of_ble_eq_true rfl) dX11_log_3 ⟨Nat.le_of_ble_eq_true rfl, Nat.le_of_ble_eq_true rfl⟩) hw rfl (Nat.le_of_ble_eq_true rfl) (Nat.le_of_ble_eq_true rfl) (fun v2 H locs _ hw => ?_) (fun E9 H locs q ce _ hw hce hcv hcl => w_out E hno hw hce hcv hcl (Nat.le_of_ble_eq_true rfl) (Nat.le_of_ble_eq_true rfl) rfl)
  refine W.eq (g2 := F0 m 6 ls []) rfl ?_
  have hw : w_W G z1.2 r s H locs := hw
  refine lv_aload_n hx hb dX11_log_6 rfl (lv_at hl 0 rfl) ?_
  refine gx_getR E hw kF_CT_20_10 (by decide) dX11_log_7 (fun v3 _ => ?_)
  refine gx_getR E hw kF_CT_373_7 (by decide) dX11_log_10 (fun v4 _ => ?_)
  refine lv_iload_n hx hb dX11_log_13 rfl (lv_at hl 1 rfl) ?_
  refine lv_iload_n hx hb dX11_log_14 rfl (lv_at hl 2 rfl) ?_
  refine W_bind fun _ hck => ?_
  refine W_bind fun z5 hz => ?_
  refine w_after (cells1 := 1) (slots1 := 6) (w_runV E kV_CT_388 kc_X3_cellOf (t_Log_cellOf l hfl G v4 a0 a1 z1.2 r ((fun z => (.inl (some (.int z)), z1.2, r)) z5) (by rw [hz]; rfl)) ⟨Nat.le_of_ble_eq_true rfl, Nat.le_of_ble_eq_true rfl⟩ hw (w_recv E hw (by decide) ⟨_, _, rfl⟩ (ck_ok hck)) rfl hl.1 rfl (Nat.le_of_ble_eq_true rfl) dX11_log_15 ⟨Nat.le_of_ble_eq_true rfl, Nat.le_of_ble_eq_true rfl⟩) hw rfl (Nat.le_of_ble_eq_true rfl) (Nat.le_of_ble_eq_true rfl) (fun H locs hw => ?_)
  refine W.eq (g2 := F0 m 18 ls [.int z5]) rfl ?_
  have hw : w_W G z1.2 r s H locs := hw
  exact p_iret E hw hr (Nat.le_of_ble_eq_true rfl) (Nat.le_of_ble_eq_true rfl) rfl dX11_log_18
set_option maxHeartbeats 4000000 in
set_option maxRecDepth 100000 in
theorem t_R_init (l : Launch) (hfl : l.stackTraces = false) (G : wG) (this : Nat) (M : Mem) (r : Rho) : Ctr l yX12_init (wWs yX12_init cX12_init 1 none) rm_R_init rm_R_init.cells rm_R_init.slots G [.ref this] M r ((f_R_init this M).map (fun z => (.inl none, z, r))) := by
  refine Ctr.ofF (own := "CheekTownModel") (by decide +kernel) hfl rfl (Nat.le_of_ble_eq_true rfl) (fun p e s m args below meth c E hno hr hnm hw ls hl => ?_)
  obtain ⟨hx, hb, hts, hown, hml, hTT, -⟩ := id E
  have hl : lv_has ls 1 [(0, .ref this)] := hl
  obtain ⟨H, hH⟩ : ∃ H, H = s.heap := ⟨_, rfl⟩
  obtain ⟨locs, hlo⟩ : ∃ L : List Loc, L = [] := ⟨_, rfl⟩
  rw [← hH, ← hlo]
  rw [← hlo] at hw
  replace hw : w_W G M r s H locs := by rw [hH]; exact hw
  unfold f_R_init
  refine lv_aload_n hx hb dX12_init_0 rfl (lv_at hl 0 rfl) ?_
  refine W.objInit hx hb hown (hts _ kO_R) (hts _ kO_i) (hts _ kO_c) rfl (by rw [hml]; exact hl.1) rfl dX12_init_1 (Nat.le_of_ble_eq_true rfl) (Nat.le_of_ble_eq_true rfl) ?_
  refine W.eq (g2 := F0 m 4 ls []) rfl ?_
  refine lv_aload_n hx hb dX12_init_4 rfl (lv_at hl 0 rfl) ?_
  refine lv_sipush (v := 1300) hx hb dX12_init_5 (by decide) ?_
  refine gx_newI E hw (Nat.le_of_ble_eq_true rfl) kAC_I (Nat.le_of_ble_eq_true rfl) (Nat.le_of_ble_eq_true rfl) dX12_init_8 (fun z1 H _ _ hw => ?_)
  refine W.widen (k := 1) (n := 1300) (Nat.le_of_ble_eq_true rfl) (Nat.le_of_ble_eq_true rfl) ?_
  refine gx_putFR E hw kF_R_7_11 kT_11_1 hnm ⟨_, _, _, rfl, rfl⟩ rfl rfl (by decide) dX12_init_10 (fun M2 H locs _ hw => ?_)
  refine lv_aload_n hx hb dX12_init_13 rfl (lv_at hl 0 rfl) ?_
  refine lv_sipush (v := 1300) hx hb dX12_init_14 (by decide) ?_
  refine gx_newI E hw (Nat.le_of_ble_eq_true rfl) kAC_I (Nat.le_of_ble_eq_true rfl) (Nat.le_of_ble_eq_true rfl) dX12_init_17 (fun z3 H _ _ hw => ?_)
  refine W.widen (k := 2) (n := 2600) (Nat.le_of_ble_eq_true rfl) (Nat.le_of_ble_eq_true rfl) ?_
  refine gx_putFR E hw kF_R_13_11 kT_11_2 hnm ⟨_, _, _, rfl, rfl⟩ rfl rfl (by decide) dX12_init_19 (fun M4 H locs _ hw => ?_)
  refine lv_aload_n hx hb dX12_init_22 rfl (lv_at hl 0 rfl) ?_
  refine lv_sipush (v := 900) hx hb dX12_init_23 (by decide) ?_
  refine gx_newI E hw (Nat.le_of_ble_eq_true rfl) kAC_I (Nat.le_of_ble_eq_true rfl) (Nat.le_of_ble_eq_true rfl) dX12_init_26 (fun z5 H _ _ hw => ?_)
  refine W.widen (k := 3) (n := 3500) (Nat.le_of_ble_eq_true rfl) (Nat.le_of_ble_eq_true rfl) ?_
  refine gx_putFR E hw kF_R_16_11 kT_11_4 hnm ⟨_, _, _, rfl, rfl⟩ rfl rfl (by decide) dX12_init_28 (fun M6 H locs _ hw => ?_)
  refine lv_aload_n hx hb dX12_init_31 rfl (lv_at hl 0 rfl) ?_
  refine lv_sipush (v := 10800) hx hb dX12_init_32 (by decide) ?_
  refine gx_newI E hw (Nat.le_of_ble_eq_true rfl) kAC_I (Nat.le_of_ble_eq_true rfl) (Nat.le_of_ble_eq_true rfl) dX12_init_35 (fun z7 H _ _ hw => ?_)
  refine W.widen (k := 4) (n := 14300) (Nat.le_of_ble_eq_true rfl) (Nat.le_of_ble_eq_true rfl) ?_
  refine gx_putFR E hw kF_R_19_11 kT_11_5 hnm ⟨_, _, _, rfl, rfl⟩ rfl rfl (by decide) dX12_init_37 (fun M8 H locs _ hw => ?_)
  refine lv_aload_n hx hb dX12_init_40 rfl (lv_at hl 0 rfl) ?_
  refine lv_sipush (v := 400) hx hb dX12_init_41 (by decide) ?_
  refine gx_newI E hw (Nat.le_of_ble_eq_true rfl) kAC_I (Nat.le_of_ble_eq_true rfl) (Nat.le_of_ble_eq_true rfl) dX12_init_44 (fun z9 H _ _ hw => ?_)
  refine W.widen (k := 5) (n := 14700) (Nat.le_of_ble_eq_true rfl) (Nat.le_of_ble_eq_true rfl) ?_
  refine gx_putFR E hw kF_R_22_11 kT_11_7 hnm ⟨_, _, _, rfl, rfl⟩ rfl rfl (by decide) dX12_init_46 (fun M10 H locs _ hw => ?_)
  refine lv_aload_n hx hb dX12_init_49 rfl (lv_at hl 0 rfl) ?_
  refine lv_iconst (v := (-1)) hx hb dX12_init_50 (by decide) ?_
  refine gx_putI E hw kF_R_25_11 kT_11_12 (by decide) dX12_init_51 (fun M11 H locs _ hw => ?_)
  refine lv_aload_n hx hb dX12_init_54 rfl (lv_at hl 0 rfl) ?_
  refine lv_bipush (v := 6) hx hb dX12_init_55 (by decide) ?_
  refine gx_newI E hw (Nat.le_of_ble_eq_true rfl) kAC_I (Nat.le_of_ble_eq_true rfl) (Nat.le_of_ble_eq_true rfl) dX12_init_57 (fun z12 H _ _ hw => ?_)
  refine W.widen (k := 6) (n := 14706) (Nat.le_of_ble_eq_true rfl) (Nat.le_of_ble_eq_true rfl) ?_
  refine gx_putFR E hw kF_R_29_11 kT_11_14 hnm ⟨_, _, _, rfl, rfl⟩ rfl rfl (by decide) dX12_init_59 (fun M13 H locs _ hw => ?_)
  refine lv_aload_n hx hb dX12_init_62 rfl (lv_at hl 0 rfl) ?_
  refine lv_bipush (v := 10) hx hb dX12_init_63 (by decide) ?_
  refine gx_newI E hw (Nat.le_of_ble_eq_true rfl) kAC_I (Nat.le_of_ble_eq_true rfl) (Nat.le_of_ble_eq_true rfl) dX12_init_65 (fun z14 H _ _ hw => ?_)
  refine W.widen (k := 7) (n := 14716) (Nat.le_of_ble_eq_true rfl) (Nat.le_of_ble_eq_true rfl) ?_
  refine gx_putFR E hw kF_R_32_11 kT_11_18 hnm ⟨_, _, _, rfl, rfl⟩ rfl rfl (by decide) dX12_init_67 (fun M15 H locs _ hw => ?_)
  refine lv_aload_n hx hb dX12_init_70 rfl (lv_at hl 0 rfl) ?_
  refine lv_bipush (v := 10) hx hb dX12_init_71 (by decide) ?_
  refine gx_newI E hw (Nat.le_of_ble_eq_true rfl) kAC_I (Nat.le_of_ble_eq_true rfl) (Nat.le_of_ble_eq_true rfl) dX12_init_73 (fun z16 H _ _ hw => ?_)
  refine W.widen (k := 8) (n := 14726) (Nat.le_of_ble_eq_true rfl) (Nat.le_of_ble_eq_true rfl) ?_
  refine gx_putFR E hw kF_R_35_11 kT_11_19 hnm ⟨_, _, _, rfl, rfl⟩ rfl rfl (by decide) dX12_init_75 (fun M17 H locs _ hw => ?_)
  refine lv_aload_n hx hb dX12_init_78 rfl (lv_at hl 0 rfl) ?_
  refine lv_bipush (v := 10) hx hb dX12_init_79 (by decide) ?_
  refine gx_newI E hw (Nat.le_of_ble_eq_true rfl) kAC_I (Nat.le_of_ble_eq_true rfl) (Nat.le_of_ble_eq_true rfl) dX12_init_81 (fun z18 H _ _ hw => ?_)
  refine W.widen (k := 9) (n := 14736) (Nat.le_of_ble_eq_true rfl) (Nat.le_of_ble_eq_true rfl) ?_
  refine gx_putFR E hw kF_R_38_11 kT_11_20 hnm ⟨_, _, _, rfl, rfl⟩ rfl rfl (by decide) dX12_init_83 (fun M19 H locs _ hw => ?_)
  refine lv_aload_n hx hb dX12_init_86 rfl (lv_at hl 0 rfl) ?_
  refine lv_bipush (v := 32) hx hb dX12_init_87 (by decide) ?_
  refine gx_newI E hw (Nat.le_of_ble_eq_true rfl) kAC_I (Nat.le_of_ble_eq_true rfl) (Nat.le_of_ble_eq_true rfl) dX12_init_89 (fun z20 H _ _ hw => ?_)
  refine W.widen (k := 10) (n := 14768) (Nat.le_of_ble_eq_true rfl) (Nat.le_of_ble_eq_true rfl) ?_
  refine gx_putFR E hw kF_R_41_11 kT_11_21 hnm ⟨_, _, _, rfl, rfl⟩ rfl rfl (by decide) dX12_init_91 (fun M21 H locs _ hw => ?_)
  refine lv_aload_n hx hb dX12_init_94 rfl (lv_at hl 0 rfl) ?_
  refine lv_bipush (v := 8) hx hb dX12_init_95 (by decide) ?_
  refine gx_newI E hw (Nat.le_of_ble_eq_true rfl) kAC_I (Nat.le_of_ble_eq_true rfl) (Nat.le_of_ble_eq_true rfl) dX12_init_97 (fun z22 H _ _ hw => ?_)
  refine W.widen (k := 11) (n := 14776) (Nat.le_of_ble_eq_true rfl) (Nat.le_of_ble_eq_true rfl) ?_
  refine gx_putFR E hw kF_R_44_11 kT_11_22 hnm ⟨_, _, _, rfl, rfl⟩ rfl rfl (by decide) dX12_init_99 (fun M23 H locs _ hw => ?_)
  refine lv_aload_n hx hb dX12_init_102 rfl (lv_at hl 0 rfl) ?_
  refine lv_bipush (v := 8) hx hb dX12_init_103 (by decide) ?_
  refine gx_newI E hw (Nat.le_of_ble_eq_true rfl) kAC_I (Nat.le_of_ble_eq_true rfl) (Nat.le_of_ble_eq_true rfl) dX12_init_105 (fun z24 H _ _ hw => ?_)
  refine W.widen (k := 12) (n := 14784) (Nat.le_of_ble_eq_true rfl) (Nat.le_of_ble_eq_true rfl) ?_
  refine gx_putFR E hw kF_R_47_11 kT_11_23 hnm ⟨_, _, _, rfl, rfl⟩ rfl rfl (by decide) dX12_init_107 (fun M25 H locs _ hw => ?_)
  refine lv_aload_n hx hb dX12_init_110 rfl (lv_at hl 0 rfl) ?_
  refine lv_sipush (v := 1024) hx hb dX12_init_111 (by decide) ?_
  refine gx_newI E hw (Nat.le_of_ble_eq_true rfl) kAC_I (Nat.le_of_ble_eq_true rfl) (Nat.le_of_ble_eq_true rfl) dX12_init_114 (fun z26 H _ _ hw => ?_)
  refine W.widen (k := 13) (n := 15808) (Nat.le_of_ble_eq_true rfl) (Nat.le_of_ble_eq_true rfl) ?_
  refine gx_putFR E hw kF_R_50_11 kT_11_24 hnm ⟨_, _, _, rfl, rfl⟩ rfl rfl (by decide) dX12_init_116 (fun M27 H locs _ hw => ?_)
  refine lv_aload_n hx hb dX12_init_119 rfl (lv_at hl 0 rfl) ?_
  refine lv_bipush (v := 100) hx hb dX12_init_120 (by decide) ?_
  refine gx_newI E hw (Nat.le_of_ble_eq_true rfl) kAC_I (Nat.le_of_ble_eq_true rfl) (Nat.le_of_ble_eq_true rfl) dX12_init_122 (fun z28 H _ _ hw => ?_)
  refine W.widen (k := 14) (n := 15908) (Nat.le_of_ble_eq_true rfl) (Nat.le_of_ble_eq_true rfl) ?_
  refine gx_putFR E hw kF_R_53_11 kT_11_25 hnm ⟨_, _, _, rfl, rfl⟩ rfl rfl (by decide) dX12_init_124 (fun M29 H locs _ hw => ?_)
  refine lv_aload_n hx hb dX12_init_127 rfl (lv_at hl 0 rfl) ?_
  refine gx_getR E hw kF_R_7_11 (by decide) dX12_init_128 (fun v30 _ => ?_)
  refine lv_iconst (v := 1) hx hb dX12_init_131 (by decide) ?_
  refine lv_iconst (v := (-1)) hx hb dX12_init_132 (by decide) ?_
  refine gx_iast E hw dX12_init_133 (fun M31 H locs _ hw => ?_)
  refine lv_aload_n hx hb dX12_init_134 rfl (lv_at hl 0 rfl) ?_
  refine gx_getR E hw kF_R_7_11 (by decide) dX12_init_135 (fun v32 _ => ?_)
  refine lv_bipush (v := 16) hx hb dX12_init_138 (by decide) ?_
  refine lv_iconst (v := 1) hx hb dX12_init_140 (by decide) ?_
  refine gx_iast E hw dX12_init_141 (fun M33 H locs _ hw => ?_)
  refine lv_aload_n hx hb dX12_init_142 rfl (lv_at hl 0 rfl) ?_
  refine gx_getR E hw kF_R_7_11 (by decide) dX12_init_143 (fun v34 _ => ?_)
  refine lv_bipush (v := 13) hx hb dX12_init_146 (by decide) ?_
  refine lv_bipush (v := 10) hx hb dX12_init_148 (by decide) ?_
  refine gx_iast E hw dX12_init_150 (fun M35 H locs _ hw => ?_)
  refine lv_aload_n hx hb dX12_init_151 rfl (lv_at hl 0 rfl) ?_
  refine gx_getR E hw kF_R_7_11 (by decide) dX12_init_152 (fun v36 _ => ?_)
  refine lv_bipush (v := 14) hx hb dX12_init_155 (by decide) ?_
  refine lv_iconst (v := 2) hx hb dX12_init_157 (by decide) ?_
  refine gx_iast E hw dX12_init_158 (fun M37 H locs _ hw => ?_)
  refine lv_aload_n hx hb dX12_init_159 rfl (lv_at hl 0 rfl) ?_
  refine gx_getR E hw kF_R_7_11 (by decide) dX12_init_160 (fun v38 _ => ?_)
  refine lv_bipush (v := 15) hx hb dX12_init_163 (by decide) ?_
  refine lv_iconst (v := 5) hx hb dX12_init_165 (by decide) ?_
  refine gx_iast E hw dX12_init_166 (fun M39 H locs _ hw => ?_)
  exact p_vret E hw hr (Nat.le_of_ble_eq_true rfl) (Nat.le_of_ble_eq_true rfl) rfl dX12_init_167
set_option maxHeartbeats 4000000 in
set_option maxRecDepth 100000 in
theorem t_R_thrown (l : Launch) (hfl : l.stackTraces = false) (G : wG) (on : g_on G = true) (M : Mem) (r : Rho) : Ctr l yX12_thrown (wWs yX12_thrown cX12_thrown 1 (some .int)) rm_R_thrown rm_R_thrown.cells rm_R_thrown.slots G [.ref (g_r G)] M r ((f_R_thrown r).map (fun z => (.inl (some (.int z)), M, r))) := by
  refine Ctr.ofF (own := "CheekTownModel") (by decide +kernel) hfl rfl (Nat.le_of_ble_eq_true rfl) (fun p e s m args below meth c E hno hr hnm hw ls hl => ?_)
  obtain ⟨hx, hb, hts, hown, hml, hTT, -⟩ := id E
  have hl : lv_has ls 1 [(0, .ref (g_r G))] := hl
  obtain ⟨H, hH⟩ : ∃ H, H = s.heap := ⟨_, rfl⟩
  obtain ⟨locs, hlo⟩ : ∃ L : List Loc, L = [] := ⟨_, rfl⟩
  rw [← hH, ← hlo]
  rw [← hlo] at hw
  replace hw : w_W G M r s H locs := by rw [hH]; exact hw
  unfold f_R_thrown
  refine lv_aload_n hx hb dX12_thrown_0 rfl (lv_at hl 0 rfl) ?_
  refine rx_getI E hw on kF_R_56_11 (by decide) dX12_thrown_1 ?_
  exact p_iret E hw hr (Nat.le_of_ble_eq_true rfl) (Nat.le_of_ble_eq_true rfl) rfl dX12_thrown_4
set_option maxHeartbeats 4000000 in
set_option maxRecDepth 100000 in
theorem t_R_feed (l : Launch) (hfl : l.stackTraces = false) (G : wG) (on : g_on G = true) (N : Nat) (a0 : Int32) (a1 : Int32) (a2 : Int32) (a3 : Int32) (a4 : Int32) (M : Mem) (r : Rho) : Ctr l yX12_feed (wWs yX12_feed cX12_feed 8 (some .int)) rm_R_feed rm_R_feed.cells rm_R_feed.slots G [.ref (g_r G), .int a0, .int a1, .int a2, .int a3, .int a4] M r ((f_R_feed N a0 a1 a2 a3 a4 r).map (fun z => (.inl (some (.int z.1)), M, z.2))) := by
  refine Ctr.ofF (own := "CheekTownModel") (by decide +kernel) hfl rfl (Nat.le_of_ble_eq_true rfl) (fun p e s m args below meth c E hno hr hnm hw ls hl => ?_)
  obtain ⟨hx, hb, hts, hown, hml, hTT, -⟩ := id E
  have hl : lv_has ls 8 [(0, .ref (g_r G)), (1, .int a0), (2, .int a1), (3, .int a2), (4, .int a3), (5, .int a4)] := hl
  obtain ⟨H, hH⟩ : ∃ H, H = s.heap := ⟨_, rfl⟩
  obtain ⟨locs, hlo⟩ : ∃ L : List Loc, L = [] := ⟨_, rfl⟩
  rw [← hH, ← hlo]
  rw [← hlo] at hw
  replace hw : w_W G M r s H locs := by rw [hH]; exact hw
  have w76 : ∀ (k23 : Int32 → Rho → Option (Int32 × Rho)) (hk23 : ∀ (x6 : Int32) (r : Rho) (H : Heap) (locs : List Loc) (ls : Array Slot), w_W G M r s H locs → lv_has ls 8 [(0, .ref (g_r G)), (1, .int a0), (2, .int a1), (3, .int a2), (4, .int a3), (5, .int a4), (6, .int x6)] → W p l e rm_R_feed s m args below meth c H locs 0 0 (PQ G below args s rm_R_feed.cells rm_R_feed.slots (fun z => (.inl (some (.int z.1)), M, z.2)) (k23 x6 r)) (F0 m 23 ls [])) (x6 : Int32) (y0 : Int32) (r : Rho) (H : Heap) (locs : List Loc) (ls : Array Slot), w_W G M r s H locs → lv_has ls 8 [(0, .ref (g_r G)), (1, .int a0), (2, .int a1), (3, .int a2), (4, .int a3), (5, .int a4), (6, .int x6)] → W p l e rm_R_feed s m args below meth c H locs 0 0 (PQ G below args s rm_R_feed.cells rm_R_feed.slots (fun z => (.inl (some (.int z.1)), M, z.2)) (f_R_feed_76 N a0 a1 a2 a3 a4 k23 x6 y0 r)) (F0 m 76 ls [.int y0]) := by
    intro k23 hk23 x6 y0 r H locs ls hw hl
    unfold f_R_feed_76
    refine lv_istore (lv' := [(7, .int y0), (0, .ref (g_r G)), (1, .int a0), (2, .int a1), (3, .int a2), (4, .int a3), (5, .int a4), (6, .int x6)]) hx hb dX12_feed_76 hl (by decide) rfl (fun ls hl => ?_)
    refine lv_aload_n hx hb dX12_feed_78 rfl (lv_at hl 1 rfl) ?_
    refine rx_getA E hw on kF_R_22_11 (by decide) dX12_feed_79 ?_
    refine lv_aload_n hx hb dX12_feed_82 rfl (lv_at hl 1 rfl) ?_
    refine rx_getI E hw on kF_R_73_11 (by decide) dX12_feed_83 ?_
    refine lv_iload hx hb dX12_feed_86 (lv_at hl 0 rfl) ?_
    refine lv_bipush (v := 24) hx hb dX12_feed_88 (by decide) ?_
    refine lv_bipush (v := 8) hx hb dX12_feed_90 (by decide) ?_
    refine lv_iload hx hb dX12_feed_92 (lv_at hl 7 rfl) ?_
    refine lv_iconst (v := 4) hx hb dX12_feed_94 (by decide) ?_
    refine lv_irem hx hb dX12_feed_95 (by decide) ?_
    refine lv_imul hx hb dX12_feed_96 ?_
    refine lv_isub hx hb dX12_feed_97 ?_
    refine lv_iushr (v := ushr y0 (24 - (8 * (x6 - x6 / 4 * 4)))) hx hb dX12_feed_98 rfl ?_
    refine lv_sipush (v := 255) hx hb dX12_feed_99 (by decide) ?_
    refine lv_iand hx hb dX12_feed_102 ?_
    refine rx_iast E hw on (by decide) dX12_feed_103 (fun r1 H locs hw => ?_)
    refine lv_aload_n hx hb dX12_feed_104 rfl (lv_at hl 1 rfl) ?_
    refine lv_dup hx hb dX12_feed_105 rfl ?_
    refine rx_getI E hw on kF_R_73_11 (by decide) dX12_feed_106 ?_
    refine lv_iconst (v := 1) hx hb dX12_feed_109 (by decide) ?_
    refine lv_iadd hx hb dX12_feed_110 ?_
    refine rx_putI E hw on kF_R_73_11 (by decide) kT_11_8 dX12_feed_111 (fun H locs hw => ?_)
    refine lv_iinc (v := x6 + 1) (lv' := [(6, .int (x6 + 1)), (7, .int y0), (0, .ref (g_r G)), (1, .int a0), (2, .int a1), (3, .int a2), (4, .int a3), (5, .int a4)]) hx hb dX12_feed_114 hl (k := 7) rfl rfl (by decide) rfl (fun ls hl => ?_)
    refine lv_goto (tgt := 23) hx hb dX12_feed_117 (by decide) ?_
    exact hk23 (x6 + 1) (r_set r1 8 ((r1.1 8) + 1)) _ _ _ hw (lv_sub hl [2, 3, 4, 5, 6, 7, 0] rfl)
  have w23 : ∀ (n : Nat) (x6 : Int32) (r : Rho) (H : Heap) (locs : List Loc) (ls : Array Slot), w_W G M r s H locs → lv_has ls 8 [(0, .ref (g_r G)), (1, .int a0), (2, .int a1), (3, .int a2), (4, .int a3), (5, .int a4), (6, .int x6)] → W p l e rm_R_feed s m args below meth c H locs 0 0 (PQ G below args s rm_R_feed.cells rm_R_feed.slots (fun z => (.inl (some (.int z.1)), M, z.2)) (f_R_feed_23 N a0 a1 a2 a3 a4 n x6 r)) (F0 m 23 ls []) := by
    intro n
    induction n with
    | zero => intros; exact W_none
    | succ n ih =>
      intro x6 r H locs ls hw hl
      rw [f_R_feed_23]
      refine lv_iload hx hb dX12_feed_23 (lv_at hl 6 rfl) ?_
      refine lv_bipush (v := 20) hx hb dX12_feed_25 (by decide) ?_
      refine cx_icmp_ge (tgt := 120) E dX12_feed_27 (by decide) (fun _ => ?_) (fun _ => ?_)
      · refine lv_aload_n hx hb dX12_feed_120 rfl (lv_at hl 0 rfl) ?_
        refine rx_getI E hw on kF_R_73_11 (by decide) dX12_feed_121 ?_
        exact p_iret E hw hr (Nat.le_of_ble_eq_true rfl) (Nat.le_of_ble_eq_true rfl) rfl dX12_feed_124
      · refine lv_iload hx hb dX12_feed_30 (lv_at hl 6 rfl) ?_
        refine lv_iconst (v := 4) hx hb dX12_feed_32 (by decide) ?_
        refine cx_icmp_ge (tgt := 40) E dX12_feed_33 (by decide) (fun _ => ?_) (fun _ => ?_)
        · refine lv_iload hx hb dX12_feed_40 (lv_at hl 6 rfl) ?_
          refine lv_bipush (v := 8) hx hb dX12_feed_42 (by decide) ?_
          refine cx_icmp_ge (tgt := 51) E dX12_feed_44 (by decide) (fun _ => ?_) (fun _ => ?_)
          · refine lv_iload hx hb dX12_feed_51 (lv_at hl 6 rfl) ?_
            refine lv_bipush (v := 12) hx hb dX12_feed_53 (by decide) ?_
            refine cx_icmp_ge (tgt := 62) E dX12_feed_55 (by decide) (fun _ => ?_) (fun _ => ?_)
            · refine lv_iload hx hb dX12_feed_62 (lv_at hl 6 rfl) ?_
              refine lv_bipush (v := 16) hx hb dX12_feed_64 (by decide) ?_
              refine cx_icmp_ge (tgt := 74) E dX12_feed_66 (by decide) (fun _ => ?_) (fun _ => ?_)
              · refine lv_iload hx hb dX12_feed_74 (lv_at hl 5 rfl) ?_
                exact w76 (f_R_feed_23 N a0 a1 a2 a3 a4 n) ih x6 a4 r _ _ _ hw (lv_sub hl [0, 1, 2, 3, 4, 5, 6] rfl)
              · refine lv_iload hx hb dX12_feed_69 (lv_at hl 4 rfl) ?_
                refine lv_goto (tgt := 76) hx hb dX12_feed_71 (by decide) ?_
                exact w76 (f_R_feed_23 N a0 a1 a2 a3 a4 n) ih x6 a3 r _ _ _ hw (lv_sub hl [0, 1, 2, 3, 4, 5, 6] rfl)
            · refine lv_iload_n hx hb dX12_feed_58 rfl (lv_at hl 3 rfl) ?_
              refine lv_goto (tgt := 76) hx hb dX12_feed_59 (by decide) ?_
              exact w76 (f_R_feed_23 N a0 a1 a2 a3 a4 n) ih x6 a2 r _ _ _ hw (lv_sub hl [0, 1, 2, 3, 4, 5, 6] rfl)
          · refine lv_iload_n hx hb dX12_feed_47 rfl (lv_at hl 2 rfl) ?_
            refine lv_goto (tgt := 76) hx hb dX12_feed_48 (by decide) ?_
            exact w76 (f_R_feed_23 N a0 a1 a2 a3 a4 n) ih x6 a1 r _ _ _ hw (lv_sub hl [0, 1, 2, 3, 4, 5, 6] rfl)
        · refine lv_iload_n hx hb dX12_feed_36 rfl (lv_at hl 1 rfl) ?_
          refine lv_goto (tgt := 76) hx hb dX12_feed_37 (by decide) ?_
          exact w76 (f_R_feed_23 N a0 a1 a2 a3 a4 n) ih x6 a0 r _ _ _ hw (lv_sub hl [0, 1, 2, 3, 4, 5, 6] rfl)
  unfold f_R_feed
  refine lv_aload_n hx hb dX12_feed_0 rfl (lv_at hl 0 rfl) ?_
  refine lv_iconst (v := 0) hx hb dX12_feed_1 (by decide) ?_
  refine rx_putI E hw on kF_R_56_11 (by decide) kT_11_0 dX12_feed_2 (fun H locs hw => ?_)
  refine lv_aload_n hx hb dX12_feed_5 rfl (lv_at hl 0 rfl) ?_
  refine rx_getI E hw on kF_R_73_11 (by decide) dX12_feed_6 ?_
  refine lv_bipush (v := 20) hx hb dX12_feed_9 (by decide) ?_
  refine lv_iadd hx hb dX12_feed_11 ?_
  refine lv_sipush (v := 400) hx hb dX12_feed_12 (by decide) ?_
  refine cx_icmp_le (tgt := 20) E dX12_feed_15 (by decide) (fun _ => ?_) (fun _ => ?_)
  · refine lv_iconst (v := 0) hx hb dX12_feed_20 (by decide) ?_
    refine lv_istore (lv' := [(6, .int 0), (0, .ref (g_r G)), (1, .int a0), (2, .int a1), (3, .int a2), (4, .int a3), (5, .int a4)]) hx hb dX12_feed_21 hl (by decide) rfl (fun ls hl => ?_)
    exact w23  N 0 (r_set r 0 0) _ _ _ hw (lv_sub hl [1, 2, 3, 4, 5, 6, 0] rfl)
  · refine lv_iconst (v := (-1)) hx hb dX12_feed_18 (by decide) ?_
    exact p_iret E hw hr (Nat.le_of_ble_eq_true rfl) (Nat.le_of_ble_eq_true rfl) rfl dX12_feed_19
set_option maxHeartbeats 4000000 in
set_option maxRecDepth 100000 in
theorem t_R_isIn (l : Launch) (hfl : l.stackTraces = false) (G : wG) (a0 : Int32) (a1 : Int32) (a2 : Int32) (M : Mem) (r : Rho) : Ctr l yX12_isIn (wWs yX12_isIn cX12_isIn 3 (some .boolean)) rm_R_isIn rm_R_isIn.cells rm_R_isIn.slots G [.int a0, .int a1, .int a2] M r ((f_R_isIn a0 a1 a2).map (fun z => (.inl (some (.int z)), M, r))) := by
  refine Ctr.ofF (own := "CheekTownModel") (by decide +kernel) hfl rfl (Nat.le_of_ble_eq_true rfl) (fun p e s m args below meth c E hno hr hnm hw ls hl => ?_)
  obtain ⟨hx, hb, hts, hown, hml, hTT, -⟩ := id E
  have hl : lv_has ls 3 [(0, .int a0), (1, .int a1), (2, .int a2)] := hl
  obtain ⟨H, hH⟩ : ∃ H, H = s.heap := ⟨_, rfl⟩
  obtain ⟨locs, hlo⟩ : ∃ L : List Loc, L = [] := ⟨_, rfl⟩
  rw [← hH, ← hlo]
  rw [← hlo] at hw
  replace hw : w_W G M r s H locs := by rw [hH]; exact hw
  unfold f_R_isIn
  refine lv_iload_n hx hb dX12_isIn_0 rfl (lv_at hl 0 rfl) ?_
  refine lv_iload_n hx hb dX12_isIn_1 rfl (lv_at hl 1 rfl) ?_
  refine cx_icmp_lt (tgt := 14) E dX12_isIn_2 (by decide) (fun _ => ?_) (fun _ => ?_)
  · refine lv_iconst (v := 0) hx hb dX12_isIn_14 (by decide) ?_
    exact p_zret E hw hr (by decide) (Nat.le_of_ble_eq_true rfl) (Nat.le_of_ble_eq_true rfl) rfl dX12_isIn_15
  · refine lv_iload_n hx hb dX12_isIn_5 rfl (lv_at hl 0 rfl) ?_
    refine lv_iload_n hx hb dX12_isIn_6 rfl (lv_at hl 2 rfl) ?_
    refine cx_icmp_gt (tgt := 14) E dX12_isIn_7 (by decide) (fun _ => ?_) (fun _ => ?_)
    · refine lv_iconst (v := 0) hx hb dX12_isIn_14 (by decide) ?_
      exact p_zret E hw hr (by decide) (Nat.le_of_ble_eq_true rfl) (Nat.le_of_ble_eq_true rfl) rfl dX12_isIn_15
    · refine lv_iconst (v := 1) hx hb dX12_isIn_10 (by decide) ?_
      refine lv_goto (tgt := 15) hx hb dX12_isIn_11 (by decide) ?_
      exact p_zret E hw hr (by decide) (Nat.le_of_ble_eq_true rfl) (Nat.le_of_ble_eq_true rfl) rfl dX12_isIn_15
set_option maxHeartbeats 4000000 in
set_option maxRecDepth 100000 in
theorem t_R_end (l : Launch) (hfl : l.stackTraces = false) (G : wG) (on : g_on G = true) (a0 : Int32) (M : Mem) (r : Rho) : Ctr l yX12_end (wWs yX12_end cX12_end 2 (some .boolean)) rm_R_end rm_R_end.cells rm_R_end.slots G [.ref (g_r G), .int a0] M r ((f_R_end a0 r).map (fun z => (.inl (some (.int z.1)), M, z.2))) := by
  refine Ctr.ofF (own := "CheekTownModel") (by decide +kernel) hfl rfl (Nat.le_of_ble_eq_true rfl) (fun p e s m args below meth c E hno hr hnm hw ls hl => ?_)
  obtain ⟨hx, hb, hts, hown, hml, hTT, -⟩ := id E
  have hl : lv_has ls 2 [(0, .ref (g_r G)), (1, .int a0)] := hl
  obtain ⟨H, hH⟩ : ∃ H, H = s.heap := ⟨_, rfl⟩
  obtain ⟨locs, hlo⟩ : ∃ L : List Loc, L = [] := ⟨_, rfl⟩
  rw [← hH, ← hlo]
  rw [← hlo] at hw
  replace hw : w_W G M r s H locs := by rw [hH]; exact hw
  unfold f_R_end
  refine lv_aload_n hx hb dX12_end_0 rfl (lv_at hl 0 rfl) ?_
  refine lv_iconst (v := 0) hx hb dX12_end_1 (by decide) ?_
  refine rx_putI E hw on kF_R_56_11 (by decide) kT_11_0 dX12_end_2 (fun H locs hw => ?_)
  refine lv_iload_n hx hb dX12_end_5 rfl (lv_at hl 1 rfl) ?_
  refine lv_iconst (v := 0) hx hb dX12_end_6 (by decide) ?_
  refine lv_aload_n hx hb dX12_end_7 rfl (lv_at hl 0 rfl) ?_
  refine rx_getI E hw on kF_R_73_11 (by decide) dX12_end_8 ?_
  refine W_bind fun z1 hz => ?_
  refine w_after (cells1 := 0) (slots1 := 0) (w_runS E kS_R_59 kc_X12_isIn (t_R_isIn l hfl G a0 0 ((r_set r 0 0).1 8) M (r_set r 0 0) ((fun z => (.inl (some (.int z)), M, (r_set r 0 0))) z1) (by rw [hz]; rfl)) ⟨Nat.le_of_ble_eq_true rfl, Nat.le_of_ble_eq_true rfl⟩ hw rfl hl.1 rfl (Nat.le_of_ble_eq_true rfl) dX12_end_11 ⟨Nat.le_of_ble_eq_true rfl, Nat.le_of_ble_eq_true rfl⟩) hw rfl (Nat.le_of_ble_eq_true rfl) (Nat.le_of_ble_eq_true rfl) (fun H locs hw => ?_)
  refine W.eq (g2 := F0 m 14 ls [.int z1]) rfl ?_
  have hw : w_W G M (r_set r 0 0) s H locs := hw
  refine cx_if_ne (tgt := 19) E dX12_end_14 (by decide) (fun _ => ?_) (fun _ => ?_)
  · refine lv_aload_n hx hb dX12_end_19 rfl (lv_at hl 0 rfl) ?_
    refine lv_iload_n hx hb dX12_end_20 rfl (lv_at hl 1 rfl) ?_
    refine rx_putI E hw on kF_R_73_11 (by decide) kT_11_8 dX12_end_21 (fun H locs hw => ?_)
    refine lv_iconst (v := 1) hx hb dX12_end_24 (by decide) ?_
    exact p_zret E hw hr (by decide) (Nat.le_of_ble_eq_true rfl) (Nat.le_of_ble_eq_true rfl) rfl dX12_end_25
  · refine lv_iconst (v := 0) hx hb dX12_end_17 (by decide) ?_
    exact p_zret E hw hr (by decide) (Nat.le_of_ble_eq_true rfl) (Nat.le_of_ble_eq_true rfl) rfl dX12_end_18
set_option maxHeartbeats 4000000 in
set_option maxRecDepth 100000 in
theorem t_R_begins (l : Launch) (hfl : l.stackTraces = false) (G : wG) (on : g_on G = true) (M : Mem) (r : Rho) : Ctr l yX12_begins (wWs yX12_begins cX12_begins 1 none) rm_R_begins rm_R_begins.cells rm_R_begins.slots G [.ref (g_r G)] M r ((f_R_begins r).map (fun z => (.inl none, M, z))) := by
  refine Ctr.ofF (own := "CheekTownModel") (by decide +kernel) hfl rfl (Nat.le_of_ble_eq_true rfl) (fun p e s m args below meth c E hno hr hnm hw ls hl => ?_)
  obtain ⟨hx, hb, hts, hown, hml, hTT, -⟩ := id E
  have hl : lv_has ls 1 [(0, .ref (g_r G))] := hl
  obtain ⟨H, hH⟩ : ∃ H, H = s.heap := ⟨_, rfl⟩
  obtain ⟨locs, hlo⟩ : ∃ L : List Loc, L = [] := ⟨_, rfl⟩
  rw [← hH, ← hlo]
  rw [← hlo] at hw
  replace hw : w_W G M r s H locs := by rw [hH]; exact hw
  unfold f_R_begins
  refine lv_aload_n hx hb dX12_begins_0 rfl (lv_at hl 0 rfl) ?_
  refine lv_iconst (v := (-1)) hx hb dX12_begins_1 (by decide) ?_
  refine rx_putI E hw on kF_R_25_11 (by decide) kT_11_12 dX12_begins_2 (fun H locs hw => ?_)
  refine lv_aload_n hx hb dX12_begins_5 rfl (lv_at hl 0 rfl) ?_
  refine lv_iconst (v := (-1)) hx hb dX12_begins_6 (by decide) ?_
  refine rx_putI E hw on kF_R_76_11 (by decide) kT_11_9 dX12_begins_7 (fun H locs hw => ?_)
  refine lv_aload_n hx hb dX12_begins_10 rfl (lv_at hl 0 rfl) ?_
  refine lv_aload_n hx hb dX12_begins_11 rfl (lv_at hl 0 rfl) ?_
  refine rx_getI E hw on kF_R_73_11 (by decide) dX12_begins_12 ?_
  refine rx_putI E hw on kF_R_82_11 (by decide) kT_11_10 dX12_begins_15 (fun H locs hw => ?_)
  refine lv_aload_n hx hb dX12_begins_18 rfl (lv_at hl 0 rfl) ?_
  refine lv_iconst (v := 0) hx hb dX12_begins_19 (by decide) ?_
  refine rx_putI E hw on kF_R_73_11 (by decide) kT_11_8 dX12_begins_20 (fun H locs hw => ?_)
  refine lv_aload_n hx hb dX12_begins_23 rfl (lv_at hl 0 rfl) ?_
  refine lv_iconst (v := 0) hx hb dX12_begins_24 (by decide) ?_
  refine rx_putI E hw on kF_R_79_11 (by decide) kT_11_11 dX12_begins_25 (fun H locs hw => ?_)
  refine lv_aload_n hx hb dX12_begins_28 rfl (lv_at hl 0 rfl) ?_
  refine lv_iconst (v := 0) hx hb dX12_begins_29 (by decide) ?_
  refine rx_putI E hw on kF_R_184_11 (by decide) kT_11_13 dX12_begins_30 (fun H locs hw => ?_)
  exact p_vret E hw hr (Nat.le_of_ble_eq_true rfl) (Nat.le_of_ble_eq_true rfl) rfl dX12_begins_33
set_option maxHeartbeats 4000000 in
set_option maxRecDepth 100000 in
theorem t_R_letter (l : Launch) (hfl : l.stackTraces = false) (G : wG) (on : g_on G = true) (a0 : Int32) (M : Mem) (r : Rho) : Ctr l yX12_letter (wWs yX12_letter cX12_letter 2 (some .int)) rm_R_letter rm_R_letter.cells rm_R_letter.slots G [.ref (g_r G), .int a0] M r ((f_R_letter a0 r).map (fun z => (.inl (some (.int z)), M, r))) := by
  refine Ctr.ofF (own := "CheekTownModel") (by decide +kernel) hfl rfl (Nat.le_of_ble_eq_true rfl) (fun p e s m args below meth c E hno hr hnm hw ls hl => ?_)
  obtain ⟨hx, hb, hts, hown, hml, hTT, -⟩ := id E
  have hl : lv_has ls 2 [(0, .ref (g_r G)), (1, .int a0)] := hl
  obtain ⟨H, hH⟩ : ∃ H, H = s.heap := ⟨_, rfl⟩
  obtain ⟨locs, hlo⟩ : ∃ L : List Loc, L = [] := ⟨_, rfl⟩
  rw [← hH, ← hlo]
  rw [← hlo] at hw
  replace hw : w_W G M r s H locs := by rw [hH]; exact hw
  unfold f_R_letter
  refine lv_aload_n hx hb dX12_letter_0 rfl (lv_at hl 0 rfl) ?_
  refine rx_getI E hw on kF_R_76_11 (by decide) dX12_letter_1 ?_
  refine lv_iconst (v := (-1)) hx hb dX12_letter_4 (by decide) ?_
  refine cx_icmp_ne (tgt := 17) E dX12_letter_5 (by decide) (fun _ => ?_) (fun _ => ?_)
  · refine lv_aload_n hx hb dX12_letter_17 rfl (lv_at hl 0 rfl) ?_
    refine rx_getA E hw on kF_R_7_11 (by decide) dX12_letter_18 ?_
    refine lv_aload_n hx hb dX12_letter_21 rfl (lv_at hl 0 rfl) ?_
    refine rx_getI E hw on kF_R_76_11 (by decide) dX12_letter_22 ?_
    refine lv_iload_n hx hb dX12_letter_25 rfl (lv_at hl 1 rfl) ?_
    refine lv_iadd hx hb dX12_letter_26 ?_
    refine rx_iald E hw on (by decide) dX12_letter_27 (fun v1 => ?_)
    exact p_iret E hw hr (Nat.le_of_ble_eq_true rfl) (Nat.le_of_ble_eq_true rfl) rfl dX12_letter_28
  · refine lv_aload_n hx hb dX12_letter_8 rfl (lv_at hl 0 rfl) ?_
    refine rx_getA E hw on kF_R_22_11 (by decide) dX12_letter_9 ?_
    refine lv_iload_n hx hb dX12_letter_12 rfl (lv_at hl 1 rfl) ?_
    refine rx_iald E hw on (by decide) dX12_letter_13 (fun v2 => ?_)
    refine lv_goto (tgt := 28) hx hb dX12_letter_14 (by decide) ?_
    exact p_iret E hw hr (Nat.le_of_ble_eq_true rfl) (Nat.le_of_ble_eq_true rfl) rfl dX12_letter_28
set_option maxHeartbeats 4000000 in
set_option maxRecDepth 100000 in
theorem t_R_skip (l : Launch) (hfl : l.stackTraces = false) (G : wG) (on : g_on G = true) (N : Nat) (M : Mem) (r : Rho) : Ctr l yX12_skip (wWs yX12_skip cX12_skip 1 none) rm_R_skip rm_R_skip.cells rm_R_skip.slots G [.ref (g_r G)] M r ((f_R_skip N r).map (fun z => (.inl none, M, z))) := by
  refine Ctr.ofF (own := "CheekTownModel") (by decide +kernel) hfl rfl (Nat.le_of_ble_eq_true rfl) (fun p e s m args below meth c E hno hr hnm hw ls hl => ?_)
  obtain ⟨hx, hb, hts, hown, hml, hTT, -⟩ := id E
  have hl : lv_has ls 1 [(0, .ref (g_r G))] := hl
  obtain ⟨H, hH⟩ : ∃ H, H = s.heap := ⟨_, rfl⟩
  obtain ⟨locs, hlo⟩ : ∃ L : List Loc, L = [] := ⟨_, rfl⟩
  rw [← hH, ← hlo]
  rw [← hlo] at hw
  replace hw : w_W G M r s H locs := by rw [hH]; exact hw
  have w0 : ∀ (n : Nat) (r : Rho) (H : Heap) (locs : List Loc) (ls : Array Slot), w_W G M r s H locs → lv_has ls 1 [(0, .ref (g_r G))] → W p l e rm_R_skip s m args below meth c H locs 0 0 (PQ G below args s rm_R_skip.cells rm_R_skip.slots (fun z => (.inl none, M, z)) (f_R_skip_0 N n r)) (F0 m 0 ls []) := by
    intro n
    induction n with
    | zero => intros; exact W_none
    | succ n ih =>
      intro r H locs ls hw hl
      rw [f_R_skip_0]
      refine lv_aload_n hx hb dX12_skip_0 rfl (lv_at hl 0 rfl) ?_
      refine rx_getI E hw on kF_R_79_11 (by decide) dX12_skip_1 ?_
      refine lv_aload_n hx hb dX12_skip_4 rfl (lv_at hl 0 rfl) ?_
      refine rx_getI E hw on kF_R_82_11 (by decide) dX12_skip_5 ?_
      refine cx_icmp_ge (tgt := 37) E dX12_skip_8 (by decide) (fun _ => ?_) (fun _ => ?_)
      · exact p_vret E hw hr (Nat.le_of_ble_eq_true rfl) (Nat.le_of_ble_eq_true rfl) rfl dX12_skip_37
      · refine lv_aload_n hx hb dX12_skip_11 rfl (lv_at hl 0 rfl) ?_
        refine lv_aload_n hx hb dX12_skip_12 rfl (lv_at hl 0 rfl) ?_
        refine rx_getI E hw on kF_R_79_11 (by decide) dX12_skip_13 ?_
        refine W_bind fun z1 hz => ?_
        refine w_after (cells1 := 0) (slots1 := 0) (w_runV E kV_R_85 kc_X12_letter (t_R_letter l hfl G on (r.1 11) M r ((fun z => (.inl (some (.int z)), M, r)) z1) (by rw [hz]; rfl)) ⟨Nat.le_of_ble_eq_true rfl, Nat.le_of_ble_eq_true rfl⟩ hw (w_recvR E hw on) rfl hl.1 rfl (Nat.le_of_ble_eq_true rfl) dX12_skip_16 ⟨Nat.le_of_ble_eq_true rfl, Nat.le_of_ble_eq_true rfl⟩) hw rfl (Nat.le_of_ble_eq_true rfl) (Nat.le_of_ble_eq_true rfl) (fun H locs hw => ?_)
        refine W.eq (g2 := F0 m 19 ls [.int z1]) rfl ?_
        have hw : w_W G M r s H locs := hw
        refine lv_bipush (v := 32) hx hb dX12_skip_19 (by decide) ?_
        refine cx_icmp_ne (tgt := 37) E dX12_skip_21 (by decide) (fun _ => ?_) (fun _ => ?_)
        · exact p_vret E hw hr (Nat.le_of_ble_eq_true rfl) (Nat.le_of_ble_eq_true rfl) rfl dX12_skip_37
        · refine lv_aload_n hx hb dX12_skip_24 rfl (lv_at hl 0 rfl) ?_
          refine lv_dup hx hb dX12_skip_25 rfl ?_
          refine rx_getI E hw on kF_R_79_11 (by decide) dX12_skip_26 ?_
          refine lv_iconst (v := 1) hx hb dX12_skip_29 (by decide) ?_
          refine lv_iadd hx hb dX12_skip_30 ?_
          refine rx_putI E hw on kF_R_79_11 (by decide) kT_11_11 dX12_skip_31 (fun H locs hw => ?_)
          refine lv_goto (tgt := 0) hx hb dX12_skip_34 (by decide) ?_
          exact ih (r_set r 11 ((r.1 11) + 1)) _ _ _ hw (lv_sub hl [0] rfl)
  unfold f_R_skip
  exact w0  N r _ _ _ hw (lv_sub hl [0] rfl)
set_option maxHeartbeats 4000000 in
set_option maxRecDepth 100000 in
theorem t_R_wrong (l : Launch) (hfl : l.stackTraces = false) (G : wG) (on : g_on G = true) (a0 : Int32) (M : Mem) (r : Rho) : Ctr l yX12_wrong (wWs yX12_wrong cX12_wrong 2 none) rm_R_wrong rm_R_wrong.cells rm_R_wrong.slots G [.ref (g_r G), .int a0] M r ((f_R_wrong a0 r).map (fun z => (.inl none, M, z))) := by
  refine Ctr.ofF (own := "CheekTownModel") (by decide +kernel) hfl rfl (Nat.le_of_ble_eq_true rfl) (fun p e s m args below meth c E hno hr hnm hw ls hl => ?_)
  obtain ⟨hx, hb, hts, hown, hml, hTT, -⟩ := id E
  have hl : lv_has ls 2 [(0, .ref (g_r G)), (1, .int a0)] := hl
  obtain ⟨H, hH⟩ : ∃ H, H = s.heap := ⟨_, rfl⟩
  obtain ⟨locs, hlo⟩ : ∃ L : List Loc, L = [] := ⟨_, rfl⟩
  rw [← hH, ← hlo]
  rw [← hlo] at hw
  replace hw : w_W G M r s H locs := by rw [hH]; exact hw
  unfold f_R_wrong
  refine lv_aload_n hx hb dX12_wrong_0 rfl (lv_at hl 0 rfl) ?_
  refine rx_getI E hw on kF_R_25_11 (by decide) dX12_wrong_1 ?_
  refine lv_iconst (v := (-1)) hx hb dX12_wrong_4 (by decide) ?_
  refine cx_icmp_ne (tgt := 13) E dX12_wrong_5 (by decide) (fun _ => ?_) (fun _ => ?_)
  · exact p_vret E hw hr (Nat.le_of_ble_eq_true rfl) (Nat.le_of_ble_eq_true rfl) rfl dX12_wrong_13
  · refine lv_aload_n hx hb dX12_wrong_8 rfl (lv_at hl 0 rfl) ?_
    refine lv_iload_n hx hb dX12_wrong_9 rfl (lv_at hl 1 rfl) ?_
    refine rx_putI E hw on kF_R_25_11 (by decide) kT_11_12 dX12_wrong_10 (fun H locs hw => ?_)
    exact p_vret E hw hr (Nat.le_of_ble_eq_true rfl) (Nat.le_of_ble_eq_true rfl) rfl dX12_wrong_13
set_option maxHeartbeats 4000000 in
set_option maxRecDepth 100000 in
theorem t_R_has_ (l : Launch) (hfl : l.stackTraces = false) (G : wG) (on : g_on G = true) (N : Nat) (a0 : Nat) (M : Mem) (r : Rho) : Ctr l yX12_has_ (wWs yX12_has_ cX12_has_ 4 (some .boolean)) rm_R_has_ rm_R_has_.cells rm_R_has_.slots G [.ref (g_r G), .ref (g_sk G a0)] M r ((f_R_has_ N a0 r).map (fun z => (.inl (some (.int z.1)), M, z.2))) := by
  refine Ctr.ofF (own := "CheekTownModel") (by decide +kernel) hfl rfl (Nat.le_of_ble_eq_true rfl) (fun p e s m args below meth c E hno hr hnm hw ls hl => ?_)
  obtain ⟨hx, hb, hts, hown, hml, hTT, -⟩ := id E
  have hl : lv_has ls 4 [(0, .ref (g_r G)), (1, .ref (g_sk G a0))] := hl
  obtain ⟨H, hH⟩ : ∃ H, H = s.heap := ⟨_, rfl⟩
  obtain ⟨locs, hlo⟩ : ∃ L : List Loc, L = [] := ⟨_, rfl⟩
  rw [← hH, ← hlo]
  rw [← hlo] at hw
  replace hw : w_W G M r s H locs := by rw [hH]; exact hw
  have w55 : ∀ (n : Nat) (x2 : Int32) (x3 : Int32) (r : Rho) (H : Heap) (locs : List Loc) (ls : Array Slot), w_W G M r s H locs → lv_has ls 4 [(0, .ref (g_r G)), (1, .ref (g_sk G a0)), (2, .int x2), (3, .int x3)] → W p l e rm_R_has_ s m args below meth c H locs 0 0 (PQ G below args s rm_R_has_.cells rm_R_has_.slots (fun z => (.inl (some (.int z.1)), M, z.2)) (f_R_has__55 N a0 n x2 x3 r)) (F0 m 55 ls []) := by
    intro n
    induction n with
    | zero => intros; exact W_none
    | succ n ih =>
      intro x2 x3 r H locs ls hw hl
      rw [f_R_has__55]
      refine lv_iload_n hx hb dX12_has__55 rfl (lv_at hl 3 rfl) ?_
      refine lv_aload_n hx hb dX12_has__56 rfl (lv_at hl 1 rfl) ?_
      refine gx_slen E hw kSl_R hl.1 (Nat.le_of_ble_eq_true rfl) dX12_has__57 (Nat.le_of_ble_eq_true rfl) (Nat.le_of_ble_eq_true rfl) (Nat.le_of_ble_eq_true rfl) (Nat.le_of_ble_eq_true rfl) (fun v5 H locs hw => ?_)
      refine cx_icmp_ge (tgt := 89) E dX12_has__60 (by decide) (fun _ => ?_) (fun _ => ?_)
      · refine lv_aload_n hx hb dX12_has__89 rfl (lv_at hl 0 rfl) ?_
        refine lv_iload_n hx hb dX12_has__90 rfl (lv_at hl 2 rfl) ?_
        refine rx_putI E hw on kF_R_79_11 (by decide) kT_11_11 dX12_has__91 (fun H locs hw => ?_)
        refine lv_iconst (v := 1) hx hb dX12_has__94 (by decide) ?_
        exact p_zret E hw hr (by decide) (Nat.le_of_ble_eq_true rfl) (Nat.le_of_ble_eq_true rfl) rfl dX12_has__95
      · refine lv_aload_n hx hb dX12_has__63 rfl (lv_at hl 0 rfl) ?_
        refine lv_aload_n hx hb dX12_has__64 rfl (lv_at hl 0 rfl) ?_
        refine rx_getI E hw on kF_R_79_11 (by decide) dX12_has__65 ?_
        refine lv_iload_n hx hb dX12_has__68 rfl (lv_at hl 3 rfl) ?_
        refine lv_iadd hx hb dX12_has__69 ?_
        refine W_bind fun z6 hz => ?_
        refine w_after (cells1 := 0) (slots1 := 0) (w_runV E kV_R_85 kc_X12_letter (t_R_letter l hfl G on ((r.1 11) + x3) M r ((fun z => (.inl (some (.int z)), M, r)) z6) (by rw [hz]; rfl)) ⟨Nat.le_of_ble_eq_true rfl, Nat.le_of_ble_eq_true rfl⟩ hw (w_recvR E hw on) rfl hl.1 rfl (Nat.le_of_ble_eq_true rfl) dX12_has__70 ⟨Nat.le_of_ble_eq_true rfl, Nat.le_of_ble_eq_true rfl⟩) hw rfl (Nat.le_of_ble_eq_true rfl) (Nat.le_of_ble_eq_true rfl) (fun H locs hw => ?_)
        refine W.eq (g2 := F0 m 73 ls [.int z6]) rfl ?_
        have hw : w_W G M r s H locs := hw
        refine lv_aload_n hx hb dX12_has__73 rfl (lv_at hl 1 rfl) ?_
        refine lv_iload_n hx hb dX12_has__74 rfl (lv_at hl 3 rfl) ?_
        refine gx_schar E hw kSc_R hl.1 (Nat.le_of_ble_eq_true rfl) dX12_has__75 (Nat.le_of_ble_eq_true rfl) (Nat.le_of_ble_eq_true rfl) (Nat.le_of_ble_eq_true rfl) (Nat.le_of_ble_eq_true rfl) (fun v7 H locs hw => ?_)
        refine cx_icmp_eq (tgt := 83) E dX12_has__78 (by decide) (fun _ => ?_) (fun _ => ?_)
        · refine lv_iinc (v := x3 + 1) (lv' := [(3, .int (x3 + 1)), (0, .ref (g_r G)), (1, .ref (g_sk G a0)), (2, .int x2)]) hx hb dX12_has__83 hl (k := 3) rfl rfl (by decide) rfl (fun ls hl => ?_)
          refine lv_goto (tgt := 55) hx hb dX12_has__86 (by decide) ?_
          exact ih x2 (x3 + 1) r _ _ _ hw (lv_sub hl [1, 2, 3, 0] rfl)
        · refine lv_iconst (v := 0) hx hb dX12_has__81 (by decide) ?_
          exact p_zret E hw hr (by decide) (Nat.le_of_ble_eq_true rfl) (Nat.le_of_ble_eq_true rfl) rfl dX12_has__82
  have w38 : ∀ (x2 : Int32) (r : Rho) (H : Heap) (locs : List Loc) (ls : Array Slot), w_W G M r s H locs → lv_has ls 4 [(0, .ref (g_r G)), (1, .ref (g_sk G a0)), (2, .int x2)] → W p l e rm_R_has_ s m args below meth c H locs 0 0 (PQ G below args s rm_R_has_.cells rm_R_has_.slots (fun z => (.inl (some (.int z.1)), M, z.2)) (f_R_has__38 N a0 x2 r)) (F0 m 38 ls []) := by
    intro x2 r H locs ls hw hl
    unfold f_R_has__38
    refine lv_iload_n hx hb dX12_has__38 rfl (lv_at hl 2 rfl) ?_
    refine lv_aload_n hx hb dX12_has__39 rfl (lv_at hl 0 rfl) ?_
    refine rx_getI E hw on kF_R_79_11 (by decide) dX12_has__40 ?_
    refine lv_isub hx hb dX12_has__43 ?_
    refine lv_aload_n hx hb dX12_has__44 rfl (lv_at hl 1 rfl) ?_
    refine gx_slen E hw kSl_R hl.1 (Nat.le_of_ble_eq_true rfl) dX12_has__45 (Nat.le_of_ble_eq_true rfl) (Nat.le_of_ble_eq_true rfl) (Nat.le_of_ble_eq_true rfl) (Nat.le_of_ble_eq_true rfl) (fun v4 H locs hw => ?_)
    refine cx_icmp_eq (tgt := 53) E dX12_has__48 (by decide) (fun _ => ?_) (fun _ => ?_)
    · refine lv_iconst (v := 0) hx hb dX12_has__53 (by decide) ?_
      refine lv_istore_n (lv' := [(3, .int 0), (0, .ref (g_r G)), (1, .ref (g_sk G a0)), (2, .int x2)]) hx hb dX12_has__54 rfl hl (by decide) rfl (fun ls hl => ?_)
      exact w55  N x2 0 r _ _ _ hw (lv_sub hl [1, 2, 3, 0] rfl)
    · refine lv_iconst (v := 0) hx hb dX12_has__51 (by decide) ?_
      exact p_zret E hw hr (by decide) (Nat.le_of_ble_eq_true rfl) (Nat.le_of_ble_eq_true rfl) rfl dX12_has__52
  have w9 : ∀ (n : Nat) (x2 : Int32) (r : Rho) (H : Heap) (locs : List Loc) (ls : Array Slot), w_W G M r s H locs → lv_has ls 4 [(0, .ref (g_r G)), (1, .ref (g_sk G a0)), (2, .int x2)] → W p l e rm_R_has_ s m args below meth c H locs 0 0 (PQ G below args s rm_R_has_.cells rm_R_has_.slots (fun z => (.inl (some (.int z.1)), M, z.2)) (f_R_has__9 N a0 n x2 r)) (F0 m 9 ls []) := by
    intro n
    induction n with
    | zero => intros; exact W_none
    | succ n ih =>
      intro x2 r H locs ls hw hl
      rw [f_R_has__9]
      refine lv_iload_n hx hb dX12_has__9 rfl (lv_at hl 2 rfl) ?_
      refine lv_aload_n hx hb dX12_has__10 rfl (lv_at hl 0 rfl) ?_
      refine rx_getI E hw on kF_R_82_11 (by decide) dX12_has__11 ?_
      refine cx_icmp_ge (tgt := 38) E dX12_has__14 (by decide) (fun _ => ?_) (fun _ => ?_)
      · exact w38  x2 r _ _ _ hw (lv_sub hl [0, 1, 2] rfl)
      · refine lv_aload_n hx hb dX12_has__17 rfl (lv_at hl 0 rfl) ?_
        refine lv_iload_n hx hb dX12_has__18 rfl (lv_at hl 2 rfl) ?_
        refine W_bind fun z2 hz => ?_
        refine w_after (cells1 := 0) (slots1 := 0) (w_runV E kV_R_85 kc_X12_letter (t_R_letter l hfl G on x2 M r ((fun z => (.inl (some (.int z)), M, r)) z2) (by rw [hz]; rfl)) ⟨Nat.le_of_ble_eq_true rfl, Nat.le_of_ble_eq_true rfl⟩ hw (w_recvR E hw on) rfl hl.1 rfl (Nat.le_of_ble_eq_true rfl) dX12_has__19 ⟨Nat.le_of_ble_eq_true rfl, Nat.le_of_ble_eq_true rfl⟩) hw rfl (Nat.le_of_ble_eq_true rfl) (Nat.le_of_ble_eq_true rfl) (fun H locs hw => ?_)
        refine W.eq (g2 := F0 m 22 ls [.int z2]) rfl ?_
        have hw : w_W G M r s H locs := hw
        refine lv_bipush (v := 97) hx hb dX12_has__22 (by decide) ?_
        refine lv_bipush (v := 122) hx hb dX12_has__24 (by decide) ?_
        refine W_bind fun z3 hz => ?_
        refine w_after (cells1 := 0) (slots1 := 0) (w_runS E kS_R_59 kc_X12_isIn (t_R_isIn l hfl G z2 97 122 M r ((fun z => (.inl (some (.int z)), M, r)) z3) (by rw [hz]; rfl)) ⟨Nat.le_of_ble_eq_true rfl, Nat.le_of_ble_eq_true rfl⟩ hw rfl hl.1 rfl (Nat.le_of_ble_eq_true rfl) dX12_has__26 ⟨Nat.le_of_ble_eq_true rfl, Nat.le_of_ble_eq_true rfl⟩) hw rfl (Nat.le_of_ble_eq_true rfl) (Nat.le_of_ble_eq_true rfl) (fun H locs hw => ?_)
        refine W.eq (g2 := F0 m 29 ls [.int z3]) rfl ?_
        have hw : w_W G M r s H locs := hw
        refine cx_if_eq (tgt := 38) E dX12_has__29 (by decide) (fun _ => ?_) (fun _ => ?_)
        · exact w38  x2 r _ _ _ hw (lv_sub hl [0, 1, 2] rfl)
        · refine lv_iinc (v := x2 + 1) (lv' := [(2, .int (x2 + 1)), (0, .ref (g_r G)), (1, .ref (g_sk G a0))]) hx hb dX12_has__32 hl (k := 2) rfl rfl (by decide) rfl (fun ls hl => ?_)
          refine lv_goto (tgt := 9) hx hb dX12_has__35 (by decide) ?_
          exact ih (x2 + 1) r _ _ _ hw (lv_sub hl [1, 2, 0] rfl)
  unfold f_R_has_
  refine lv_aload_n hx hb dX12_has__0 rfl (lv_at hl 0 rfl) ?_
  refine W_bind fun z1 hz => ?_
  refine w_after (cells1 := 0) (slots1 := 0) (w_runV E kV_R_88 kc_X12_skip (t_R_skip l hfl G on N M r ((fun z => (.inl none, M, z)) z1) (by rw [hz]; rfl)) ⟨Nat.le_of_ble_eq_true rfl, Nat.le_of_ble_eq_true rfl⟩ hw (w_recvR E hw on) rfl hl.1 rfl (Nat.le_of_ble_eq_true rfl) dX12_has__1 ⟨Nat.le_of_ble_eq_true rfl, Nat.le_of_ble_eq_true rfl⟩) hw rfl (Nat.le_of_ble_eq_true rfl) (Nat.le_of_ble_eq_true rfl) (fun H locs hw => ?_)
  refine W.eq (g2 := F0 m 4 ls []) rfl ?_
  have hw : w_W G M z1 s H locs := hw
  refine lv_aload_n hx hb dX12_has__4 rfl (lv_at hl 0 rfl) ?_
  refine rx_getI E hw on kF_R_79_11 (by decide) dX12_has__5 ?_
  refine lv_istore_n (lv' := [(2, .int (z1.1 11)), (0, .ref (g_r G)), (1, .ref (g_sk G a0))]) hx hb dX12_has__8 rfl hl (by decide) rfl (fun ls hl => ?_)
  exact w9  N (z1.1 11) z1 _ _ _ hw (lv_sub hl [1, 2, 0] rfl)
set_option maxHeartbeats 4000000 in
set_option maxRecDepth 100000 in
theorem t_R_must (l : Launch) (hfl : l.stackTraces = false) (G : wG) (on : g_on G = true) (N : Nat) (a0 : Nat) (M : Mem) (r : Rho) : Ctr l yX12_must (wWs yX12_must cX12_must 2 none) rm_R_must rm_R_must.cells rm_R_must.slots G [.ref (g_r G), .ref (g_sk G a0)] M r ((f_R_must N a0 r).map (fun z => (.inl none, M, z))) := by
  refine Ctr.ofF (own := "CheekTownModel") (by decide +kernel) hfl rfl (Nat.le_of_ble_eq_true rfl) (fun p e s m args below meth c E hno hr hnm hw ls hl => ?_)
  obtain ⟨hx, hb, hts, hown, hml, hTT, -⟩ := id E
  have hl : lv_has ls 2 [(0, .ref (g_r G)), (1, .ref (g_sk G a0))] := hl
  obtain ⟨H, hH⟩ : ∃ H, H = s.heap := ⟨_, rfl⟩
  obtain ⟨locs, hlo⟩ : ∃ L : List Loc, L = [] := ⟨_, rfl⟩
  rw [← hH, ← hlo]
  rw [← hlo] at hw
  replace hw : w_W G M r s H locs := by rw [hH]; exact hw
  unfold f_R_must
  refine lv_aload_n hx hb dX12_must_0 rfl (lv_at hl 0 rfl) ?_
  refine rx_getI E hw on kF_R_25_11 (by decide) dX12_must_1 ?_
  refine lv_iconst (v := (-1)) hx hb dX12_must_4 (by decide) ?_
  refine cx_icmp_ne (tgt := 24) E dX12_must_5 (by decide) (fun _ => ?_) (fun _ => ?_)
  · exact p_vret E hw hr (Nat.le_of_ble_eq_true rfl) (Nat.le_of_ble_eq_true rfl) rfl dX12_must_24
  · refine lv_aload_n hx hb dX12_must_8 rfl (lv_at hl 0 rfl) ?_
    refine lv_aload_n hx hb dX12_must_9 rfl (lv_at hl 1 rfl) ?_
    refine W_bind fun z1 hz => ?_
    refine w_after (cells1 := 0) (slots1 := 0) (w_runV E kV_R_101 kc_X12_has_ (t_R_has_ l hfl G on N a0 M r ((fun z => (.inl (some (.int z.1)), M, z.2)) z1) (by rw [hz]; rfl)) ⟨Nat.le_of_ble_eq_true rfl, Nat.le_of_ble_eq_true rfl⟩ hw (w_recvR E hw on) rfl hl.1 rfl (Nat.le_of_ble_eq_true rfl) dX12_must_10 ⟨Nat.le_of_ble_eq_true rfl, Nat.le_of_ble_eq_true rfl⟩) hw rfl (Nat.le_of_ble_eq_true rfl) (Nat.le_of_ble_eq_true rfl) (fun H locs hw => ?_)
    refine W.eq (g2 := F0 m 13 ls [.int z1.1]) rfl ?_
    have hw : w_W G M z1.2 s H locs := hw
    refine cx_if_ne (tgt := 24) E dX12_must_13 (by decide) (fun _ => ?_) (fun _ => ?_)
    · exact p_vret E hw hr (Nat.le_of_ble_eq_true rfl) (Nat.le_of_ble_eq_true rfl) rfl dX12_must_24
    · refine lv_aload_n hx hb dX12_must_16 rfl (lv_at hl 0 rfl) ?_
      refine lv_aload_n hx hb dX12_must_17 rfl (lv_at hl 0 rfl) ?_
      refine rx_getI E hw on kF_R_79_11 (by decide) dX12_must_18 ?_
      refine W_bind fun z2 hz => ?_
      refine w_after (cells1 := 0) (slots1 := 0) (w_runV E kV_R_105 kc_X12_wrong (t_R_wrong l hfl G on (z1.2.1 11) M z1.2 ((fun z => (.inl none, M, z)) z2) (by rw [hz]; rfl)) ⟨Nat.le_of_ble_eq_true rfl, Nat.le_of_ble_eq_true rfl⟩ hw (w_recvR E hw on) rfl hl.1 rfl (Nat.le_of_ble_eq_true rfl) dX12_must_21 ⟨Nat.le_of_ble_eq_true rfl, Nat.le_of_ble_eq_true rfl⟩) hw rfl (Nat.le_of_ble_eq_true rfl) (Nat.le_of_ble_eq_true rfl) (fun H locs hw => ?_)
      refine W.eq (g2 := F0 m 24 ls []) rfl ?_
      have hw : w_W G M z2 s H locs := hw
      exact p_vret E hw hr (Nat.le_of_ble_eq_true rfl) (Nat.le_of_ble_eq_true rfl) rfl dX12_must_24
set_option maxHeartbeats 4000000 in
set_option maxRecDepth 100000 in
theorem t_R_place (l : Launch) (hfl : l.stackTraces = false) (G : wG) (on : g_on G = true) (N : Nat) (M : Mem) (r : Rho) : Ctr l yX12_place (wWs yX12_place cX12_place 1 (some .int)) rm_R_place rm_R_place.cells rm_R_place.slots G [.ref (g_r G)] M r ((f_R_place N r).map (fun z => (.inl (some (.int z.1)), M, z.2))) := by
  refine Ctr.ofF (own := "CheekTownModel") (by decide +kernel) hfl rfl (Nat.le_of_ble_eq_true rfl) (fun p e s m args below meth c E hno hr hnm hw ls hl => ?_)
  obtain ⟨hx, hb, hts, hown, hml, hTT, -⟩ := id E
  have hl : lv_has ls 1 [(0, .ref (g_r G))] := hl
  obtain ⟨H, hH⟩ : ∃ H, H = s.heap := ⟨_, rfl⟩
  obtain ⟨locs, hlo⟩ : ∃ L : List Loc, L = [] := ⟨_, rfl⟩
  rw [← hH, ← hlo]
  rw [← hlo] at hw
  replace hw : w_W G M r s H locs := by rw [hH]; exact hw
  unfold f_R_place
  refine lv_aload_n hx hb dX12_place_0 rfl (lv_at hl 0 rfl) ?_
  refine W_bind fun z1 hz => ?_
  refine w_after (cells1 := 0) (slots1 := 0) (w_runV E kV_R_88 kc_X12_skip (t_R_skip l hfl G on N M r ((fun z => (.inl none, M, z)) z1) (by rw [hz]; rfl)) ⟨Nat.le_of_ble_eq_true rfl, Nat.le_of_ble_eq_true rfl⟩ hw (w_recvR E hw on) rfl hl.1 rfl (Nat.le_of_ble_eq_true rfl) dX12_place_1 ⟨Nat.le_of_ble_eq_true rfl, Nat.le_of_ble_eq_true rfl⟩) hw rfl (Nat.le_of_ble_eq_true rfl) (Nat.le_of_ble_eq_true rfl) (fun H locs hw => ?_)
  refine W.eq (g2 := F0 m 4 ls []) rfl ?_
  have hw : w_W G M z1 s H locs := hw
  refine lv_aload_n hx hb dX12_place_4 rfl (lv_at hl 0 rfl) ?_
  refine rx_getI E hw on kF_R_79_11 (by decide) dX12_place_5 ?_
  exact p_iret E hw hr (Nat.le_of_ble_eq_true rfl) (Nat.le_of_ble_eq_true rfl) rfl dX12_place_8
set_option maxHeartbeats 4000000 in
set_option maxRecDepth 100000 in
theorem t_R_figures (l : Launch) (hfl : l.stackTraces = false) (G : wG) (on : g_on G = true) (N : Nat) (a0 : Int32) (a1 : Int32) (M : Mem) (r : Rho) : Ctr l yX12_figures (wWs yX12_figures cX12_figures 5 (some .int)) rm_R_figures rm_R_figures.cells rm_R_figures.slots G [.ref (g_r G), .int a0, .int a1] M r ((f_R_figures N a0 a1 r).map (fun z => (.inl (some (.int z.1)), M, z.2))) := by
  refine Ctr.ofF (own := "CheekTownModel") (by decide +kernel) hfl rfl (Nat.le_of_ble_eq_true rfl) (fun p e s m args below meth c E hno hr hnm hw ls hl => ?_)
  obtain ⟨hx, hb, hts, hown, hml, hTT, -⟩ := id E
  have hl : lv_has ls 5 [(0, .ref (g_r G)), (1, .int a0), (2, .int a1)] := hl
  obtain ⟨H, hH⟩ : ∃ H, H = s.heap := ⟨_, rfl⟩
  obtain ⟨locs, hlo⟩ : ∃ L : List Loc, L = [] := ⟨_, rfl⟩
  rw [← hH, ← hlo]
  rw [← hlo] at hw
  replace hw : w_W G M r s H locs := by rw [hH]; exact hw
  have w119 : ∀ (x3 : Int32) (x4 : Int32) (r : Rho) (H : Heap) (locs : List Loc) (ls : Array Slot), w_W G M r s H locs → lv_has ls 5 [(0, .ref (g_r G)), (3, .int x3), (4, .int x4)] → W p l e rm_R_figures s m args below meth c H locs 0 0 (PQ G below args s rm_R_figures.cells rm_R_figures.slots (fun z => (.inl (some (.int z.1)), M, z.2)) (f_R_figures_119 N a0 a1 x3 x4 r)) (F0 m 119 ls []) := by
    intro x3 x4 r H locs ls hw hl
    unfold f_R_figures_119
    refine lv_aload_n hx hb dX12_figures_119 rfl (lv_at hl 0 rfl) ?_
    refine lv_iload_n hx hb dX12_figures_120 rfl (lv_at hl 1 rfl) ?_
    refine W_bind fun z5 hz => ?_
    refine w_after (cells1 := 0) (slots1 := 0) (w_runV E kV_R_105 kc_X12_wrong (t_R_wrong l hfl G on x3 M r ((fun z => (.inl none, M, z)) z5) (by rw [hz]; rfl)) ⟨Nat.le_of_ble_eq_true rfl, Nat.le_of_ble_eq_true rfl⟩ hw (w_recvR E hw on) rfl hl.1 rfl (Nat.le_of_ble_eq_true rfl) dX12_figures_121 ⟨Nat.le_of_ble_eq_true rfl, Nat.le_of_ble_eq_true rfl⟩) hw rfl (Nat.le_of_ble_eq_true rfl) (Nat.le_of_ble_eq_true rfl) (fun H locs hw => ?_)
    refine W.eq (g2 := F0 m 124 ls []) rfl ?_
    have hw : w_W G M z5 s H locs := hw
    refine lv_iload hx hb dX12_figures_124 (lv_at hl 2 rfl) ?_
    exact p_iret E hw hr (Nat.le_of_ble_eq_true rfl) (Nat.le_of_ble_eq_true rfl) rfl dX12_figures_126
  have w89 : ∀ (x3 : Int32) (x4 : Int32) (r : Rho) (H : Heap) (locs : List Loc) (ls : Array Slot), w_W G M r s H locs → lv_has ls 5 [(0, .ref (g_r G)), (1, .int a0), (2, .int a1), (3, .int x3), (4, .int x4)] → W p l e rm_R_figures s m args below meth c H locs 0 0 (PQ G below args s rm_R_figures.cells rm_R_figures.slots (fun z => (.inl (some (.int z.1)), M, z.2)) (f_R_figures_89 N a0 a1 x3 x4 r)) (F0 m 89 ls []) := by
    intro x3 x4 r H locs ls hw hl
    unfold f_R_figures_89
    refine lv_aload_n hx hb dX12_figures_89 rfl (lv_at hl 0 rfl) ?_
    refine rx_getI E hw on kF_R_79_11 (by decide) dX12_figures_90 ?_
    refine lv_iload_n hx hb dX12_figures_93 rfl (lv_at hl 3 rfl) ?_
    refine cx_icmp_eq (tgt := 119) E dX12_figures_94 (by decide) (fun _ => ?_) (fun _ => ?_)
    · exact w119  x3 x4 r _ _ _ hw (lv_sub hl [0, 3, 4] rfl)
    · refine lv_aload_n hx hb dX12_figures_97 rfl (lv_at hl 0 rfl) ?_
      refine rx_getI E hw on kF_R_79_11 (by decide) dX12_figures_98 ?_
      refine lv_iload_n hx hb dX12_figures_101 rfl (lv_at hl 3 rfl) ?_
      refine lv_isub hx hb dX12_figures_102 ?_
      refine lv_iconst (v := 3) hx hb dX12_figures_103 (by decide) ?_
      refine cx_icmp_gt (tgt := 119) E dX12_figures_104 (by decide) (fun _ => ?_) (fun _ => ?_)
      · exact w119  x3 x4 r _ _ _ hw (lv_sub hl [0, 3, 4] rfl)
      · refine lv_iload hx hb dX12_figures_107 (lv_at hl 4 rfl) ?_
        refine lv_iload_n hx hb dX12_figures_109 rfl (lv_at hl 1 rfl) ?_
        refine cx_icmp_lt (tgt := 119) E dX12_figures_110 (by decide) (fun _ => ?_) (fun _ => ?_)
        · exact w119  x3 x4 r _ _ _ hw (lv_sub hl [0, 3, 4] rfl)
        · refine lv_iload hx hb dX12_figures_113 (lv_at hl 4 rfl) ?_
          refine lv_iload_n hx hb dX12_figures_115 rfl (lv_at hl 2 rfl) ?_
          refine cx_icmp_le (tgt := 124) E dX12_figures_116 (by decide) (fun _ => ?_) (fun _ => ?_)
          · refine lv_iload hx hb dX12_figures_124 (lv_at hl 4 rfl) ?_
            exact p_iret E hw hr (Nat.le_of_ble_eq_true rfl) (Nat.le_of_ble_eq_true rfl) rfl dX12_figures_126
          · exact w119  x3 x4 r _ _ _ hw (lv_sub hl [0, 3, 4] rfl)
  have w18 : ∀ (n : Nat) (x3 : Int32) (x4 : Int32) (r : Rho) (H : Heap) (locs : List Loc) (ls : Array Slot), w_W G M r s H locs → lv_has ls 5 [(0, .ref (g_r G)), (1, .int a0), (2, .int a1), (3, .int x3), (4, .int x4)] → W p l e rm_R_figures s m args below meth c H locs 0 0 (PQ G below args s rm_R_figures.cells rm_R_figures.slots (fun z => (.inl (some (.int z.1)), M, z.2)) (f_R_figures_18 N a0 a1 n x3 x4 r)) (F0 m 18 ls []) := by
    intro n
    induction n with
    | zero => intros; exact W_none
    | succ n ih =>
      intro x3 x4 r H locs ls hw hl
      rw [f_R_figures_18]
      refine lv_aload_n hx hb dX12_figures_18 rfl (lv_at hl 0 rfl) ?_
      refine rx_getI E hw on kF_R_79_11 (by decide) dX12_figures_19 ?_
      refine lv_aload_n hx hb dX12_figures_22 rfl (lv_at hl 0 rfl) ?_
      refine rx_getI E hw on kF_R_82_11 (by decide) dX12_figures_23 ?_
      refine cx_icmp_ge (tgt := 89) E dX12_figures_26 (by decide) (fun _ => ?_) (fun _ => ?_)
      · exact w89  x3 x4 r _ _ _ hw (lv_sub hl [0, 1, 2, 3, 4] rfl)
      · refine lv_aload_n hx hb dX12_figures_29 rfl (lv_at hl 0 rfl) ?_
        refine lv_aload_n hx hb dX12_figures_30 rfl (lv_at hl 0 rfl) ?_
        refine rx_getI E hw on kF_R_79_11 (by decide) dX12_figures_31 ?_
        refine W_bind fun z2 hz => ?_
        refine w_after (cells1 := 0) (slots1 := 0) (w_runV E kV_R_85 kc_X12_letter (t_R_letter l hfl G on (r.1 11) M r ((fun z => (.inl (some (.int z)), M, r)) z2) (by rw [hz]; rfl)) ⟨Nat.le_of_ble_eq_true rfl, Nat.le_of_ble_eq_true rfl⟩ hw (w_recvR E hw on) rfl hl.1 rfl (Nat.le_of_ble_eq_true rfl) dX12_figures_34 ⟨Nat.le_of_ble_eq_true rfl, Nat.le_of_ble_eq_true rfl⟩) hw rfl (Nat.le_of_ble_eq_true rfl) (Nat.le_of_ble_eq_true rfl) (fun H locs hw => ?_)
        refine W.eq (g2 := F0 m 37 ls [.int z2]) rfl ?_
        have hw : w_W G M r s H locs := hw
        refine lv_bipush (v := 48) hx hb dX12_figures_37 (by decide) ?_
        refine lv_bipush (v := 57) hx hb dX12_figures_39 (by decide) ?_
        refine W_bind fun z3 hz => ?_
        refine w_after (cells1 := 0) (slots1 := 0) (w_runS E kS_R_59 kc_X12_isIn (t_R_isIn l hfl G z2 48 57 M r ((fun z => (.inl (some (.int z)), M, r)) z3) (by rw [hz]; rfl)) ⟨Nat.le_of_ble_eq_true rfl, Nat.le_of_ble_eq_true rfl⟩ hw rfl hl.1 rfl (Nat.le_of_ble_eq_true rfl) dX12_figures_41 ⟨Nat.le_of_ble_eq_true rfl, Nat.le_of_ble_eq_true rfl⟩) hw rfl (Nat.le_of_ble_eq_true rfl) (Nat.le_of_ble_eq_true rfl) (fun H locs hw => ?_)
        refine W.eq (g2 := F0 m 44 ls [.int z3]) rfl ?_
        have hw : w_W G M r s H locs := hw
        refine cx_if_eq (tgt := 89) E dX12_figures_44 (by decide) (fun _ => ?_) (fun _ => ?_)
        · exact w89  x3 x4 r _ _ _ hw (lv_sub hl [0, 1, 2, 3, 4] rfl)
        · refine lv_aload_n hx hb dX12_figures_47 rfl (lv_at hl 0 rfl) ?_
          refine rx_getI E hw on kF_R_79_11 (by decide) dX12_figures_48 ?_
          refine lv_iload_n hx hb dX12_figures_51 rfl (lv_at hl 3 rfl) ?_
          refine lv_isub hx hb dX12_figures_52 ?_
          refine lv_iconst (v := 3) hx hb dX12_figures_53 (by decide) ?_
          refine cx_icmp_gt (tgt := 89) E dX12_figures_54 (by decide) (fun _ => ?_) (fun _ => ?_)
          · exact w89  x3 x4 r _ _ _ hw (lv_sub hl [0, 1, 2, 3, 4] rfl)
          · refine lv_bipush (v := 10) hx hb dX12_figures_57 (by decide) ?_
            refine lv_iload hx hb dX12_figures_59 (lv_at hl 4 rfl) ?_
            refine lv_imul hx hb dX12_figures_61 ?_
            refine lv_aload_n hx hb dX12_figures_62 rfl (lv_at hl 0 rfl) ?_
            refine lv_aload_n hx hb dX12_figures_63 rfl (lv_at hl 0 rfl) ?_
            refine rx_getI E hw on kF_R_79_11 (by decide) dX12_figures_64 ?_
            refine W_bind fun z4 hz => ?_
            refine w_after (cells1 := 0) (slots1 := 0) (w_runV E kV_R_85 kc_X12_letter (t_R_letter l hfl G on (r.1 11) M r ((fun z => (.inl (some (.int z)), M, r)) z4) (by rw [hz]; rfl)) ⟨Nat.le_of_ble_eq_true rfl, Nat.le_of_ble_eq_true rfl⟩ hw (w_recvR E hw on) rfl hl.1 rfl (Nat.le_of_ble_eq_true rfl) dX12_figures_67 ⟨Nat.le_of_ble_eq_true rfl, Nat.le_of_ble_eq_true rfl⟩) hw rfl (Nat.le_of_ble_eq_true rfl) (Nat.le_of_ble_eq_true rfl) (fun H locs hw => ?_)
            refine W.eq (g2 := F0 m 70 ls [.int z4, .int (10 * x4)]) rfl ?_
            have hw : w_W G M r s H locs := hw
            refine lv_iadd hx hb dX12_figures_70 ?_
            refine lv_bipush (v := 48) hx hb dX12_figures_71 (by decide) ?_
            refine lv_isub hx hb dX12_figures_73 ?_
            refine lv_istore (lv' := [(4, .int (((10 * x4) + z4) - 48)), (0, .ref (g_r G)), (1, .int a0), (2, .int a1), (3, .int x3)]) hx hb dX12_figures_74 hl (by decide) rfl (fun ls hl => ?_)
            refine lv_aload_n hx hb dX12_figures_76 rfl (lv_at hl 1 rfl) ?_
            refine lv_dup hx hb dX12_figures_77 rfl ?_
            refine rx_getI E hw on kF_R_79_11 (by decide) dX12_figures_78 ?_
            refine lv_iconst (v := 1) hx hb dX12_figures_81 (by decide) ?_
            refine lv_iadd hx hb dX12_figures_82 ?_
            refine rx_putI E hw on kF_R_79_11 (by decide) kT_11_11 dX12_figures_83 (fun H locs hw => ?_)
            refine lv_goto (tgt := 18) hx hb dX12_figures_86 (by decide) ?_
            exact ih x3 (((10 * x4) + z4) - 48) (r_set r 11 ((r.1 11) + 1)) _ _ _ hw (lv_sub hl [1, 2, 3, 4, 0] rfl)
  unfold f_R_figures
  refine lv_aload_n hx hb dX12_figures_0 rfl (lv_at hl 0 rfl) ?_
  refine rx_getI E hw on kF_R_25_11 (by decide) dX12_figures_1 ?_
  refine lv_iconst (v := (-1)) hx hb dX12_figures_4 (by decide) ?_
  refine cx_icmp_eq (tgt := 10) E dX12_figures_5 (by decide) (fun _ => ?_) (fun _ => ?_)
  · refine lv_aload_n hx hb dX12_figures_10 rfl (lv_at hl 0 rfl) ?_
    refine W_bind fun z1 hz => ?_
    refine w_after (cells1 := 0) (slots1 := 0) (w_runV E kV_R_109 kc_X12_place (t_R_place l hfl G on N M r ((fun z => (.inl (some (.int z.1)), M, z.2)) z1) (by rw [hz]; rfl)) ⟨Nat.le_of_ble_eq_true rfl, Nat.le_of_ble_eq_true rfl⟩ hw (w_recvR E hw on) rfl hl.1 rfl (Nat.le_of_ble_eq_true rfl) dX12_figures_11 ⟨Nat.le_of_ble_eq_true rfl, Nat.le_of_ble_eq_true rfl⟩) hw rfl (Nat.le_of_ble_eq_true rfl) (Nat.le_of_ble_eq_true rfl) (fun H locs hw => ?_)
    refine W.eq (g2 := F0 m 14 ls [.int z1.1]) rfl ?_
    have hw : w_W G M z1.2 s H locs := hw
    refine lv_istore_n (lv' := [(3, .int z1.1), (0, .ref (g_r G)), (1, .int a0), (2, .int a1)]) hx hb dX12_figures_14 rfl hl (by decide) rfl (fun ls hl => ?_)
    refine lv_iconst (v := 0) hx hb dX12_figures_15 (by decide) ?_
    refine lv_istore (lv' := [(4, .int 0), (3, .int z1.1), (0, .ref (g_r G)), (1, .int a0), (2, .int a1)]) hx hb dX12_figures_16 hl (by decide) rfl (fun ls hl => ?_)
    exact w18  N z1.1 0 z1.2 _ _ _ hw (lv_sub hl [2, 3, 4, 1, 0] rfl)
  · refine lv_iconst (v := 0) hx hb dX12_figures_8 (by decide) ?_
    exact p_iret E hw hr (Nat.le_of_ble_eq_true rfl) (Nat.le_of_ble_eq_true rfl) rfl dX12_figures_9
set_option maxHeartbeats 4000000 in
set_option maxRecDepth 100000 in
theorem t_R_greeting (l : Launch) (hfl : l.stackTraces = false) (G : wG) (on : g_on G = true) (N : Nat) (M : Mem) (r : Rho) : Ctr l yX12_greeting (wWs yX12_greeting cX12_greeting 3 (some .int)) rm_R_greeting rm_R_greeting.cells rm_R_greeting.slots G [.ref (g_r G)] M r ((f_R_greeting N r).map (fun z => (.inl (some (.int z.1)), M, z.2))) := by
  refine Ctr.ofF (own := "CheekTownModel") (by decide +kernel) hfl rfl (Nat.le_of_ble_eq_true rfl) (fun p e s m args below meth c E hno hr hnm hw ls hl => ?_)
  obtain ⟨hx, hb, hts, hown, hml, hTT, -⟩ := id E
  have hl : lv_has ls 3 [(0, .ref (g_r G))] := hl
  obtain ⟨H, hH⟩ : ∃ H, H = s.heap := ⟨_, rfl⟩
  obtain ⟨locs, hlo⟩ : ∃ L : List Loc, L = [] := ⟨_, rfl⟩
  rw [← hH, ← hlo]
  rw [← hlo] at hw
  replace hw : w_W G M r s H locs := by rw [hH]; exact hw
  have w100 : ∀ (y0 : Int32) (y1 : Int32) (r : Rho) (H : Heap) (locs : List Loc) (ls : Array Slot), w_W G M r s H locs → lv_has ls 3 [] → W p l e rm_R_greeting s m args below meth c H locs 0 0 (PQ G below args s rm_R_greeting.cells rm_R_greeting.slots (fun z => (.inl (some (.int z.1)), M, z.2)) (f_R_greeting_100 N y0 y1 r)) (F0 m 100 ls [.int y1, .int y0]) := by
    intro y0 y1 r H locs ls hw hl
    unfold f_R_greeting_100
    refine lv_iadd hx hb dX12_greeting_100 ?_
    exact p_iret E hw hr (Nat.le_of_ble_eq_true rfl) (Nat.le_of_ble_eq_true rfl) rfl dX12_greeting_101
  have w85 : ∀ (x1 : Int32) (x2 : Int32) (r : Rho) (H : Heap) (locs : List Loc) (ls : Array Slot), w_W G M r s H locs → lv_has ls 3 [(1, .int x1), (2, .int x2)] → W p l e rm_R_greeting s m args below meth c H locs 0 0 (PQ G below args s rm_R_greeting.cells rm_R_greeting.slots (fun z => (.inl (some (.int z.1)), M, z.2)) (f_R_greeting_85 N x1 x2 r)) (F0 m 85 ls []) := by
    intro x1 x2 r H locs ls hw hl
    unfold f_R_greeting_85
    refine lv_bipush (v := 14) hx hb dX12_greeting_85 (by decide) ?_
    refine lv_iconst (v := 2) hx hb dX12_greeting_87 (by decide) ?_
    refine lv_iload_n hx hb dX12_greeting_88 rfl (lv_at hl 0 rfl) ?_
    refine lv_imul hx hb dX12_greeting_89 ?_
    refine lv_iadd hx hb dX12_greeting_90 ?_
    refine lv_iload_n hx hb dX12_greeting_91 rfl (lv_at hl 1 rfl) ?_
    refine cx_if_eq (tgt := 99) E dX12_greeting_92 (by decide) (fun _ => ?_) (fun _ => ?_)
    · refine lv_iconst (v := 0) hx hb dX12_greeting_99 (by decide) ?_
      exact w100  (14 + (2 * x1)) 0 r _ _ _ hw (lv_sub hl [] rfl)
    · refine lv_iconst (v := 1) hx hb dX12_greeting_95 (by decide) ?_
      refine lv_goto (tgt := 100) hx hb dX12_greeting_96 (by decide) ?_
      exact w100  (14 + (2 * x1)) 1 r _ _ _ hw (lv_sub hl [] rfl)
  unfold f_R_greeting
  refine lv_aload_n hx hb dX12_greeting_0 rfl (lv_at hl 0 rfl) ?_
  refine rx_getI E hw on kF_R_25_11 (by decide) dX12_greeting_1 ?_
  refine lv_iconst (v := (-1)) hx hb dX12_greeting_4 (by decide) ?_
  refine cx_icmp_eq (tgt := 10) E dX12_greeting_5 (by decide) (fun _ => ?_) (fun _ => ?_)
  · refine lv_aload_n hx hb dX12_greeting_10 rfl (lv_at hl 0 rfl) ?_
    refine va_ldcS hx hb hown (hTT.2.2.1 42 _ rfl) dX12_greeting_11 ?_
    refine W_bind fun z1 hz => ?_
    refine w_after (cells1 := 0) (slots1 := 0) (w_runV E kV_R_101 kc_X12_has_ (t_R_has_ l hfl G on N 42 M r ((fun z => (.inl (some (.int z.1)), M, z.2)) z1) (by rw [hz]; rfl)) ⟨Nat.le_of_ble_eq_true rfl, Nat.le_of_ble_eq_true rfl⟩ hw (w_recvR E hw on) rfl hl.1 rfl (Nat.le_of_ble_eq_true rfl) dX12_greeting_13 ⟨Nat.le_of_ble_eq_true rfl, Nat.le_of_ble_eq_true rfl⟩) hw rfl (Nat.le_of_ble_eq_true rfl) (Nat.le_of_ble_eq_true rfl) (fun H locs hw => ?_)
    refine W.eq (g2 := F0 m 16 ls [.int z1.1]) rfl ?_
    have hw : w_W G M z1.2 s H locs := hw
    refine cx_if_eq (tgt := 21) E dX12_greeting_16 (by decide) (fun _ => ?_) (fun _ => ?_)
    · refine lv_aload_n hx hb dX12_greeting_21 rfl (lv_at hl 0 rfl) ?_
      refine va_ldcS hx hb hown (hTT.2.2.1 43 _ rfl) dX12_greeting_22 ?_
      refine W_bind fun z2 hz => ?_
      refine w_after (cells1 := 0) (slots1 := 0) (w_runV E kV_R_101 kc_X12_has_ (t_R_has_ l hfl G on N 43 M z1.2 ((fun z => (.inl (some (.int z.1)), M, z.2)) z2) (by rw [hz]; rfl)) ⟨Nat.le_of_ble_eq_true rfl, Nat.le_of_ble_eq_true rfl⟩ hw (w_recvR E hw on) rfl hl.1 rfl (Nat.le_of_ble_eq_true rfl) dX12_greeting_24 ⟨Nat.le_of_ble_eq_true rfl, Nat.le_of_ble_eq_true rfl⟩) hw rfl (Nat.le_of_ble_eq_true rfl) (Nat.le_of_ble_eq_true rfl) (fun H locs hw => ?_)
      refine W.eq (g2 := F0 m 27 ls [.int z2.1]) rfl ?_
      have hw : w_W G M z2.2 s H locs := hw
      refine cx_if_eq (tgt := 33) E dX12_greeting_27 (by decide) (fun _ => ?_) (fun _ => ?_)
      · refine lv_aload_n hx hb dX12_greeting_33 rfl (lv_at hl 0 rfl) ?_
        refine va_ldcS hx hb hown (hTT.2.2.1 44 _ rfl) dX12_greeting_34 ?_
        refine W_bind fun z3 hz => ?_
        refine w_after (cells1 := 0) (slots1 := 0) (w_runV E kV_R_101 kc_X12_has_ (t_R_has_ l hfl G on N 44 M z2.2 ((fun z => (.inl (some (.int z.1)), M, z.2)) z3) (by rw [hz]; rfl)) ⟨Nat.le_of_ble_eq_true rfl, Nat.le_of_ble_eq_true rfl⟩ hw (w_recvR E hw on) rfl hl.1 rfl (Nat.le_of_ble_eq_true rfl) dX12_greeting_36 ⟨Nat.le_of_ble_eq_true rfl, Nat.le_of_ble_eq_true rfl⟩) hw rfl (Nat.le_of_ble_eq_true rfl) (Nat.le_of_ble_eq_true rfl) (fun H locs hw => ?_)
        refine W.eq (g2 := F0 m 39 ls [.int z3.1]) rfl ?_
        have hw : w_W G M z3.2 s H locs := hw
        refine cx_if_eq (tgt := 45) E dX12_greeting_39 (by decide) (fun _ => ?_) (fun _ => ?_)
        · refine lv_aload_n hx hb dX12_greeting_45 rfl (lv_at hl 0 rfl) ?_
          refine va_ldcS hx hb hown (hTT.2.2.1 45 _ rfl) dX12_greeting_46 ?_
          refine W_bind fun z4 hz => ?_
          refine w_after (cells1 := 0) (slots1 := 0) (w_runV E kV_R_120 kc_X12_must (t_R_must l hfl G on N 45 M z3.2 ((fun z => (.inl none, M, z)) z4) (by rw [hz]; rfl)) ⟨Nat.le_of_ble_eq_true rfl, Nat.le_of_ble_eq_true rfl⟩ hw (w_recvR E hw on) rfl hl.1 rfl (Nat.le_of_ble_eq_true rfl) dX12_greeting_48 ⟨Nat.le_of_ble_eq_true rfl, Nat.le_of_ble_eq_true rfl⟩) hw rfl (Nat.le_of_ble_eq_true rfl) (Nat.le_of_ble_eq_true rfl) (fun H locs hw => ?_)
          refine W.eq (g2 := F0 m 51 ls []) rfl ?_
          have hw : w_W G M z4 s H locs := hw
          refine lv_aload_n hx hb dX12_greeting_51 rfl (lv_at hl 0 rfl) ?_
          refine lv_iconst (v := 1) hx hb dX12_greeting_52 (by decide) ?_
          refine lv_iconst (v := 4) hx hb dX12_greeting_53 (by decide) ?_
          refine W_bind fun z5 hz => ?_
          refine w_after (cells1 := 0) (slots1 := 0) (w_runV E kV_R_124 kc_X12_figures (t_R_figures l hfl G on N 1 4 M z4 ((fun z => (.inl (some (.int z.1)), M, z.2)) z5) (by rw [hz]; rfl)) ⟨Nat.le_of_ble_eq_true rfl, Nat.le_of_ble_eq_true rfl⟩ hw (w_recvR E hw on) rfl hl.1 rfl (Nat.le_of_ble_eq_true rfl) dX12_greeting_54 ⟨Nat.le_of_ble_eq_true rfl, Nat.le_of_ble_eq_true rfl⟩) hw rfl (Nat.le_of_ble_eq_true rfl) (Nat.le_of_ble_eq_true rfl) (fun H locs hw => ?_)
          refine W.eq (g2 := F0 m 57 ls [.int z5.1]) rfl ?_
          have hw : w_W G M z5.2 s H locs := hw
          refine lv_istore_n (lv' := [(1, .int z5.1), (0, .ref (g_r G))]) hx hb dX12_greeting_57 rfl hl (by decide) rfl (fun ls hl => ?_)
          refine lv_aload_n hx hb dX12_greeting_58 rfl (lv_at hl 1 rfl) ?_
          refine rx_getI E hw on kF_R_25_11 (by decide) dX12_greeting_59 ?_
          refine lv_iconst (v := (-1)) hx hb dX12_greeting_62 (by decide) ?_
          refine cx_icmp_eq (tgt := 68) E dX12_greeting_63 (by decide) (fun _ => ?_) (fun _ => ?_)
          · refine lv_aload_n hx hb dX12_greeting_68 rfl (lv_at hl 1 rfl) ?_
            refine va_ldcS hx hb hown (hTT.2.2.1 46 _ rfl) dX12_greeting_69 ?_
            refine W_bind fun z6 hz => ?_
            refine w_after (cells1 := 0) (slots1 := 0) (w_runV E kV_R_101 kc_X12_has_ (t_R_has_ l hfl G on N 46 M z5.2 ((fun z => (.inl (some (.int z.1)), M, z.2)) z6) (by rw [hz]; rfl)) ⟨Nat.le_of_ble_eq_true rfl, Nat.le_of_ble_eq_true rfl⟩ hw (w_recvR E hw on) rfl hl.1 rfl (Nat.le_of_ble_eq_true rfl) dX12_greeting_71 ⟨Nat.le_of_ble_eq_true rfl, Nat.le_of_ble_eq_true rfl⟩) hw rfl (Nat.le_of_ble_eq_true rfl) (Nat.le_of_ble_eq_true rfl) (fun H locs hw => ?_)
            refine W.eq (g2 := F0 m 74 ls [.int z6.1]) rfl ?_
            have hw : w_W G M z6.2 s H locs := hw
            refine lv_istore_n (lv' := [(2, .int z6.1), (1, .int z5.1), (0, .ref (g_r G))]) hx hb dX12_greeting_74 rfl hl (by decide) rfl (fun ls hl => ?_)
            refine lv_iload_n hx hb dX12_greeting_75 rfl (lv_at hl 0 rfl) ?_
            refine cx_if_ne (tgt := 85) E dX12_greeting_76 (by decide) (fun _ => ?_) (fun _ => ?_)
            · exact w85  z5.1 z6.1 z6.2 _ _ _ hw (lv_sub hl [1, 0] rfl)
            · refine lv_aload_n hx hb dX12_greeting_79 rfl (lv_at hl 2 rfl) ?_
              refine va_ldcS hx hb hown (hTT.2.2.1 47 _ rfl) dX12_greeting_80 ?_
              refine W_bind fun z7 hz => ?_
              refine w_after (cells1 := 0) (slots1 := 0) (w_runV E kV_R_120 kc_X12_must (t_R_must l hfl G on N 47 M z6.2 ((fun z => (.inl none, M, z)) z7) (by rw [hz]; rfl)) ⟨Nat.le_of_ble_eq_true rfl, Nat.le_of_ble_eq_true rfl⟩ hw (w_recvR E hw on) rfl hl.1 rfl (Nat.le_of_ble_eq_true rfl) dX12_greeting_82 ⟨Nat.le_of_ble_eq_true rfl, Nat.le_of_ble_eq_true rfl⟩) hw rfl (Nat.le_of_ble_eq_true rfl) (Nat.le_of_ble_eq_true rfl) (fun H locs hw => ?_)
              refine W.eq (g2 := F0 m 85 ls []) rfl ?_
              have hw : w_W G M z7 s H locs := hw
              exact w85  z5.1 z6.1 z7 _ _ _ hw (lv_sub hl [1, 0] rfl)
          · refine lv_iconst (v := 0) hx hb dX12_greeting_66 (by decide) ?_
            exact p_iret E hw hr (Nat.le_of_ble_eq_true rfl) (Nat.le_of_ble_eq_true rfl) rfl dX12_greeting_67
        · refine lv_bipush (v := 24) hx hb dX12_greeting_42 (by decide) ?_
          exact p_iret E hw hr (Nat.le_of_ble_eq_true rfl) (Nat.le_of_ble_eq_true rfl) rfl dX12_greeting_44
      · refine lv_bipush (v := 8) hx hb dX12_greeting_30 (by decide) ?_
        exact p_iret E hw hr (Nat.le_of_ble_eq_true rfl) (Nat.le_of_ble_eq_true rfl) rfl dX12_greeting_32
    · refine lv_iconst (v := 0) hx hb dX12_greeting_19 (by decide) ?_
      exact p_iret E hw hr (Nat.le_of_ble_eq_true rfl) (Nat.le_of_ble_eq_true rfl) rfl dX12_greeting_20
  · refine lv_iconst (v := 0) hx hb dX12_greeting_8 (by decide) ?_
    exact p_iret E hw hr (Nat.le_of_ble_eq_true rfl) (Nat.le_of_ble_eq_true rfl) rfl dX12_greeting_9
set_option maxHeartbeats 4000000 in
set_option maxRecDepth 100000 in
theorem t_R_every (l : Launch) (hfl : l.stackTraces = false) (G : wG) (on : g_on G = true) (N : Nat) (dp : Rho → Option (Int32 × Rho)) (d : Nat) (hdp : ∀ (M : Mem) (r : Rho), Ctr l yX12_atom (wWs yX12_atom cX12_atom 4 (some .boolean)) (rm_R_atom d) 0 0 G [.ref (g_r G)] M r ((dp r).map (fun z => (.inl (some (.int z.1)), M, z.2)))) (M : Mem) (r : Rho) : Ctr l yX12_every (wWs yX12_every cX12_every 3 (some .boolean)) (rm_R_every d) (rm_R_every d).cells (rm_R_every d).slots G [.ref (g_r G)] M r ((f_R_every N dp r).map (fun z => (.inl (some (.int z.1)), M, z.2))) := by
  refine Ctr.ofF (own := "CheekTownModel") (by decide +kernel) hfl rfl (Nat.le_of_ble_eq_true rfl) (fun p e s m args below meth c E hno hr hnm hw ls hl => ?_)
  obtain ⟨hx, hb, hts, hown, hml, hTT, -⟩ := id E
  have hl : lv_has ls 3 [(0, .ref (g_r G))] := hl
  obtain ⟨H, hH⟩ : ∃ H, H = s.heap := ⟨_, rfl⟩
  obtain ⟨locs, hlo⟩ : ∃ L : List Loc, L = [] := ⟨_, rfl⟩
  rw [← hH, ← hlo]
  rw [← hlo] at hw
  replace hw : w_W G M r s H locs := by rw [hH]; exact hw
  have w40 : ∀ (k5 : Int32 → Rho → Option (Int32 × Rho)) (hk5 : ∀ (x1 : Int32) (r : Rho) (H : Heap) (locs : List Loc) (ls : Array Slot), w_W G M r s H locs → lv_has ls 3 [(0, .ref (g_r G)), (1, .int x1)] → W p l e (rm_R_every d) s m args below meth c H locs 0 0 (PQ G below args s (rm_R_every d).cells (rm_R_every d).slots (fun z => (.inl (some (.int z.1)), M, z.2)) (k5 x1 r)) (F0 m 5 ls [])) (y0 : Int32) (r : Rho) (H : Heap) (locs : List Loc) (ls : Array Slot), w_W G M r s H locs → lv_has ls 3 [(0, .ref (g_r G))] → W p l e (rm_R_every d) s m args below meth c H locs 0 0 (PQ G below args s (rm_R_every d).cells (rm_R_every d).slots (fun z => (.inl (some (.int z.1)), M, z.2)) (f_R_every_40 N dp k5 y0 r)) (F0 m 40 ls [.int y0]) := by
    intro k5 hk5 y0 r H locs ls hw hl
    unfold f_R_every_40
    refine lv_istore_n (lv' := [(1, .int y0), (0, .ref (g_r G))]) hx hb dX12_every_40 rfl hl (by decide) rfl (fun ls hl => ?_)
    refine lv_goto (tgt := 5) hx hb dX12_every_41 (by decide) ?_
    exact hk5 y0 r _ _ _ hw (lv_sub hl [1, 0] rfl)
  have w39 : ∀ (k5 : Int32 → Rho → Option (Int32 × Rho)) (hk5 : ∀ (x1 : Int32) (r : Rho) (H : Heap) (locs : List Loc) (ls : Array Slot), w_W G M r s H locs → lv_has ls 3 [(0, .ref (g_r G)), (1, .int x1)] → W p l e (rm_R_every d) s m args below meth c H locs 0 0 (PQ G below args s (rm_R_every d).cells (rm_R_every d).slots (fun z => (.inl (some (.int z.1)), M, z.2)) (k5 x1 r)) (F0 m 5 ls [])) (r : Rho) (H : Heap) (locs : List Loc) (ls : Array Slot), w_W G M r s H locs → lv_has ls 3 [(0, .ref (g_r G))] → W p l e (rm_R_every d) s m args below meth c H locs 0 0 (PQ G below args s (rm_R_every d).cells (rm_R_every d).slots (fun z => (.inl (some (.int z.1)), M, z.2)) (f_R_every_39 N dp k5 r)) (F0 m 39 ls []) := by
    intro k5 hk5 r H locs ls hw hl
    unfold f_R_every_39
    refine lv_iconst (v := 0) hx hb dX12_every_39 (by decide) ?_
    exact w40 k5 hk5 0 r _ _ _ hw (lv_sub hl [0] rfl)
  have w5 : ∀ (n : Nat) (x1 : Int32) (r : Rho) (H : Heap) (locs : List Loc) (ls : Array Slot), w_W G M r s H locs → lv_has ls 3 [(0, .ref (g_r G)), (1, .int x1)] → W p l e (rm_R_every d) s m args below meth c H locs 0 0 (PQ G below args s (rm_R_every d).cells (rm_R_every d).slots (fun z => (.inl (some (.int z.1)), M, z.2)) (f_R_every_5 N dp n x1 r)) (F0 m 5 ls []) := by
    intro n
    induction n with
    | zero => intros; exact W_none
    | succ n ih =>
      intro x1 r H locs ls hw hl
      rw [f_R_every_5]
      refine lv_aload_n hx hb dX12_every_5 rfl (lv_at hl 0 rfl) ?_
      refine rx_getI E hw on kF_R_25_11 (by decide) dX12_every_6 ?_
      refine lv_iconst (v := (-1)) hx hb dX12_every_9 (by decide) ?_
      refine cx_icmp_ne (tgt := 44) E dX12_every_10 (by decide) (fun _ => ?_) (fun _ => ?_)
      · refine lv_iload_n hx hb dX12_every_44 rfl (lv_at hl 1 rfl) ?_
        refine W_bind fun z2 hz => ?_
        obtain ⟨rfl, hz0⟩ := zg_ok hz
        exact p_zret E hw hr hz0 (Nat.le_of_ble_eq_true rfl) (Nat.le_of_ble_eq_true rfl) rfl dX12_every_45
      · refine lv_aload_n hx hb dX12_every_13 rfl (lv_at hl 0 rfl) ?_
        refine va_ldcS hx hb hown (hTT.2.2.1 58 _ rfl) dX12_every_14 ?_
        refine W_bind fun z3 hz => ?_
        refine w_after (cells1 := 0) (slots1 := 0) (w_runV E kV_R_101 kc_X12_has_ (t_R_has_ l hfl G on N 58 M r ((fun z => (.inl (some (.int z.1)), M, z.2)) z3) (by rw [hz]; rfl)) ⟨by show 8 + 1 ≤ 60 + 12 * d + 1; omega, by show 8 + (4 + 11) + (400) ≤ 3000 + 400 * d + 60; omega⟩ hw (w_recvR E hw on) rfl hl.1 rfl (Nat.le_of_ble_eq_true rfl) dX12_every_16 ⟨Nat.le_refl _, Nat.le_refl _⟩) hw rfl (Nat.le_refl _) (Nat.le_refl _) (fun H locs hw => ?_)
        refine W.eq (g2 := F0 m 19 ls [.int z3.1]) rfl ?_
        have hw : w_W G M z3.2 s H locs := hw
        refine cx_if_eq (tgt := 44) E dX12_every_19 (by decide) (fun _ => ?_) (fun _ => ?_)
        · refine lv_iload_n hx hb dX12_every_44 rfl (lv_at hl 1 rfl) ?_
          refine W_bind fun z4 hz => ?_
          obtain ⟨rfl, hz0⟩ := zg_ok hz
          exact p_zret E hw hr hz0 (Nat.le_of_ble_eq_true rfl) (Nat.le_of_ble_eq_true rfl) rfl dX12_every_45
        · refine lv_aload_n hx hb dX12_every_22 rfl (lv_at hl 0 rfl) ?_
          refine W_bind fun z5 hz => ?_
          refine w_after (cells1 := 0) (slots1 := 0) (w_runV E kV_R_239 kc_X12_atom (hdp M z3.2 ((fun z => (.inl (some (.int z.1)), M, z.2)) z5) (by rw [hz]; rfl)) ⟨by show 60 + 12 * d + 0 + 1 ≤ 60 + 12 * d + 1; omega, by show 8 + (4 + 11) + (3000 + 400 * d + 0) ≤ 3000 + 400 * d + 60; omega⟩ hw (w_recvR E hw on) rfl hl.1 rfl (Nat.le_of_ble_eq_true rfl) dX12_every_23 ⟨Nat.le_refl _, Nat.le_refl _⟩) hw rfl (Nat.le_refl _) (Nat.le_refl _) (fun H locs hw => ?_)
          refine W.eq (g2 := F0 m 26 ls [.int z5.1]) rfl ?_
          have hw : w_W G M z5.2 s H locs := hw
          refine lv_istore_n (lv' := [(2, .int z5.1), (0, .ref (g_r G)), (1, .int x1)]) hx hb dX12_every_26 rfl hl (by decide) rfl (fun ls hl => ?_)
          refine lv_iload_n hx hb dX12_every_27 rfl (lv_at hl 2 rfl) ?_
          refine cx_if_eq (tgt := 39) E dX12_every_28 (by decide) (fun _ => ?_) (fun _ => ?_)
          · exact w39 (f_R_every_5 N dp n) ih z5.2 _ _ _ hw (lv_sub hl [1] rfl)
          · refine lv_iload_n hx hb dX12_every_31 rfl (lv_at hl 0 rfl) ?_
            refine cx_if_eq (tgt := 39) E dX12_every_32 (by decide) (fun _ => ?_) (fun _ => ?_)
            · exact w39 (f_R_every_5 N dp n) ih z5.2 _ _ _ hw (lv_sub hl [1] rfl)
            · refine lv_iconst (v := 1) hx hb dX12_every_35 (by decide) ?_
              refine lv_goto (tgt := 40) hx hb dX12_every_36 (by decide) ?_
              exact w40 (f_R_every_5 N dp n) ih 1 z5.2 _ _ _ hw (lv_sub hl [1] rfl)
  unfold f_R_every
  refine lv_aload_n hx hb dX12_every_0 rfl (lv_at hl 0 rfl) ?_
  refine W_bind fun z1 hz => ?_
  refine w_after (cells1 := 0) (slots1 := 0) (w_runV E kV_R_239 kc_X12_atom (hdp M r ((fun z => (.inl (some (.int z.1)), M, z.2)) z1) (by rw [hz]; rfl)) ⟨by show 60 + 12 * d + 0 + 1 ≤ 60 + 12 * d + 1; omega, by show 8 + (4 + 11) + (3000 + 400 * d + 0) ≤ 3000 + 400 * d + 60; omega⟩ hw (w_recvR E hw on) rfl hl.1 rfl (Nat.le_of_ble_eq_true rfl) dX12_every_1 ⟨Nat.le_refl _, Nat.le_refl _⟩) hw rfl (Nat.le_refl _) (Nat.le_refl _) (fun H locs hw => ?_)
  refine W.eq (g2 := F0 m 4 ls [.int z1.1]) rfl ?_
  have hw : w_W G M z1.2 s H locs := hw
  refine lv_istore_n (lv' := [(1, .int z1.1), (0, .ref (g_r G))]) hx hb dX12_every_4 rfl hl (by decide) rfl (fun ls hl => ?_)
  exact w5  N z1.1 z1.2 _ _ _ hw (lv_sub hl [1, 0] rfl)
set_option maxHeartbeats 4000000 in
set_option maxRecDepth 100000 in
theorem t_R_some (l : Launch) (hfl : l.stackTraces = false) (G : wG) (on : g_on G = true) (N : Nat) (dp : Rho → Option (Int32 × Rho)) (d : Nat) (hdp : ∀ (M : Mem) (r : Rho), Ctr l yX12_atom (wWs yX12_atom cX12_atom 4 (some .boolean)) (rm_R_atom d) 0 0 G [.ref (g_r G)] M r ((dp r).map (fun z => (.inl (some (.int z.1)), M, z.2)))) (M : Mem) (r : Rho) : Ctr l yX12_some (wWs yX12_some cX12_some 3 (some .boolean)) (rm_R_some d) (rm_R_some d).cells (rm_R_some d).slots G [.ref (g_r G)] M r ((f_R_some N dp r).map (fun z => (.inl (some (.int z.1)), M, z.2))) := by
  refine Ctr.ofF (own := "CheekTownModel") (by decide +kernel) hfl rfl (Nat.le_of_ble_eq_true rfl) (fun p e s m args below meth c E hno hr hnm hw ls hl => ?_)
  obtain ⟨hx, hb, hts, hown, hml, hTT, -⟩ := id E
  have hl : lv_has ls 3 [(0, .ref (g_r G))] := hl
  obtain ⟨H, hH⟩ : ∃ H, H = s.heap := ⟨_, rfl⟩
  obtain ⟨locs, hlo⟩ : ∃ L : List Loc, L = [] := ⟨_, rfl⟩
  rw [← hH, ← hlo]
  rw [← hlo] at hw
  replace hw : w_W G M r s H locs := by rw [hH]; exact hw
  have w40 : ∀ (k5 : Int32 → Rho → Option (Int32 × Rho)) (hk5 : ∀ (x1 : Int32) (r : Rho) (H : Heap) (locs : List Loc) (ls : Array Slot), w_W G M r s H locs → lv_has ls 3 [(0, .ref (g_r G)), (1, .int x1)] → W p l e (rm_R_some d) s m args below meth c H locs 0 0 (PQ G below args s (rm_R_some d).cells (rm_R_some d).slots (fun z => (.inl (some (.int z.1)), M, z.2)) (k5 x1 r)) (F0 m 5 ls [])) (y0 : Int32) (r : Rho) (H : Heap) (locs : List Loc) (ls : Array Slot), w_W G M r s H locs → lv_has ls 3 [(0, .ref (g_r G))] → W p l e (rm_R_some d) s m args below meth c H locs 0 0 (PQ G below args s (rm_R_some d).cells (rm_R_some d).slots (fun z => (.inl (some (.int z.1)), M, z.2)) (f_R_some_40 N dp k5 y0 r)) (F0 m 40 ls [.int y0]) := by
    intro k5 hk5 y0 r H locs ls hw hl
    unfold f_R_some_40
    refine lv_istore_n (lv' := [(1, .int y0), (0, .ref (g_r G))]) hx hb dX12_some_40 rfl hl (by decide) rfl (fun ls hl => ?_)
    refine lv_goto (tgt := 5) hx hb dX12_some_41 (by decide) ?_
    exact hk5 y0 r _ _ _ hw (lv_sub hl [1, 0] rfl)
  have w35 : ∀ (k5 : Int32 → Rho → Option (Int32 × Rho)) (hk5 : ∀ (x1 : Int32) (r : Rho) (H : Heap) (locs : List Loc) (ls : Array Slot), w_W G M r s H locs → lv_has ls 3 [(0, .ref (g_r G)), (1, .int x1)] → W p l e (rm_R_some d) s m args below meth c H locs 0 0 (PQ G below args s (rm_R_some d).cells (rm_R_some d).slots (fun z => (.inl (some (.int z.1)), M, z.2)) (k5 x1 r)) (F0 m 5 ls [])) (r : Rho) (H : Heap) (locs : List Loc) (ls : Array Slot), w_W G M r s H locs → lv_has ls 3 [(0, .ref (g_r G))] → W p l e (rm_R_some d) s m args below meth c H locs 0 0 (PQ G below args s (rm_R_some d).cells (rm_R_some d).slots (fun z => (.inl (some (.int z.1)), M, z.2)) (f_R_some_35 N dp k5 r)) (F0 m 35 ls []) := by
    intro k5 hk5 r H locs ls hw hl
    unfold f_R_some_35
    refine lv_iconst (v := 1) hx hb dX12_some_35 (by decide) ?_
    refine lv_goto (tgt := 40) hx hb dX12_some_36 (by decide) ?_
    exact w40 k5 hk5 1 r _ _ _ hw (lv_sub hl [0] rfl)
  have w5 : ∀ (n : Nat) (x1 : Int32) (r : Rho) (H : Heap) (locs : List Loc) (ls : Array Slot), w_W G M r s H locs → lv_has ls 3 [(0, .ref (g_r G)), (1, .int x1)] → W p l e (rm_R_some d) s m args below meth c H locs 0 0 (PQ G below args s (rm_R_some d).cells (rm_R_some d).slots (fun z => (.inl (some (.int z.1)), M, z.2)) (f_R_some_5 N dp n x1 r)) (F0 m 5 ls []) := by
    intro n
    induction n with
    | zero => intros; exact W_none
    | succ n ih =>
      intro x1 r H locs ls hw hl
      rw [f_R_some_5]
      refine lv_aload_n hx hb dX12_some_5 rfl (lv_at hl 0 rfl) ?_
      refine rx_getI E hw on kF_R_25_11 (by decide) dX12_some_6 ?_
      refine lv_iconst (v := (-1)) hx hb dX12_some_9 (by decide) ?_
      refine cx_icmp_ne (tgt := 44) E dX12_some_10 (by decide) (fun _ => ?_) (fun _ => ?_)
      · refine lv_iload_n hx hb dX12_some_44 rfl (lv_at hl 1 rfl) ?_
        refine W_bind fun z2 hz => ?_
        obtain ⟨rfl, hz0⟩ := zg_ok hz
        exact p_zret E hw hr hz0 (Nat.le_of_ble_eq_true rfl) (Nat.le_of_ble_eq_true rfl) rfl dX12_some_45
      · refine lv_aload_n hx hb dX12_some_13 rfl (lv_at hl 0 rfl) ?_
        refine va_ldcS hx hb hown (hTT.2.2.1 59 _ rfl) dX12_some_14 ?_
        refine W_bind fun z3 hz => ?_
        refine w_after (cells1 := 0) (slots1 := 0) (w_runV E kV_R_101 kc_X12_has_ (t_R_has_ l hfl G on N 59 M r ((fun z => (.inl (some (.int z.1)), M, z.2)) z3) (by rw [hz]; rfl)) ⟨by show 8 + 1 ≤ 60 + 12 * d + 2; omega, by show 8 + (4 + 11) + (400) ≤ 3000 + 400 * d + 120; omega⟩ hw (w_recvR E hw on) rfl hl.1 rfl (Nat.le_of_ble_eq_true rfl) dX12_some_16 ⟨Nat.le_refl _, Nat.le_refl _⟩) hw rfl (Nat.le_refl _) (Nat.le_refl _) (fun H locs hw => ?_)
        refine W.eq (g2 := F0 m 19 ls [.int z3.1]) rfl ?_
        have hw : w_W G M z3.2 s H locs := hw
        refine cx_if_eq (tgt := 44) E dX12_some_19 (by decide) (fun _ => ?_) (fun _ => ?_)
        · refine lv_iload_n hx hb dX12_some_44 rfl (lv_at hl 1 rfl) ?_
          refine W_bind fun z4 hz => ?_
          obtain ⟨rfl, hz0⟩ := zg_ok hz
          exact p_zret E hw hr hz0 (Nat.le_of_ble_eq_true rfl) (Nat.le_of_ble_eq_true rfl) rfl dX12_some_45
        · refine lv_aload_n hx hb dX12_some_22 rfl (lv_at hl 0 rfl) ?_
          refine W_bind fun z5 hz => ?_
          refine w_after (cells1 := 0) (slots1 := 0) (w_runV E kV_R_247 kc_X12_every (t_R_every l hfl G on N dp d hdp M z3.2 ((fun z => (.inl (some (.int z.1)), M, z.2)) z5) (by rw [hz]; rfl)) ⟨by show 60 + 12 * d + 1 + 1 ≤ 60 + 12 * d + 2; omega, by show 8 + (3 + 11) + (3000 + 400 * d + 60) ≤ 3000 + 400 * d + 120; omega⟩ hw (w_recvR E hw on) rfl hl.1 rfl (Nat.le_of_ble_eq_true rfl) dX12_some_23 ⟨Nat.le_refl _, Nat.le_refl _⟩) hw rfl (Nat.le_refl _) (Nat.le_refl _) (fun H locs hw => ?_)
          refine W.eq (g2 := F0 m 26 ls [.int z5.1]) rfl ?_
          have hw : w_W G M z5.2 s H locs := hw
          refine lv_istore_n (lv' := [(2, .int z5.1), (0, .ref (g_r G)), (1, .int x1)]) hx hb dX12_some_26 rfl hl (by decide) rfl (fun ls hl => ?_)
          refine lv_iload_n hx hb dX12_some_27 rfl (lv_at hl 2 rfl) ?_
          refine cx_if_ne (tgt := 35) E dX12_some_28 (by decide) (fun _ => ?_) (fun _ => ?_)
          · exact w35 (f_R_some_5 N dp n) ih z5.2 _ _ _ hw (lv_sub hl [1] rfl)
          · refine lv_iload_n hx hb dX12_some_31 rfl (lv_at hl 0 rfl) ?_
            refine cx_if_eq (tgt := 39) E dX12_some_32 (by decide) (fun _ => ?_) (fun _ => ?_)
            · refine lv_iconst (v := 0) hx hb dX12_some_39 (by decide) ?_
              exact w40 (f_R_some_5 N dp n) ih 0 z5.2 _ _ _ hw (lv_sub hl [1] rfl)
            · exact w35 (f_R_some_5 N dp n) ih z5.2 _ _ _ hw (lv_sub hl [1] rfl)
  unfold f_R_some
  refine lv_aload_n hx hb dX12_some_0 rfl (lv_at hl 0 rfl) ?_
  refine W_bind fun z1 hz => ?_
  refine w_after (cells1 := 0) (slots1 := 0) (w_runV E kV_R_247 kc_X12_every (t_R_every l hfl G on N dp d hdp M r ((fun z => (.inl (some (.int z.1)), M, z.2)) z1) (by rw [hz]; rfl)) ⟨by show 60 + 12 * d + 1 + 1 ≤ 60 + 12 * d + 2; omega, by show 8 + (3 + 11) + (3000 + 400 * d + 60) ≤ 3000 + 400 * d + 120; omega⟩ hw (w_recvR E hw on) rfl hl.1 rfl (Nat.le_of_ble_eq_true rfl) dX12_some_1 ⟨Nat.le_refl _, Nat.le_refl _⟩) hw rfl (Nat.le_refl _) (Nat.le_refl _) (fun H locs hw => ?_)
  refine W.eq (g2 := F0 m 4 ls [.int z1.1]) rfl ?_
  have hw : w_W G M z1.2 s H locs := hw
  refine lv_istore_n (lv' := [(1, .int z1.1), (0, .ref (g_r G))]) hx hb dX12_some_4 rfl hl (by decide) rfl (fun ls hl => ?_)
  exact w5  N z1.1 z1.2 _ _ _ hw (lv_sub hl [1, 0] rfl)
set_option maxHeartbeats 4000000 in
set_option maxRecDepth 100000 in
theorem t_R_isSign (l : Launch) (hfl : l.stackTraces = false) (G : wG) (on : g_on G = true) (N : Nat) (a0 : Int32) (M : Mem) (r : Rho) : Ctr l yX12_isSign (wWs yX12_isSign cX12_isSign 2 (some .boolean)) rm_R_isSign rm_R_isSign.cells rm_R_isSign.slots G [.ref (g_r G), .int a0] M r ((f_R_isSign N a0 r).map (fun z => (.inl (some (.int z.1)), M, z.2))) := by
  refine Ctr.ofF (own := "CheekTownModel") (by decide +kernel) hfl rfl (Nat.le_of_ble_eq_true rfl) (fun p e s m args below meth c E hno hr hnm hw ls hl => ?_)
  obtain ⟨hx, hb, hts, hown, hml, hTT, -⟩ := id E
  have hl : lv_has ls 2 [(0, .ref (g_r G)), (1, .int a0)] := hl
  obtain ⟨H, hH⟩ : ∃ H, H = s.heap := ⟨_, rfl⟩
  obtain ⟨locs, hlo⟩ : ∃ L : List Loc, L = [] := ⟨_, rfl⟩
  rw [← hH, ← hlo]
  rw [← hlo] at hw
  replace hw : w_W G M r s H locs := by rw [hH]; exact hw
  unfold f_R_isSign
  refine lv_aload_n hx hb dX12_isSign_0 rfl (lv_at hl 0 rfl) ?_
  refine W_bind fun z1 hz => ?_
  refine w_after (cells1 := 0) (slots1 := 0) (w_runV E kV_R_88 kc_X12_skip (t_R_skip l hfl G on N M r ((fun z => (.inl none, M, z)) z1) (by rw [hz]; rfl)) ⟨Nat.le_of_ble_eq_true rfl, Nat.le_of_ble_eq_true rfl⟩ hw (w_recvR E hw on) rfl hl.1 rfl (Nat.le_of_ble_eq_true rfl) dX12_isSign_1 ⟨Nat.le_of_ble_eq_true rfl, Nat.le_of_ble_eq_true rfl⟩) hw rfl (Nat.le_of_ble_eq_true rfl) (Nat.le_of_ble_eq_true rfl) (fun H locs hw => ?_)
  refine W.eq (g2 := F0 m 4 ls []) rfl ?_
  have hw : w_W G M z1 s H locs := hw
  refine lv_aload_n hx hb dX12_isSign_4 rfl (lv_at hl 0 rfl) ?_
  refine rx_getI E hw on kF_R_79_11 (by decide) dX12_isSign_5 ?_
  refine lv_aload_n hx hb dX12_isSign_8 rfl (lv_at hl 0 rfl) ?_
  refine rx_getI E hw on kF_R_82_11 (by decide) dX12_isSign_9 ?_
  refine cx_icmp_ge (tgt := 31) E dX12_isSign_12 (by decide) (fun _ => ?_) (fun _ => ?_)
  · refine lv_iconst (v := 0) hx hb dX12_isSign_31 (by decide) ?_
    exact p_zret E hw hr (by decide) (Nat.le_of_ble_eq_true rfl) (Nat.le_of_ble_eq_true rfl) rfl dX12_isSign_32
  · refine lv_aload_n hx hb dX12_isSign_15 rfl (lv_at hl 0 rfl) ?_
    refine lv_aload_n hx hb dX12_isSign_16 rfl (lv_at hl 0 rfl) ?_
    refine rx_getI E hw on kF_R_79_11 (by decide) dX12_isSign_17 ?_
    refine W_bind fun z2 hz => ?_
    refine w_after (cells1 := 0) (slots1 := 0) (w_runV E kV_R_85 kc_X12_letter (t_R_letter l hfl G on (z1.1 11) M z1 ((fun z => (.inl (some (.int z)), M, z1)) z2) (by rw [hz]; rfl)) ⟨Nat.le_of_ble_eq_true rfl, Nat.le_of_ble_eq_true rfl⟩ hw (w_recvR E hw on) rfl hl.1 rfl (Nat.le_of_ble_eq_true rfl) dX12_isSign_20 ⟨Nat.le_of_ble_eq_true rfl, Nat.le_of_ble_eq_true rfl⟩) hw rfl (Nat.le_of_ble_eq_true rfl) (Nat.le_of_ble_eq_true rfl) (fun H locs hw => ?_)
    refine W.eq (g2 := F0 m 23 ls [.int z2]) rfl ?_
    have hw : w_W G M z1 s H locs := hw
    refine lv_iload_n hx hb dX12_isSign_23 rfl (lv_at hl 1 rfl) ?_
    refine cx_icmp_ne (tgt := 31) E dX12_isSign_24 (by decide) (fun _ => ?_) (fun _ => ?_)
    · refine lv_iconst (v := 0) hx hb dX12_isSign_31 (by decide) ?_
      exact p_zret E hw hr (by decide) (Nat.le_of_ble_eq_true rfl) (Nat.le_of_ble_eq_true rfl) rfl dX12_isSign_32
    · refine lv_iconst (v := 1) hx hb dX12_isSign_27 (by decide) ?_
      refine lv_goto (tgt := 32) hx hb dX12_isSign_28 (by decide) ?_
      exact p_zret E hw hr (by decide) (Nat.le_of_ble_eq_true rfl) (Nat.le_of_ble_eq_true rfl) rfl dX12_isSign_32
set_option maxHeartbeats 4000000 in
set_option maxRecDepth 100000 in
theorem t_R_part (l : Launch) (hfl : l.stackTraces = false) (G : wG) (on : g_on G = true) (N : Nat) (M : Mem) (r : Rho) : Ctr l yX12_part (wWs yX12_part cX12_part 2 (some .int)) rm_R_part rm_R_part.cells rm_R_part.slots G [.ref (g_r G)] M r ((f_R_part N r).map (fun z => (.inl (some (.int z.1)), M, z.2))) := by
  refine Ctr.ofF (own := "CheekTownModel") (by decide +kernel) hfl rfl (Nat.le_of_ble_eq_true rfl) (fun p e s m args below meth c E hno hr hnm hw ls hl => ?_)
  obtain ⟨hx, hb, hts, hown, hml, hTT, -⟩ := id E
  have hl : lv_has ls 2 [(0, .ref (g_r G))] := hl
  obtain ⟨H, hH⟩ : ∃ H, H = s.heap := ⟨_, rfl⟩
  obtain ⟨locs, hlo⟩ : ∃ L : List Loc, L = [] := ⟨_, rfl⟩
  rw [← hH, ← hlo]
  rw [← hlo] at hw
  replace hw : w_W G M r s H locs := by rw [hH]; exact hw
  have w131 : ∀ (y0 : Int32) (r : Rho) (H : Heap) (locs : List Loc) (ls : Array Slot), w_W G M r s H locs → lv_has ls 2 [(0, .ref (g_r G))] → W p l e rm_R_part s m args below meth c H locs 0 0 (PQ G below args s rm_R_part.cells rm_R_part.slots (fun z => (.inl (some (.int z.1)), M, z.2)) (f_R_part_131 N y0 r)) (F0 m 131 ls [.int y0]) := by
    intro y0 r H locs ls hw hl
    unfold f_R_part_131
    refine lv_istore_n (lv' := [(1, .int y0), (0, .ref (g_r G))]) hx hb dX12_part_131 rfl hl (by decide) rfl (fun ls hl => ?_)
    refine lv_iload_n hx hb dX12_part_132 rfl (lv_at hl 0 rfl) ?_
    refine lv_iconst (v := (-1)) hx hb dX12_part_133 (by decide) ?_
    refine cx_icmp_ne (tgt := 147) E dX12_part_134 (by decide) (fun _ => ?_) (fun _ => ?_)
    · refine lv_aload_n hx hb dX12_part_147 rfl (lv_at hl 1 rfl) ?_
      refine rx_getA E hw on kF_R_29_11 (by decide) dX12_part_148 ?_
      refine lv_iload_n hx hb dX12_part_151 rfl (lv_at hl 0 rfl) ?_
      refine rx_iald E hw on (by decide) dX12_part_152 (fun v11 => ?_)
      exact p_iret E hw hr (Nat.le_of_ble_eq_true rfl) (Nat.le_of_ble_eq_true rfl) rfl dX12_part_153
    · refine lv_aload_n hx hb dX12_part_137 rfl (lv_at hl 1 rfl) ?_
      refine lv_aload_n hx hb dX12_part_138 rfl (lv_at hl 1 rfl) ?_
      refine rx_getI E hw on kF_R_79_11 (by decide) dX12_part_139 ?_
      refine W_bind fun z12 hz => ?_
      refine w_after (cells1 := 0) (slots1 := 0) (w_runV E kV_R_105 kc_X12_wrong (t_R_wrong l hfl G on (r.1 11) M r ((fun z => (.inl none, M, z)) z12) (by rw [hz]; rfl)) ⟨Nat.le_of_ble_eq_true rfl, Nat.le_of_ble_eq_true rfl⟩ hw (w_recvR E hw on) rfl hl.1 rfl (Nat.le_of_ble_eq_true rfl) dX12_part_142 ⟨Nat.le_of_ble_eq_true rfl, Nat.le_of_ble_eq_true rfl⟩) hw rfl (Nat.le_of_ble_eq_true rfl) (Nat.le_of_ble_eq_true rfl) (fun H locs hw => ?_)
      refine W.eq (g2 := F0 m 145 ls []) rfl ?_
      have hw : w_W G M z12 s H locs := hw
      refine lv_iconst (v := 0) hx hb dX12_part_145 (by decide) ?_
      exact p_iret E hw hr (Nat.le_of_ble_eq_true rfl) (Nat.le_of_ble_eq_true rfl) rfl dX12_part_146
  have w52 : ∀ (r : Rho) (H : Heap) (locs : List Loc) (ls : Array Slot), w_W G M r s H locs → lv_has ls 2 [(0, .ref (g_r G))] → W p l e rm_R_part s m args below meth c H locs 0 0 (PQ G below args s rm_R_part.cells rm_R_part.slots (fun z => (.inl (some (.int z.1)), M, z.2)) (f_R_part_52 N r)) (F0 m 52 ls []) := by
    intro r H locs ls hw hl
    unfold f_R_part_52
    refine lv_aload_n hx hb dX12_part_52 rfl (lv_at hl 0 rfl) ?_
    refine va_ldcS hx hb hown (hTT.2.2.1 52 _ rfl) dX12_part_53 ?_
    refine W_bind fun z5 hz => ?_
    refine w_after (cells1 := 0) (slots1 := 0) (w_runV E kV_R_101 kc_X12_has_ (t_R_has_ l hfl G on N 52 M r ((fun z => (.inl (some (.int z.1)), M, z.2)) z5) (by rw [hz]; rfl)) ⟨Nat.le_of_ble_eq_true rfl, Nat.le_of_ble_eq_true rfl⟩ hw (w_recvR E hw on) rfl hl.1 rfl (Nat.le_of_ble_eq_true rfl) dX12_part_55 ⟨Nat.le_of_ble_eq_true rfl, Nat.le_of_ble_eq_true rfl⟩) hw rfl (Nat.le_of_ble_eq_true rfl) (Nat.le_of_ble_eq_true rfl) (fun H locs hw => ?_)
    refine W.eq (g2 := F0 m 58 ls [.int z5.1]) rfl ?_
    have hw : w_W G M z5.2 s H locs := hw
    refine cx_if_eq (tgt := 65) E dX12_part_58 (by decide) (fun _ => ?_) (fun _ => ?_)
    · refine lv_aload_n hx hb dX12_part_65 rfl (lv_at hl 0 rfl) ?_
      refine va_ldcS hx hb hown (hTT.2.2.1 53 _ rfl) dX12_part_66 ?_
      refine W_bind fun z6 hz => ?_
      refine w_after (cells1 := 0) (slots1 := 0) (w_runV E kV_R_101 kc_X12_has_ (t_R_has_ l hfl G on N 53 M z5.2 ((fun z => (.inl (some (.int z.1)), M, z.2)) z6) (by rw [hz]; rfl)) ⟨Nat.le_of_ble_eq_true rfl, Nat.le_of_ble_eq_true rfl⟩ hw (w_recvR E hw on) rfl hl.1 rfl (Nat.le_of_ble_eq_true rfl) dX12_part_68 ⟨Nat.le_of_ble_eq_true rfl, Nat.le_of_ble_eq_true rfl⟩) hw rfl (Nat.le_of_ble_eq_true rfl) (Nat.le_of_ble_eq_true rfl) (fun H locs hw => ?_)
      refine W.eq (g2 := F0 m 71 ls [.int z6.1]) rfl ?_
      have hw : w_W G M z6.2 s H locs := hw
      refine cx_if_eq (tgt := 78) E dX12_part_71 (by decide) (fun _ => ?_) (fun _ => ?_)
      · refine lv_aload_n hx hb dX12_part_78 rfl (lv_at hl 0 rfl) ?_
        refine va_ldcS hx hb hown (hTT.2.2.1 54 _ rfl) dX12_part_79 ?_
        refine W_bind fun z7 hz => ?_
        refine w_after (cells1 := 0) (slots1 := 0) (w_runV E kV_R_101 kc_X12_has_ (t_R_has_ l hfl G on N 54 M z6.2 ((fun z => (.inl (some (.int z.1)), M, z.2)) z7) (by rw [hz]; rfl)) ⟨Nat.le_of_ble_eq_true rfl, Nat.le_of_ble_eq_true rfl⟩ hw (w_recvR E hw on) rfl hl.1 rfl (Nat.le_of_ble_eq_true rfl) dX12_part_81 ⟨Nat.le_of_ble_eq_true rfl, Nat.le_of_ble_eq_true rfl⟩) hw rfl (Nat.le_of_ble_eq_true rfl) (Nat.le_of_ble_eq_true rfl) (fun H locs hw => ?_)
        refine W.eq (g2 := F0 m 84 ls [.int z7.1]) rfl ?_
        have hw : w_W G M z7.2 s H locs := hw
        refine cx_if_eq (tgt := 91) E dX12_part_84 (by decide) (fun _ => ?_) (fun _ => ?_)
        · refine lv_aload_n hx hb dX12_part_91 rfl (lv_at hl 0 rfl) ?_
          refine va_ldcS hx hb hown (hTT.2.2.1 55 _ rfl) dX12_part_92 ?_
          refine W_bind fun z8 hz => ?_
          refine w_after (cells1 := 0) (slots1 := 0) (w_runV E kV_R_101 kc_X12_has_ (t_R_has_ l hfl G on N 55 M z7.2 ((fun z => (.inl (some (.int z.1)), M, z.2)) z8) (by rw [hz]; rfl)) ⟨Nat.le_of_ble_eq_true rfl, Nat.le_of_ble_eq_true rfl⟩ hw (w_recvR E hw on) rfl hl.1 rfl (Nat.le_of_ble_eq_true rfl) dX12_part_94 ⟨Nat.le_of_ble_eq_true rfl, Nat.le_of_ble_eq_true rfl⟩) hw rfl (Nat.le_of_ble_eq_true rfl) (Nat.le_of_ble_eq_true rfl) (fun H locs hw => ?_)
          refine W.eq (g2 := F0 m 97 ls [.int z8.1]) rfl ?_
          have hw : w_W G M z8.2 s H locs := hw
          refine cx_if_eq (tgt := 104) E dX12_part_97 (by decide) (fun _ => ?_) (fun _ => ?_)
          · refine lv_aload_n hx hb dX12_part_104 rfl (lv_at hl 0 rfl) ?_
            refine va_ldcS hx hb hown (hTT.2.2.1 56 _ rfl) dX12_part_105 ?_
            refine W_bind fun z9 hz => ?_
            refine w_after (cells1 := 0) (slots1 := 0) (w_runV E kV_R_101 kc_X12_has_ (t_R_has_ l hfl G on N 56 M z8.2 ((fun z => (.inl (some (.int z.1)), M, z.2)) z9) (by rw [hz]; rfl)) ⟨Nat.le_of_ble_eq_true rfl, Nat.le_of_ble_eq_true rfl⟩ hw (w_recvR E hw on) rfl hl.1 rfl (Nat.le_of_ble_eq_true rfl) dX12_part_107 ⟨Nat.le_of_ble_eq_true rfl, Nat.le_of_ble_eq_true rfl⟩) hw rfl (Nat.le_of_ble_eq_true rfl) (Nat.le_of_ble_eq_true rfl) (fun H locs hw => ?_)
            refine W.eq (g2 := F0 m 110 ls [.int z9.1]) rfl ?_
            have hw : w_W G M z9.2 s H locs := hw
            refine cx_if_eq (tgt := 117) E dX12_part_110 (by decide) (fun _ => ?_) (fun _ => ?_)
            · refine lv_aload_n hx hb dX12_part_117 rfl (lv_at hl 0 rfl) ?_
              refine va_ldcS hx hb hown (hTT.2.2.1 57 _ rfl) dX12_part_118 ?_
              refine W_bind fun z10 hz => ?_
              refine w_after (cells1 := 0) (slots1 := 0) (w_runV E kV_R_101 kc_X12_has_ (t_R_has_ l hfl G on N 57 M z9.2 ((fun z => (.inl (some (.int z.1)), M, z.2)) z10) (by rw [hz]; rfl)) ⟨Nat.le_of_ble_eq_true rfl, Nat.le_of_ble_eq_true rfl⟩ hw (w_recvR E hw on) rfl hl.1 rfl (Nat.le_of_ble_eq_true rfl) dX12_part_120 ⟨Nat.le_of_ble_eq_true rfl, Nat.le_of_ble_eq_true rfl⟩) hw rfl (Nat.le_of_ble_eq_true rfl) (Nat.le_of_ble_eq_true rfl) (fun H locs hw => ?_)
              refine W.eq (g2 := F0 m 123 ls [.int z10.1]) rfl ?_
              have hw : w_W G M z10.2 s H locs := hw
              refine cx_if_eq (tgt := 130) E dX12_part_123 (by decide) (fun _ => ?_) (fun _ => ?_)
              · refine lv_iconst (v := (-1)) hx hb dX12_part_130 (by decide) ?_
                exact w131  (-1) z10.2 _ _ _ hw (lv_sub hl [0] rfl)
              · refine lv_iconst (v := 5) hx hb dX12_part_126 (by decide) ?_
                refine lv_goto (tgt := 131) hx hb dX12_part_127 (by decide) ?_
                exact w131  5 z10.2 _ _ _ hw (lv_sub hl [0] rfl)
            · refine lv_iconst (v := 4) hx hb dX12_part_113 (by decide) ?_
              refine lv_goto (tgt := 131) hx hb dX12_part_114 (by decide) ?_
              exact w131  4 z9.2 _ _ _ hw (lv_sub hl [0] rfl)
          · refine lv_iconst (v := 3) hx hb dX12_part_100 (by decide) ?_
            refine lv_goto (tgt := 131) hx hb dX12_part_101 (by decide) ?_
            exact w131  3 z8.2 _ _ _ hw (lv_sub hl [0] rfl)
        · refine lv_iconst (v := 2) hx hb dX12_part_87 (by decide) ?_
          refine lv_goto (tgt := 131) hx hb dX12_part_88 (by decide) ?_
          exact w131  2 z7.2 _ _ _ hw (lv_sub hl [0] rfl)
      · refine lv_iconst (v := 1) hx hb dX12_part_74 (by decide) ?_
        refine lv_goto (tgt := 131) hx hb dX12_part_75 (by decide) ?_
        exact w131  1 z6.2 _ _ _ hw (lv_sub hl [0] rfl)
    · refine lv_iconst (v := 0) hx hb dX12_part_61 (by decide) ?_
      refine lv_goto (tgt := 131) hx hb dX12_part_62 (by decide) ?_
      exact w131  0 z5.2 _ _ _ hw (lv_sub hl [0] rfl)
  unfold f_R_part
  refine lv_aload_n hx hb dX12_part_0 rfl (lv_at hl 0 rfl) ?_
  refine rx_getI E hw on kF_R_25_11 (by decide) dX12_part_1 ?_
  refine lv_iconst (v := (-1)) hx hb dX12_part_4 (by decide) ?_
  refine cx_icmp_eq (tgt := 10) E dX12_part_5 (by decide) (fun _ => ?_) (fun _ => ?_)
  · refine lv_aload_n hx hb dX12_part_10 rfl (lv_at hl 0 rfl) ?_
    refine W_bind fun z1 hz => ?_
    refine w_after (cells1 := 0) (slots1 := 0) (w_runV E kV_R_88 kc_X12_skip (t_R_skip l hfl G on N M r ((fun z => (.inl none, M, z)) z1) (by rw [hz]; rfl)) ⟨Nat.le_of_ble_eq_true rfl, Nat.le_of_ble_eq_true rfl⟩ hw (w_recvR E hw on) rfl hl.1 rfl (Nat.le_of_ble_eq_true rfl) dX12_part_11 ⟨Nat.le_of_ble_eq_true rfl, Nat.le_of_ble_eq_true rfl⟩) hw rfl (Nat.le_of_ble_eq_true rfl) (Nat.le_of_ble_eq_true rfl) (fun H locs hw => ?_)
    refine W.eq (g2 := F0 m 14 ls []) rfl ?_
    have hw : w_W G M z1 s H locs := hw
    refine lv_aload_n hx hb dX12_part_14 rfl (lv_at hl 0 rfl) ?_
    refine rx_getI E hw on kF_R_79_11 (by decide) dX12_part_15 ?_
    refine lv_aload_n hx hb dX12_part_18 rfl (lv_at hl 0 rfl) ?_
    refine rx_getI E hw on kF_R_82_11 (by decide) dX12_part_19 ?_
    refine cx_icmp_ge (tgt := 52) E dX12_part_22 (by decide) (fun _ => ?_) (fun _ => ?_)
    · exact w52  z1 _ _ _ hw (lv_sub hl [0] rfl)
    · refine lv_aload_n hx hb dX12_part_25 rfl (lv_at hl 0 rfl) ?_
      refine lv_aload_n hx hb dX12_part_26 rfl (lv_at hl 0 rfl) ?_
      refine rx_getI E hw on kF_R_79_11 (by decide) dX12_part_27 ?_
      refine W_bind fun z2 hz => ?_
      refine w_after (cells1 := 0) (slots1 := 0) (w_runV E kV_R_85 kc_X12_letter (t_R_letter l hfl G on (z1.1 11) M z1 ((fun z => (.inl (some (.int z)), M, z1)) z2) (by rw [hz]; rfl)) ⟨Nat.le_of_ble_eq_true rfl, Nat.le_of_ble_eq_true rfl⟩ hw (w_recvR E hw on) rfl hl.1 rfl (Nat.le_of_ble_eq_true rfl) dX12_part_30 ⟨Nat.le_of_ble_eq_true rfl, Nat.le_of_ble_eq_true rfl⟩) hw rfl (Nat.le_of_ble_eq_true rfl) (Nat.le_of_ble_eq_true rfl) (fun H locs hw => ?_)
      refine W.eq (g2 := F0 m 33 ls [.int z2]) rfl ?_
      have hw : w_W G M z1 s H locs := hw
      refine lv_bipush (v := 48) hx hb dX12_part_33 (by decide) ?_
      refine lv_bipush (v := 57) hx hb dX12_part_35 (by decide) ?_
      refine W_bind fun z3 hz => ?_
      refine w_after (cells1 := 0) (slots1 := 0) (w_runS E kS_R_59 kc_X12_isIn (t_R_isIn l hfl G z2 48 57 M z1 ((fun z => (.inl (some (.int z)), M, z1)) z3) (by rw [hz]; rfl)) ⟨Nat.le_of_ble_eq_true rfl, Nat.le_of_ble_eq_true rfl⟩ hw rfl hl.1 rfl (Nat.le_of_ble_eq_true rfl) dX12_part_37 ⟨Nat.le_of_ble_eq_true rfl, Nat.le_of_ble_eq_true rfl⟩) hw rfl (Nat.le_of_ble_eq_true rfl) (Nat.le_of_ble_eq_true rfl) (fun H locs hw => ?_)
      refine W.eq (g2 := F0 m 40 ls [.int z3]) rfl ?_
      have hw : w_W G M z1 s H locs := hw
      refine cx_if_eq (tgt := 52) E dX12_part_40 (by decide) (fun _ => ?_) (fun _ => ?_)
      · exact w52  z1 _ _ _ hw (lv_sub hl [0] rfl)
      · refine lv_aload_n hx hb dX12_part_43 rfl (lv_at hl 0 rfl) ?_
        refine lv_iconst (v := 0) hx hb dX12_part_44 (by decide) ?_
        refine lv_sipush (v := 999) hx hb dX12_part_45 (by decide) ?_
        refine W_bind fun z4 hz => ?_
        refine w_after (cells1 := 0) (slots1 := 0) (w_runV E kV_R_124 kc_X12_figures (t_R_figures l hfl G on N 0 999 M z1 ((fun z => (.inl (some (.int z.1)), M, z.2)) z4) (by rw [hz]; rfl)) ⟨Nat.le_of_ble_eq_true rfl, Nat.le_of_ble_eq_true rfl⟩ hw (w_recvR E hw on) rfl hl.1 rfl (Nat.le_of_ble_eq_true rfl) dX12_part_48 ⟨Nat.le_of_ble_eq_true rfl, Nat.le_of_ble_eq_true rfl⟩) hw rfl (Nat.le_of_ble_eq_true rfl) (Nat.le_of_ble_eq_true rfl) (fun H locs hw => ?_)
        refine W.eq (g2 := F0 m 51 ls [.int z4.1]) rfl ?_
        have hw : w_W G M z4.2 s H locs := hw
        exact p_iret E hw hr (Nat.le_of_ble_eq_true rfl) (Nat.le_of_ble_eq_true rfl) rfl dX12_part_51
  · refine lv_iconst (v := 0) hx hb dX12_part_8 (by decide) ?_
    exact p_iret E hw hr (Nat.le_of_ble_eq_true rfl) (Nat.le_of_ble_eq_true rfl) rfl dX12_part_9

