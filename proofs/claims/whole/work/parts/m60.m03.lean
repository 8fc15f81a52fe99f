set_option maxHeartbeats 4000000 in
set_option maxRecDepth 100000 in
theorem t_CT_count (l : Launch) (hfl : l.stackTraces = false) (G : wG) (N : Nat) (this : Nat) (a0 : Int32) (M : Mem) (r : Rho) : Ctr l yX11_count (wWs yX11_count cX11_count 2 (some .int)) rm_CT_count rm_CT_count.cells rm_CT_count.slots G [.ref this, .int a0] M r ((f_CT_count N this a0 M).map (fun z => (.inl (some (.int z)), M, r))) := by
  refine Ctr.ofF (own := "CheekTown") (by decide +kernel) hfl rfl (Nat.le_of_ble_eq_true rfl) (fun p e s m args below meth c E hno hr hnm hw ls hl => ?_)
  obtain ⟨hx, hb, hts, hown, hml, hTT, -⟩ := id E
  have hl : lv_has ls 2 [(0, .ref this), (1, .int a0)] := hl
  obtain ⟨H, hH⟩ : ∃ H, H = s.heap := ⟨_, rfl⟩
  obtain ⟨locs, hlo⟩ : ∃ L : List Loc, L = [] := ⟨_, rfl⟩
  rw [← hH, ← hlo]
  rw [← hlo] at hw
  replace hw : w_W G M r s H locs := by rw [hH]; exact hw
  unfold f_CT_count
  refine lv_iload_n hx hb dX11_count_0 rfl (lv_at hl 1 rfl) ?_
  refine cx_tab 0 (tgt := 84) E dX11_count_1 (by decide) (by decide) rfl (by decide) (fun _ => ?_) (fun hn0 => ?_)
  · refine lv_aload_n hx hb dX11_count_84 rfl (lv_at hl 0 rfl) ?_
    refine gx_getR E hw kF_CT_20_10 (by decide) dX11_count_85 (fun v1 _ => ?_)
    refine gx_getR E hw kF_CT_116_7 (by decide) dX11_count_88 (fun v2 _ => ?_)
    refine gx_getI E hw kF_CT_120_0 (by decide) dX11_count_91 (fun v3 _ => ?_)
    exact p_iret E hw hr (Nat.le_of_ble_eq_true rfl) (Nat.le_of_ble_eq_true rfl) rfl dX11_count_94
  refine cx_tab 1 (tgt := 95) E dX11_count_1 (by decide) (by decide) rfl (by decide) (fun _ => ?_) (fun hn1 => ?_)
  · refine lv_aload_n hx hb dX11_count_95 rfl (lv_at hl 0 rfl) ?_
    refine gx_getR E hw kF_CT_20_10 (by decide) dX11_count_96 (fun v4 _ => ?_)
    refine gx_getR E hw kF_CT_116_7 (by decide) dX11_count_99 (fun v5 _ => ?_)
    refine gx_getI E hw kF_CT_403_0 (by decide) dX11_count_102 (fun v6 _ => ?_)
    exact p_iret E hw hr (Nat.le_of_ble_eq_true rfl) (Nat.le_of_ble_eq_true rfl) rfl dX11_count_105
  refine cx_tab 2 (tgt := 106) E dX11_count_1 (by decide) (by decide) rfl (by decide) (fun _ => ?_) (fun hn2 => ?_)
  · refine lv_aload_n hx hb dX11_count_106 rfl (lv_at hl 0 rfl) ?_
    refine gx_getR E hw kF_CT_20_10 (by decide) dX11_count_107 (fun v7 _ => ?_)
    refine gx_getI E hw kF_CT_127_7 (by decide) dX11_count_110 (fun v8 _ => ?_)
    exact p_iret E hw hr (Nat.le_of_ble_eq_true rfl) (Nat.le_of_ble_eq_true rfl) rfl dX11_count_113
  refine cx_tab 3 (tgt := 114) E dX11_count_1 (by decide) (by decide) rfl (by decide) (fun _ => ?_) (fun hn3 => ?_)
  · refine lv_aload_n hx hb dX11_count_114 rfl (lv_at hl 0 rfl) ?_
    refine gx_getR E hw kF_CT_20_10 (by decide) dX11_count_115 (fun v9 _ => ?_)
    refine gx_getI E hw kF_CT_137_7 (by decide) dX11_count_118 (fun v10 _ => ?_)
    exact p_iret E hw hr (Nat.le_of_ble_eq_true rfl) (Nat.le_of_ble_eq_true rfl) rfl dX11_count_121
  refine cx_tab 4 (tgt := 122) E dX11_count_1 (by decide) (by decide) rfl (by decide) (fun _ => ?_) (fun hn4 => ?_)
  · refine lv_aload_n hx hb dX11_count_122 rfl (lv_at hl 0 rfl) ?_
    refine gx_getR E hw kF_CT_20_10 (by decide) dX11_count_123 (fun v11 _ => ?_)
    refine gx_getI E hw kF_CT_80_7 (by decide) dX11_count_126 (fun v12 _ => ?_)
    exact p_iret E hw hr (Nat.le_of_ble_eq_true rfl) (Nat.le_of_ble_eq_true rfl) rfl dX11_count_129
  refine cx_tab 5 (tgt := 130) E dX11_count_1 (by decide) (by decide) rfl (by decide) (fun _ => ?_) (fun hn5 => ?_)
  · refine lv_aload_n hx hb dX11_count_130 rfl (lv_at hl 0 rfl) ?_
    refine gx_getR E hw kF_CT_20_10 (by decide) dX11_count_131 (fun v13 _ => ?_)
    refine gx_getN E hw kF_CT_104_7 (by decide) dX11_count_134 (fun v14 _ => ?_)
    refine cx_nonnull (tgt := 144) E dX11_count_137 (by decide) (fun _ => ?_) (fun _ => ?_)
    · refine lv_aload_n hx hb dX11_count_144 rfl (lv_at hl 0 rfl) ?_
      refine gx_getR E hw kF_CT_20_10 (by decide) dX11_count_145 (fun v15 _ => ?_)
      refine gx_getR E hw kF_CT_104_7 (by decide) dX11_count_148 (fun v16 _ => ?_)
      refine gx_getI E hw kF_CT_108_1 (by decide) dX11_count_151 (fun v17 _ => ?_)
      exact p_iret E hw hr (Nat.le_of_ble_eq_true rfl) (Nat.le_of_ble_eq_true rfl) rfl dX11_count_154
    · refine lv_iconst (v := (-1)) hx hb dX11_count_140 (by decide) ?_
      refine lv_goto (tgt := 154) hx hb dX11_count_141 (by decide) ?_
      exact p_iret E hw hr (Nat.le_of_ble_eq_true rfl) (Nat.le_of_ble_eq_true rfl) rfl dX11_count_154
  refine cx_tab 6 (tgt := 155) E dX11_count_1 (by decide) (by decide) rfl (by decide) (fun _ => ?_) (fun hn6 => ?_)
  · refine lv_aload_n hx hb dX11_count_155 rfl (lv_at hl 0 rfl) ?_
    refine gx_getR E hw kF_CT_20_10 (by decide) dX11_count_156 (fun v18 _ => ?_)
    refine gx_getI E hw kF_CT_406_7 (by decide) dX11_count_159 (fun v19 _ => ?_)
    exact p_iret E hw hr (Nat.le_of_ble_eq_true rfl) (Nat.le_of_ble_eq_true rfl) rfl dX11_count_162
  refine cx_tab 7 (tgt := 163) E dX11_count_1 (by decide) (by decide) rfl (by decide) (fun _ => ?_) (fun hn7 => ?_)
  · refine lv_aload_n hx hb dX11_count_163 rfl (lv_at hl 0 rfl) ?_
    refine gx_getR E hw kF_CT_20_10 (by decide) dX11_count_164 (fun v20 _ => ?_)
    refine gx_getI E hw kF_CT_409_7 (by decide) dX11_count_167 (fun v21 _ => ?_)
    exact p_iret E hw hr (Nat.le_of_ble_eq_true rfl) (Nat.le_of_ble_eq_true rfl) rfl dX11_count_170
  refine cx_tab 8 (tgt := 171) E dX11_count_1 (by decide) (by decide) rfl (by decide) (fun _ => ?_) (fun hn8 => ?_)
  · refine lv_aload_n hx hb dX11_count_171 rfl (lv_at hl 0 rfl) ?_
    refine gx_getR E hw kF_CT_20_10 (by decide) dX11_count_172 (fun v22 _ => ?_)
    refine gx_getI E hw kF_CT_411_7 (by decide) dX11_count_175 (fun v23 _ => ?_)
    exact p_iret E hw hr (Nat.le_of_ble_eq_true rfl) (Nat.le_of_ble_eq_true rfl) rfl dX11_count_178
  refine cx_tab 9 (tgt := 179) E dX11_count_1 (by decide) (by decide) rfl (by decide) (fun _ => ?_) (fun hn9 => ?_)
  · refine lv_aload_n hx hb dX11_count_179 rfl (lv_at hl 0 rfl) ?_
    refine gx_getR E hw kF_CT_20_10 (by decide) dX11_count_180 (fun v24 _ => ?_)
    refine gx_getI E hw kF_CT_391_7 (by decide) dX11_count_183 (fun v25 _ => ?_)
    exact p_iret E hw hr (Nat.le_of_ble_eq_true rfl) (Nat.le_of_ble_eq_true rfl) rfl dX11_count_186
  refine cx_tab 10 (tgt := 187) E dX11_count_1 (by decide) (by decide) rfl (by decide) (fun _ => ?_) (fun hn10 => ?_)
  · refine lv_aload_n hx hb dX11_count_187 rfl (lv_at hl 0 rfl) ?_
    refine gx_getR E hw kF_CT_20_10 (by decide) dX11_count_188 (fun v26 _ => ?_)
    refine gx_getI E hw kF_CT_414_7 (by decide) dX11_count_191 (fun v27 _ => ?_)
    exact p_iret E hw hr (Nat.le_of_ble_eq_true rfl) (Nat.le_of_ble_eq_true rfl) rfl dX11_count_194
  refine cx_tab 11 (tgt := 195) E dX11_count_1 (by decide) (by decide) rfl (by decide) (fun _ => ?_) (fun hn11 => ?_)
  · refine lv_aload_n hx hb dX11_count_195 rfl (lv_at hl 0 rfl) ?_
    refine gx_getR E hw kF_CT_20_10 (by decide) dX11_count_196 (fun v28 _ => ?_)
    refine W_bind fun _ hck => ?_
    refine W_bind fun z29 hz => ?_
    refine w_after (cells1 := 0) (slots1 := 0) (w_runV E kV_CT_394 kc_X8_peopleWithCold (t_Town_peopleWithCold l hfl G N v28 M r ((fun z => (.inl (some (.int z)), M, r)) z29) (by rw [hz]; rfl)) ⟨Nat.le_of_ble_eq_true rfl, Nat.le_of_ble_eq_true rfl⟩ hw (w_recv E hw (by decide) ⟨_, _, rfl⟩ (ck_ok hck)) rfl hl.1 rfl (Nat.le_of_ble_eq_true rfl) dX11_count_199 ⟨Nat.le_of_ble_eq_true rfl, Nat.le_of_ble_eq_true rfl⟩) hw rfl (Nat.le_of_ble_eq_true rfl) (Nat.le_of_ble_eq_true rfl) (fun H locs hw => ?_)
    refine W.eq (g2 := F0 m 202 ls [.int z29]) rfl ?_
    have hw : w_W G M r s H locs := hw
    exact p_iret E hw hr (Nat.le_of_ble_eq_true rfl) (Nat.le_of_ble_eq_true rfl) rfl dX11_count_202
  refine cx_tab 12 (tgt := 203) E dX11_count_1 (by decide) (by decide) rfl (by decide) (fun _ => ?_) (fun hn12 => ?_)
  · refine lv_aload_n hx hb dX11_count_203 rfl (lv_at hl 0 rfl) ?_
    refine gx_getR E hw kF_CT_20_10 (by decide) dX11_count_204 (fun v30 _ => ?_)
    refine gx_getR E hw kF_CT_373_7 (by decide) dX11_count_207 (fun v31 _ => ?_)
    refine gx_getI E hw kF_CT_377_3 (by decide) dX11_count_210 (fun v32 _ => ?_)
    exact p_iret E hw hr (Nat.le_of_ble_eq_true rfl) (Nat.le_of_ble_eq_true rfl) rfl dX11_count_213
  refine cx_tab 13 (tgt := 214) E dX11_count_1 (by decide) (by decide) rfl (by decide) (fun _ => ?_) (fun hn13 => ?_)
  · refine lv_aload_n hx hb dX11_count_214 rfl (lv_at hl 0 rfl) ?_
    refine gx_getI E hw kF_CT_88_10 (by decide) dX11_count_215 (fun v33 _ => ?_)
    exact p_iret E hw hr (Nat.le_of_ble_eq_true rfl) (Nat.le_of_ble_eq_true rfl) rfl dX11_count_218
  refine cx_tab 14 (tgt := 219) E dX11_count_1 (by decide) (by decide) rfl (by decide) (fun _ => ?_) (fun hn14 => ?_)
  · refine lv_aload_n hx hb dX11_count_219 rfl (lv_at hl 0 rfl) ?_
    refine gx_getR E hw kF_CT_20_10 (by decide) dX11_count_220 (fun v34 _ => ?_)
    refine gx_getR E hw kF_CT_116_7 (by decide) dX11_count_223 (fun v35 _ => ?_)
    refine gx_getR E hw kF_CT_152_0 (by decide) dX11_count_226 (fun v36 _ => ?_)
    refine gx_getI E hw kF_CT_417_4 (by decide) dX11_count_229 (fun v37 _ => ?_)
    exact p_iret E hw hr (Nat.le_of_ble_eq_true rfl) (Nat.le_of_ble_eq_true rfl) rfl dX11_count_232
  refine cx_tab 15 (tgt := 233) E dX11_count_1 (by decide) (by decide) rfl (by decide) (fun _ => ?_) (fun hn15 => ?_)
  · refine lv_aload_n hx hb dX11_count_233 rfl (lv_at hl 0 rfl) ?_
    refine gx_getR E hw kF_CT_20_10 (by decide) dX11_count_234 (fun v38 _ => ?_)
    refine gx_getR E hw kF_CT_116_7 (by decide) dX11_count_237 (fun v39 _ => ?_)
    refine gx_getR E hw kF_CT_152_0 (by decide) dX11_count_240 (fun v40 _ => ?_)
    refine gx_getI E hw kF_CT_420_4 (by decide) dX11_count_243 (fun v41 _ => ?_)
    exact p_iret E hw hr (Nat.le_of_ble_eq_true rfl) (Nat.le_of_ble_eq_true rfl) rfl dX11_count_246
  refine cx_tab 16 (tgt := 247) E dX11_count_1 (by decide) (by decide) rfl (by decide) (fun _ => ?_) (fun hn16 => ?_)
  · refine lv_aload_n hx hb dX11_count_247 rfl (lv_at hl 0 rfl) ?_
    refine gx_getR E hw kF_CT_20_10 (by decide) dX11_count_248 (fun v42 _ => ?_)
    refine gx_getR E hw kF_CT_116_7 (by decide) dX11_count_251 (fun v43 _ => ?_)
    refine gx_getR E hw kF_CT_152_0 (by decide) dX11_count_254 (fun v44 _ => ?_)
    refine gx_getI E hw kF_CT_423_4 (by decide) dX11_count_257 (fun v45 _ => ?_)
    exact p_iret E hw hr (Nat.le_of_ble_eq_true rfl) (Nat.le_of_ble_eq_true rfl) rfl dX11_count_260
  refine lv_tableOut (tgt := 261) hx hb dX11_count_1 (by have h9 := (⟨hn0, hn1, hn2, hn3, hn4, hn5, hn6, hn7, hn8, hn9, hn10, hn11, hn12, hn13, hn14, hn15, hn16⟩ : a0.toInt ≠ 0 ∧ a0.toInt ≠ 1 ∧ a0.toInt ≠ 2 ∧ a0.toInt ≠ 3 ∧ a0.toInt ≠ 4 ∧ a0.toInt ≠ 5 ∧ a0.toInt ≠ 6 ∧ a0.toInt ≠ 7 ∧ a0.toInt ≠ 8 ∧ a0.toInt ≠ 9 ∧ a0.toInt ≠ 10 ∧ a0.toInt ≠ 11 ∧ a0.toInt ≠ 12 ∧ a0.toInt ≠ 13 ∧ a0.toInt ≠ 14 ∧ a0.toInt ≠ 15 ∧ a0.toInt ≠ 16); omega) (by decide) ?_
  refine lv_iconst (v := (-1)) hx hb dX11_count_261 (by decide) ?_
  exact p_iret E hw hr (Nat.le_of_ble_eq_true rfl) (Nat.le_of_ble_eq_true rfl) rfl dX11_count_262
set_option maxHeartbeats 4000000 in
set_option maxRecDepth 100000 in
theorem t_CT_useTapeUp (l : Launch) (hfl : l.stackTraces = false) (G : wG) (this : Nat) (M : Mem) (r : Rho) : Ctr l yX11_useTapeUp (wWs yX11_useTapeUp cX11_useTapeUp 2 (some .int)) rm_CT_useTapeUp rm_CT_useTapeUp.cells rm_CT_useTapeUp.slots G [.ref this] M r ((f_CT_useTapeUp this M).map (fun z => (.inl (some (.int z.1)), z.2, r))) := by
  refine Ctr.ofF (own := "CheekTown") (by decide +kernel) hfl rfl (Nat.le_of_ble_eq_true rfl) (fun p e s m args below meth c E hno hr hnm hw ls hl => ?_)
  obtain ⟨hx, hb, hts, hown, hml, hTT, -⟩ := id E
  have hl : lv_has ls 2 [(0, .ref this)] := hl
  obtain ⟨H, hH⟩ : ∃ H, H = s.heap := ⟨_, rfl⟩
  obtain ⟨locs, hlo⟩ : ∃ L : List Loc, L = [] := ⟨_, rfl⟩
  rw [← hH, ← hlo]
  rw [← hlo] at hw
  replace hw : w_W G M r s H locs := by rw [hH]; exact hw
  unfold f_CT_useTapeUp
  refine lv_aload_n hx hb dX11_useTapeUp_0 rfl (lv_at hl 0 rfl) ?_
  refine gx_getI E hw kF_CT_48_10 (by decide) dX11_useTapeUp_1 (fun v1 _ => ?_)
  refine lv_istore_n (lv' := [(1, .int v1), (0, .ref this)]) hx hb dX11_useTapeUp_4 rfl hl (by decide) rfl (fun ls hl => ?_)
  refine lv_aload_n hx hb dX11_useTapeUp_5 rfl (lv_at hl 1 rfl) ?_
  refine lv_iconst (v := 0) hx hb dX11_useTapeUp_6 (by decide) ?_
  refine gx_putI E hw kF_CT_48_10 kT_10_1 (by decide) dX11_useTapeUp_7 (fun M2 H locs _ hw => ?_)
  refine lv_iload_n hx hb dX11_useTapeUp_10 rfl (lv_at hl 0 rfl) ?_
  exact p_iret E hw hr (Nat.le_of_ble_eq_true rfl) (Nat.le_of_ble_eq_true rfl) rfl dX11_useTapeUp_11
set_option maxHeartbeats 4000000 in
set_option maxRecDepth 100000 in
theorem t_TxR_init_8 (l : Launch) (hfl : l.stackTraces = false) (G : wG) (this : Nat) (a0 : Nat) (a1 : Int32) (M : Mem) (r : Rho) : Ctr l yX7_init (wWs yX7_init cX7_init 3 none) rm_TxR_init_8 rm_TxR_init_8.cells rm_TxR_init_8.slots G [.ref this, .ref a0, .int a1] M r ((f_TxR_init_8 this a0 a1 M).map (fun z => (.inl none, z, r))) := by
  refine Ctr.ofF (own := "CheekTown$TextReade\x72") (by decide +kernel) hfl rfl (Nat.le_of_ble_eq_true rfl) (fun p e s m args below meth c E hno hr hnm hw ls hl => ?_)
  obtain ⟨hx, hb, hts, hown, hml, hTT, -⟩ := id E
  have hl : lv_has ls 3 [(0, .ref this), (1, .ref a0), (2, .int a1)] := hl
  obtain ⟨H, hH⟩ : ∃ H, H = s.heap := ⟨_, rfl⟩
  obtain ⟨locs, hlo⟩ : ∃ L : List Loc, L = [] := ⟨_, rfl⟩
  rw [← hH, ← hlo]
  rw [← hlo] at hw
  replace hw : w_W G M r s H locs := by rw [hH]; exact hw
  unfold f_TxR_init_8
  refine lv_aload_n hx hb dX7_init_0 rfl (lv_at hl 0 rfl) ?_
  refine W.objInit hx hb hown (hts _ kO_TxR) (hts _ kO_i) (hts _ kO_c) rfl (by rw [hml]; exact hl.1) rfl dX7_init_1 (Nat.le_of_ble_eq_true rfl) (Nat.le_of_ble_eq_true rfl) ?_
  refine W.eq (g2 := F0 m 4 ls []) rfl ?_
  refine lv_aload_n hx hb dX7_init_4 rfl (lv_at hl 0 rfl) ?_
  refine lv_iconst (v := (-1)) hx hb dX7_init_5 (by decide) ?_
  refine gx_putI E hw kF_TxR_9_8 kT_8_0 (by decide) dX7_init_6 (fun M1 H locs _ hw => ?_)
  refine lv_aload_n hx hb dX7_init_9 rfl (lv_at hl 0 rfl) ?_
  refine lv_aload_n hx hb dX7_init_10 rfl (lv_at hl 1 rfl) ?_
  refine gx_putFR E hw kF_TxR_15_8 kT_8_1 hnm ⟨_, _, _, rfl, rfl⟩ rfl rfl (by decide) dX7_init_11 (fun M2 H locs _ hw => ?_)
  refine lv_aload_n hx hb dX7_init_14 rfl (lv_at hl 0 rfl) ?_
  refine lv_iload_n hx hb dX7_init_15 rfl (lv_at hl 2 rfl) ?_
  refine lv_aload_n hx hb dX7_init_16 rfl (lv_at hl 1 rfl) ?_
  refine gx_alen E hw dX7_init_17 (fun v3 _ => ?_)
  refine W_bind fun z4 hz => ?_
  refine w_after (cells1 := 0) (slots1 := 0) (w_runS E kS_TxR_19 kc_J9_min_7cf53 (t_Math_min l hfl G a1 v3 M2 r ((fun z => (.inl (some (.int z)), M2, r)) z4) (by rw [hz]; rfl)) ⟨Nat.le_of_ble_eq_true rfl, Nat.le_of_ble_eq_true rfl⟩ hw rfl hl.1 rfl (Nat.le_of_ble_eq_true rfl) dX7_init_18 ⟨Nat.le_of_ble_eq_true rfl, Nat.le_of_ble_eq_true rfl⟩) hw rfl (Nat.le_of_ble_eq_true rfl) (Nat.le_of_ble_eq_true rfl) (fun H locs hw => ?_)
  refine W.eq (g2 := F0 m 21 ls [.int z4, .ref this]) rfl ?_
  have hw : w_W G M2 r s H locs := hw
  refine gx_putFI E hw kF_TxR_25_8 kT_8_2 hnm ⟨_, _, _, rfl, rfl⟩ (by decide) dX7_init_21 (fun M5 H locs _ hw => ?_)
  exact p_vret E hw hr (Nat.le_of_ble_eq_true rfl) (Nat.le_of_ble_eq_true rfl) rfl dX7_init_24
set_option maxHeartbeats 4000000 in
set_option maxRecDepth 100000 in
theorem t_TR_init (l : Launch) (hfl : l.stackTraces = false) (G : wG) (this : Nat) (a0 : Nat) (a1 : Int32) (a2 : Nat) (M : Mem) (r : Rho) : Ctr l yX9_init (wWs yX9_init cX9_init 4 none) rm_TR_init rm_TR_init.cells rm_TR_init.slots G [.ref this, .ref a0, .int a1, .ref a2] M r ((f_TR_init this a0 a1 a2 M).map (fun z => (.inl none, z, r))) := by
  refine Ctr.ofF (own := "CheekTown$TownReade\x72") (by decide +kernel) hfl rfl (Nat.le_of_ble_eq_true rfl) (fun p e s m args below meth c E hno hr hnm hw ls hl => ?_)
  obtain ⟨hx, hb, hts, hown, hml, hTT, -⟩ := id E
  have hl : lv_has ls 4 [(0, .ref this), (1, .ref a0), (2, .int a1), (3, .ref a2)] := hl
  obtain ⟨H, hH⟩ : ∃ H, H = s.heap := ⟨_, rfl⟩
  obtain ⟨locs, hlo⟩ : ∃ L : List Loc, L = [] := ⟨_, rfl⟩
  rw [← hH, ← hlo]
  rw [← hlo] at hw
  replace hw : w_W G M r s H locs := by rw [hH]; exact hw
  unfold f_TR_init
  refine lv_aload_n hx hb dX9_init_0 rfl (lv_at hl 0 rfl) ?_
  refine lv_aload_n hx hb dX9_init_1 rfl (lv_at hl 1 rfl) ?_
  refine lv_iload_n hx hb dX9_init_2 rfl (lv_at hl 2 rfl) ?_
  refine W_bind fun z1 hz => ?_
  refine w_after (cells1 := 0) (slots1 := 0) (w_runI E kI_TR_3 kc_X7_init (t_TxR_init_8 l hfl G this a0 a1 M r ((fun z => (.inl none, z, r)) z1) (by rw [hz]; rfl)) ⟨Nat.le_of_ble_eq_true rfl, Nat.le_of_ble_eq_true rfl⟩ hw rfl hl.1 rfl (Nat.le_of_ble_eq_true rfl) dX9_init_3 ⟨Nat.le_of_ble_eq_true rfl, Nat.le_of_ble_eq_true rfl⟩) hw rfl (Nat.le_of_ble_eq_true rfl) (Nat.le_of_ble_eq_true rfl) (fun H locs hw => ?_)
  refine W.eq (g2 := F0 m 6 ls []) rfl ?_
  have hw : w_W G z1 r s H locs := hw
  refine lv_aload_n hx hb dX9_init_6 rfl (lv_at hl 0 rfl) ?_
  refine lv_aload_n hx hb dX9_init_7 rfl (lv_at hl 3 rfl) ?_
  refine gx_putFR E hw kF_TR_9_8 kT_8_6 hnm ⟨_, _, _, rfl, rfl⟩ rfl rfl (by decide) dX9_init_8 (fun M2 H locs _ hw => ?_)
  exact p_vret E hw hr (Nat.le_of_ble_eq_true rfl) (Nat.le_of_ble_eq_true rfl) rfl dX9_init_11
set_option maxHeartbeats 4000000 in
set_option maxRecDepth 100000 in
theorem t_TxR_goOn_8 (l : Launch) (hfl : l.stackTraces = false) (G : wG) (N : Nat) (this : Nat) (M : Mem) (r : Rho) : Ctr l yX7_goOn (wWs yX7_goOn cX7_goOn 1 none) rm_TxR_goOn_8 rm_TxR_goOn_8.cells rm_TxR_goOn_8.slots G [.ref this] M r ((f_TxR_goOn_8 N this M).map (fun z => (.inl none, z, r))) := by
  refine Ctr.ofF (own := "CheekTown$TextReade\x72") (by decide +kernel) hfl rfl (Nat.le_of_ble_eq_true rfl) (fun p e s m args below meth c E hno hr hnm hw ls hl => ?_)
  obtain ⟨hx, hb, hts, hown, hml, hTT, -⟩ := id E
  have hl : lv_has ls 1 [(0, .ref this)] := hl
  obtain ⟨H, hH⟩ : ∃ H, H = s.heap := ⟨_, rfl⟩
  obtain ⟨locs, hlo⟩ : ∃ L : List Loc, L = [] := ⟨_, rfl⟩
  rw [← hH, ← hlo]
  rw [← hlo] at hw
  replace hw : w_W G M r s H locs := by rw [hH]; exact hw
  have w177 : ∀ (M : Mem) (H : Heap) (locs : List Loc) (ls : Array Slot), w_W G M r s H locs → lv_has ls 1 [(0, .ref this)] → W p l e rm_TxR_goOn_8 s m args below meth c H locs 0 0 (PQ G below args s rm_TxR_goOn_8.cells rm_TxR_goOn_8.slots (fun z => (.inl none, z, r)) (f_TxR_goOn_8_177 N this M)) (F0 m 177 ls []) := by
    intro M H locs ls hw hl
    unfold f_TxR_goOn_8_177
    refine lv_aload_n hx hb dX7_goOn_177 rfl (lv_at hl 0 rfl) ?_
    refine gx_getI E hw kF_TxR_47_8 (by decide) dX7_goOn_178 (fun v26 _ => ?_)
    refine lv_aload_n hx hb dX7_goOn_181 rfl (lv_at hl 0 rfl) ?_
    refine gx_getI E hw kF_TxR_31_8 (by decide) dX7_goOn_182 (fun v27 _ => ?_)
    refine cx_icmp_ne (tgt := 209) E dX7_goOn_185 (by decide) (fun _ => ?_) (fun _ => ?_)
    · exact p_vret E hw hr (Nat.le_of_ble_eq_true rfl) (Nat.le_of_ble_eq_true rfl) rfl dX7_goOn_209
    · refine lv_aload_n hx hb dX7_goOn_188 rfl (lv_at hl 0 rfl) ?_
      refine gx_getI E hw kF_TxR_47_8 (by decide) dX7_goOn_189 (fun v28 _ => ?_)
      refine lv_aload_n hx hb dX7_goOn_192 rfl (lv_at hl 0 rfl) ?_
      refine gx_getI E hw kF_TxR_25_8 (by decide) dX7_goOn_193 (fun v29 _ => ?_)
      refine cx_icmp_ge (tgt := 209) E dX7_goOn_196 (by decide) (fun _ => ?_) (fun _ => ?_)
      · exact p_vret E hw hr (Nat.le_of_ble_eq_true rfl) (Nat.le_of_ble_eq_true rfl) rfl dX7_goOn_209
      · refine lv_aload_n hx hb dX7_goOn_199 rfl (lv_at hl 0 rfl) ?_
        refine lv_dup hx hb dX7_goOn_200 rfl ?_
        refine gx_getI E hw kF_TxR_47_8 (by decide) dX7_goOn_201 (fun v30 _ => ?_)
        refine lv_iconst (v := 1) hx hb dX7_goOn_204 (by decide) ?_
        refine lv_iadd hx hb dX7_goOn_205 ?_
        refine gx_putI E hw kF_TxR_47_8 kT_8_5 (by decide) dX7_goOn_206 (fun M31 H locs _ hw => ?_)
        exact p_vret E hw hr (Nat.le_of_ble_eq_true rfl) (Nat.le_of_ble_eq_true rfl) rfl dX7_goOn_209
  have w125 : ∀ (n : Nat) (M : Mem) (H : Heap) (locs : List Loc) (ls : Array Slot), w_W G M r s H locs → lv_has ls 1 [(0, .ref this)] → W p l e rm_TxR_goOn_8 s m args below meth c H locs 0 0 (PQ G below args s rm_TxR_goOn_8.cells rm_TxR_goOn_8.slots (fun z => (.inl none, z, r)) (f_TxR_goOn_8_125 N this n M)) (F0 m 125 ls []) := by
    intro n
    induction n with
    | zero => intros; exact W_none
    | succ n ih =>
      intro M H locs ls hw hl
      rw [f_TxR_goOn_8_125]
      refine lv_aload_n hx hb dX7_goOn_125 rfl (lv_at hl 0 rfl) ?_
      refine gx_getI E hw kF_TxR_47_8 (by decide) dX7_goOn_126 (fun v32 _ => ?_)
      refine lv_aload_n hx hb dX7_goOn_129 rfl (lv_at hl 0 rfl) ?_
      refine gx_getI E hw kF_TxR_25_8 (by decide) dX7_goOn_130 (fun v33 _ => ?_)
      refine cx_icmp_ge (tgt := 177) E dX7_goOn_133 (by decide) (fun _ => ?_) (fun _ => ?_)
      · exact w177  M _ _ _ hw (lv_sub hl [0] rfl)
      · refine lv_aload_n hx hb dX7_goOn_136 rfl (lv_at hl 0 rfl) ?_
        refine gx_getR E hw kF_TxR_15_8 (by decide) dX7_goOn_137 (fun v34 _ => ?_)
        refine lv_aload_n hx hb dX7_goOn_140 rfl (lv_at hl 0 rfl) ?_
        refine gx_getI E hw kF_TxR_47_8 (by decide) dX7_goOn_141 (fun v35 _ => ?_)
        refine gx_iald E hw dX7_goOn_144 (fun v36 _ => ?_)
        refine lv_bipush (v := 48) hx hb dX7_goOn_145 (by decide) ?_
        refine cx_icmp_lt (tgt := 177) E dX7_goOn_147 (by decide) (fun _ => ?_) (fun _ => ?_)
        · exact w177  M _ _ _ hw (lv_sub hl [0] rfl)
        · refine lv_aload_n hx hb dX7_goOn_150 rfl (lv_at hl 0 rfl) ?_
          refine gx_getR E hw kF_TxR_15_8 (by decide) dX7_goOn_151 (fun v37 _ => ?_)
          refine lv_aload_n hx hb dX7_goOn_154 rfl (lv_at hl 0 rfl) ?_
          refine gx_getI E hw kF_TxR_47_8 (by decide) dX7_goOn_155 (fun v38 _ => ?_)
          refine gx_iald E hw dX7_goOn_158 (fun v39 _ => ?_)
          refine lv_bipush (v := 57) hx hb dX7_goOn_159 (by decide) ?_
          refine cx_icmp_gt (tgt := 177) E dX7_goOn_161 (by decide) (fun _ => ?_) (fun _ => ?_)
          · exact w177  M _ _ _ hw (lv_sub hl [0] rfl)
          · refine lv_aload_n hx hb dX7_goOn_164 rfl (lv_at hl 0 rfl) ?_
            refine lv_dup hx hb dX7_goOn_165 rfl ?_
            refine gx_getI E hw kF_TxR_47_8 (by decide) dX7_goOn_166 (fun v40 _ => ?_)
            refine lv_iconst (v := 1) hx hb dX7_goOn_169 (by decide) ?_
            refine lv_iadd hx hb dX7_goOn_170 ?_
            refine gx_putI E hw kF_TxR_47_8 kT_8_5 (by decide) dX7_goOn_171 (fun M41 H locs _ hw => ?_)
            refine lv_goto (tgt := 125) hx hb dX7_goOn_174 (by decide) ?_
            exact ih M41 _ _ _ hw (lv_sub hl [0] rfl)
  have w114 : ∀ (M : Mem) (H : Heap) (locs : List Loc) (ls : Array Slot), w_W G M r s H locs → lv_has ls 1 [(0, .ref this)] → W p l e rm_TxR_goOn_8 s m args below meth c H locs 0 0 (PQ G below args s rm_TxR_goOn_8.cells rm_TxR_goOn_8.slots (fun z => (.inl none, z, r)) (f_TxR_goOn_8_114 N this M)) (F0 m 114 ls []) := by
    intro M H locs ls hw hl
    unfold f_TxR_goOn_8_114
    refine lv_aload_n hx hb dX7_goOn_114 rfl (lv_at hl 0 rfl) ?_
    refine gx_getI E hw kF_TxR_47_8 (by decide) dX7_goOn_115 (fun v24 _ => ?_)
    refine lv_aload_n hx hb dX7_goOn_118 rfl (lv_at hl 0 rfl) ?_
    refine gx_getI E hw kF_TxR_31_8 (by decide) dX7_goOn_119 (fun v25 _ => ?_)
    refine cx_icmp_ne (tgt := 177) E dX7_goOn_122 (by decide) (fun _ => ?_) (fun _ => ?_)
    · exact w177  M _ _ _ hw (lv_sub hl [0] rfl)
    · exact w125  N M _ _ _ hw (lv_sub hl [0] rfl)
  have w62 : ∀ (n : Nat) (M : Mem) (H : Heap) (locs : List Loc) (ls : Array Slot), w_W G M r s H locs → lv_has ls 1 [(0, .ref this)] → W p l e rm_TxR_goOn_8 s m args below meth c H locs 0 0 (PQ G below args s rm_TxR_goOn_8.cells rm_TxR_goOn_8.slots (fun z => (.inl none, z, r)) (f_TxR_goOn_8_62 N this n M)) (F0 m 62 ls []) := by
    intro n
    induction n with
    | zero => intros; exact W_none
    | succ n ih =>
      intro M H locs ls hw hl
      rw [f_TxR_goOn_8_62]
      refine lv_aload_n hx hb dX7_goOn_62 rfl (lv_at hl 0 rfl) ?_
      refine gx_getI E hw kF_TxR_47_8 (by decide) dX7_goOn_63 (fun v14 _ => ?_)
      refine lv_aload_n hx hb dX7_goOn_66 rfl (lv_at hl 0 rfl) ?_
      refine gx_getI E hw kF_TxR_25_8 (by decide) dX7_goOn_67 (fun v15 _ => ?_)
      refine cx_icmp_ge (tgt := 114) E dX7_goOn_70 (by decide) (fun _ => ?_) (fun _ => ?_)
      · exact w114  M _ _ _ hw (lv_sub hl [0] rfl)
      · refine lv_aload_n hx hb dX7_goOn_73 rfl (lv_at hl 0 rfl) ?_
        refine gx_getR E hw kF_TxR_15_8 (by decide) dX7_goOn_74 (fun v16 _ => ?_)
        refine lv_aload_n hx hb dX7_goOn_77 rfl (lv_at hl 0 rfl) ?_
        refine gx_getI E hw kF_TxR_47_8 (by decide) dX7_goOn_78 (fun v17 _ => ?_)
        refine gx_iald E hw dX7_goOn_81 (fun v18 _ => ?_)
        refine lv_bipush (v := 97) hx hb dX7_goOn_82 (by decide) ?_
        refine cx_icmp_lt (tgt := 114) E dX7_goOn_84 (by decide) (fun _ => ?_) (fun _ => ?_)
        · exact w114  M _ _ _ hw (lv_sub hl [0] rfl)
        · refine lv_aload_n hx hb dX7_goOn_87 rfl (lv_at hl 0 rfl) ?_
          refine gx_getR E hw kF_TxR_15_8 (by decide) dX7_goOn_88 (fun v19 _ => ?_)
          refine lv_aload_n hx hb dX7_goOn_91 rfl (lv_at hl 0 rfl) ?_
          refine gx_getI E hw kF_TxR_47_8 (by decide) dX7_goOn_92 (fun v20 _ => ?_)
          refine gx_iald E hw dX7_goOn_95 (fun v21 _ => ?_)
          refine lv_bipush (v := 122) hx hb dX7_goOn_96 (by decide) ?_
          refine cx_icmp_gt (tgt := 114) E dX7_goOn_98 (by decide) (fun _ => ?_) (fun _ => ?_)
          · exact w114  M _ _ _ hw (lv_sub hl [0] rfl)
          · refine lv_aload_n hx hb dX7_goOn_101 rfl (lv_at hl 0 rfl) ?_
            refine lv_dup hx hb dX7_goOn_102 rfl ?_
            refine gx_getI E hw kF_TxR_47_8 (by decide) dX7_goOn_103 (fun v22 _ => ?_)
            refine lv_iconst (v := 1) hx hb dX7_goOn_106 (by decide) ?_
            refine lv_iadd hx hb dX7_goOn_107 ?_
            refine gx_putI E hw kF_TxR_47_8 kT_8_5 (by decide) dX7_goOn_108 (fun M23 H locs _ hw => ?_)
            refine lv_goto (tgt := 62) hx hb dX7_goOn_111 (by decide) ?_
            exact ih M23 _ _ _ hw (lv_sub hl [0] rfl)
  have w54 : ∀ (M : Mem) (H : Heap) (locs : List Loc) (ls : Array Slot), w_W G M r s H locs → lv_has ls 1 [(0, .ref this)] → W p l e rm_TxR_goOn_8 s m args below meth c H locs 0 0 (PQ G below args s rm_TxR_goOn_8.cells rm_TxR_goOn_8.slots (fun z => (.inl none, z, r)) (f_TxR_goOn_8_54 N this M)) (F0 m 54 ls []) := by
    intro M H locs ls hw hl
    unfold f_TxR_goOn_8_54
    refine lv_aload_n hx hb dX7_goOn_54 rfl (lv_at hl 0 rfl) ?_
    refine lv_aload_n hx hb dX7_goOn_55 rfl (lv_at hl 0 rfl) ?_
    refine gx_getI E hw kF_TxR_31_8 (by decide) dX7_goOn_56 (fun v12 _ => ?_)
    refine gx_putI E hw kF_TxR_47_8 kT_8_5 (by decide) dX7_goOn_59 (fun M13 H locs _ hw => ?_)
    exact w62  N M13 _ _ _ hw (lv_sub hl [0] rfl)
  have w16 : ∀ (n : Nat) (M : Mem) (H : Heap) (locs : List Loc) (ls : Array Slot), w_W G M r s H locs → lv_has ls 1 [(0, .ref this)] → W p l e rm_TxR_goOn_8 s m args below meth c H locs 0 0 (PQ G below args s rm_TxR_goOn_8.cells rm_TxR_goOn_8.slots (fun z => (.inl none, z, r)) (f_TxR_goOn_8_16 N this n M)) (F0 m 16 ls []) := by
    intro n
    induction n with
    | zero => intros; exact W_none
    | succ n ih =>
      intro M H locs ls hw hl
      rw [f_TxR_goOn_8_16]
      refine lv_aload_n hx hb dX7_goOn_16 rfl (lv_at hl 0 rfl) ?_
      refine gx_getI E hw kF_TxR_31_8 (by decide) dX7_goOn_17 (fun v5 _ => ?_)
      refine lv_aload_n hx hb dX7_goOn_20 rfl (lv_at hl 0 rfl) ?_
      refine gx_getI E hw kF_TxR_25_8 (by decide) dX7_goOn_21 (fun v6 _ => ?_)
      refine cx_icmp_ge (tgt := 54) E dX7_goOn_24 (by decide) (fun _ => ?_) (fun _ => ?_)
      · exact w54  M _ _ _ hw (lv_sub hl [0] rfl)
      · refine lv_aload_n hx hb dX7_goOn_27 rfl (lv_at hl 0 rfl) ?_
        refine gx_getR E hw kF_TxR_15_8 (by decide) dX7_goOn_28 (fun v7 _ => ?_)
        refine lv_aload_n hx hb dX7_goOn_31 rfl (lv_at hl 0 rfl) ?_
        refine gx_getI E hw kF_TxR_31_8 (by decide) dX7_goOn_32 (fun v8 _ => ?_)
        refine gx_iald E hw dX7_goOn_35 (fun v9 _ => ?_)
        refine lv_bipush (v := 32) hx hb dX7_goOn_36 (by decide) ?_
        refine cx_icmp_ne (tgt := 54) E dX7_goOn_38 (by decide) (fun _ => ?_) (fun _ => ?_)
        · exact w54  M _ _ _ hw (lv_sub hl [0] rfl)
        · refine lv_aload_n hx hb dX7_goOn_41 rfl (lv_at hl 0 rfl) ?_
          refine lv_dup hx hb dX7_goOn_42 rfl ?_
          refine gx_getI E hw kF_TxR_31_8 (by decide) dX7_goOn_43 (fun v10 _ => ?_)
          refine lv_iconst (v := 1) hx hb dX7_goOn_46 (by decide) ?_
          refine lv_iadd hx hb dX7_goOn_47 ?_
          refine gx_putI E hw kF_TxR_31_8 kT_8_4 (by decide) dX7_goOn_48 (fun M11 H locs _ hw => ?_)
          refine lv_goto (tgt := 16) hx hb dX7_goOn_51 (by decide) ?_
          exact ih M11 _ _ _ hw (lv_sub hl [0] rfl)
  unfold f_TxR_goOn_8
  refine lv_aload_n hx hb dX7_goOn_0 rfl (lv_at hl 0 rfl) ?_
  refine lv_aload_n hx hb dX7_goOn_1 rfl (lv_at hl 0 rfl) ?_
  refine gx_getI E hw kF_TxR_31_8 (by decide) dX7_goOn_2 (fun v1 _ => ?_)
  refine gx_putI E hw kF_TxR_44_8 kT_8_3 (by decide) dX7_goOn_5 (fun M2 H locs _ hw => ?_)
  refine lv_aload_n hx hb dX7_goOn_8 rfl (lv_at hl 0 rfl) ?_
  refine lv_aload_n hx hb dX7_goOn_9 rfl (lv_at hl 0 rfl) ?_
  refine gx_getI E hw kF_TxR_47_8 (by decide) dX7_goOn_10 (fun v3 _ => ?_)
  refine gx_putI E hw kF_TxR_31_8 kT_8_4 (by decide) dX7_goOn_13 (fun M4 H locs _ hw => ?_)
  exact w16  N M4 _ _ _ hw (lv_sub hl [0] rfl)
set_option maxHeartbeats 4000000 in
set_option maxRecDepth 100000 in
theorem t_TxR_takeWord_8 (l : Launch) (hfl : l.stackTraces = false) (G : wG) (N : Nat) (this : Nat) (a0 : Nat) (M : Mem) (r : Rho) : Ctr l yX7_takeWord (wWs yX7_takeWord cX7_takeWord 3 (some .boolean)) rm_TxR_takeWord_8 rm_TxR_takeWord_8.cells rm_TxR_takeWord_8.slots G [.ref this, .ref (g_sk G a0)] M r ((f_TxR_takeWord_8 N this a0 M).map (fun z => (.inl (some (.int z.1)), z.2, r))) := by
  refine Ctr.ofF (own := "CheekTown$TextReade\x72") (by decide +kernel) hfl rfl (Nat.le_of_ble_eq_true rfl) (fun p e s m args below meth c E hno hr hnm hw ls hl => ?_)
  obtain ⟨hx, hb, hts, hown, hml, hTT, -⟩ := id E
  have hl : lv_has ls 3 [(0, .ref this), (1, .ref (g_sk G a0))] := hl
  obtain ⟨H, hH⟩ : ∃ H, H = s.heap := ⟨_, rfl⟩
  obtain ⟨locs, hlo⟩ : ∃ L : List Loc, L = [] := ⟨_, rfl⟩
  rw [← hH, ← hlo]
  rw [← hlo] at hw
  replace hw : w_W G M r s H locs := by rw [hH]; exact hw
  have w76 : ∀ (M : Mem) (H : Heap) (locs : List Loc) (ls : Array Slot), w_W G M r s H locs → lv_has ls 3 [(0, .ref this)] → W p l e rm_TxR_takeWord_8 s m args below meth c H locs 0 0 (PQ G below args s rm_TxR_takeWord_8.cells rm_TxR_takeWord_8.slots (fun z => (.inl (some (.int z.1)), z.2, r)) (f_TxR_takeWord_8_76 N this a0 M)) (F0 m 76 ls []) := by
    intro M H locs ls hw hl
    unfold f_TxR_takeWord_8_76
    refine lv_aload_n hx hb dX7_takeWord_76 rfl (lv_at hl 0 rfl) ?_
    refine W_bind fun _ hck => ?_
    refine W_bind fun z12 hz => ?_
    refine w_after (cells1 := 0) (slots1 := 0) (w_runU E kU_TxR_28_TR kc_X7_goOn (t_TxR_goOn_8 l hfl G N this M r ((fun z => (.inl none, z, r)) z12) (by rw [hz]; rfl)) ⟨Nat.le_of_ble_eq_true rfl, Nat.le_of_ble_eq_true rfl⟩ hw (w_recv E hw (by decide) ⟨_, _, rfl⟩ (ck_ok hck)) rfl hl.1 rfl (Nat.le_of_ble_eq_true rfl) dX7_takeWord_77 ⟨Nat.le_of_ble_eq_true rfl, Nat.le_of_ble_eq_true rfl⟩) hw rfl (Nat.le_of_ble_eq_true rfl) (Nat.le_of_ble_eq_true rfl) (fun H locs hw => ?_)
    refine W.eq (g2 := F0 m 80 ls []) rfl ?_
    have hw : w_W G z12 r s H locs := hw
    refine lv_iconst (v := 1) hx hb dX7_takeWord_80 (by decide) ?_
    exact p_zret E hw hr (by decide) (Nat.le_of_ble_eq_true rfl) (Nat.le_of_ble_eq_true rfl) rfl dX7_takeWord_81
  have w28 : ∀ (n : Nat) (x2 : Int32) (M : Mem) (H : Heap) (locs : List Loc) (ls : Array Slot), w_W G M r s H locs → lv_has ls 3 [(0, .ref this), (1, .ref (g_sk G a0)), (2, .int x2)] → W p l e rm_TxR_takeWord_8 s m args below meth c H locs 0 0 (PQ G below args s rm_TxR_takeWord_8.cells rm_TxR_takeWord_8.slots (fun z => (.inl (some (.int z.1)), z.2, r)) (f_TxR_takeWord_8_28 N this a0 n x2 M)) (F0 m 28 ls []) := by
    intro n
    induction n with
    | zero => intros; exact W_none
    | succ n ih =>
      intro x2 M H locs ls hw hl
      rw [f_TxR_takeWord_8_28]
      refine lv_iload_n hx hb dX7_takeWord_28 rfl (lv_at hl 2 rfl) ?_
      refine lv_aload_n hx hb dX7_takeWord_29 rfl (lv_at hl 1 rfl) ?_
      refine gx_slen E hw kSl_TxR hl.1 (Nat.le_of_ble_eq_true rfl) dX7_takeWord_30 (Nat.le_of_ble_eq_true rfl) (Nat.le_of_ble_eq_true rfl) (Nat.le_of_ble_eq_true rfl) (Nat.le_of_ble_eq_true rfl) (fun v5 H locs hw => ?_)
      refine cx_icmp_ge (tgt := 76) E dX7_takeWord_33 (by decide) (fun _ => ?_) (fun _ => ?_)
      · exact w76  M _ _ _ hw (lv_sub hl [0] rfl)
      · refine lv_aload_n hx hb dX7_takeWord_36 rfl (lv_at hl 0 rfl) ?_
        refine gx_getI E hw kF_TxR_31_8 (by decide) dX7_takeWord_37 (fun v6 _ => ?_)
        refine lv_iload_n hx hb dX7_takeWord_40 rfl (lv_at hl 2 rfl) ?_
        refine lv_iadd hx hb dX7_takeWord_41 ?_
        refine lv_aload_n hx hb dX7_takeWord_42 rfl (lv_at hl 0 rfl) ?_
        refine gx_getI E hw kF_TxR_25_8 (by decide) dX7_takeWord_43 (fun v7 _ => ?_)
        refine cx_icmp_ge (tgt := 76) E dX7_takeWord_46 (by decide) (fun _ => ?_) (fun _ => ?_)
        · exact w76  M _ _ _ hw (lv_sub hl [0] rfl)
        · refine lv_aload_n hx hb dX7_takeWord_49 rfl (lv_at hl 0 rfl) ?_
          refine gx_getR E hw kF_TxR_15_8 (by decide) dX7_takeWord_50 (fun v8 _ => ?_)
          refine lv_aload_n hx hb dX7_takeWord_53 rfl (lv_at hl 0 rfl) ?_
          refine gx_getI E hw kF_TxR_31_8 (by decide) dX7_takeWord_54 (fun v9 _ => ?_)
          refine lv_iload_n hx hb dX7_takeWord_57 rfl (lv_at hl 2 rfl) ?_
          refine lv_iadd hx hb dX7_takeWord_58 ?_
          refine gx_iald E hw dX7_takeWord_59 (fun v10 _ => ?_)
          refine lv_aload_n hx hb dX7_takeWord_60 rfl (lv_at hl 1 rfl) ?_
          refine lv_iload_n hx hb dX7_takeWord_61 rfl (lv_at hl 2 rfl) ?_
          refine gx_schar E hw kSc_TxR hl.1 (Nat.le_of_ble_eq_true rfl) dX7_takeWord_62 (Nat.le_of_ble_eq_true rfl) (Nat.le_of_ble_eq_true rfl) (Nat.le_of_ble_eq_true rfl) (Nat.le_of_ble_eq_true rfl) (fun v11 H locs hw => ?_)
          refine cx_icmp_eq (tgt := 70) E dX7_takeWord_65 (by decide) (fun _ => ?_) (fun _ => ?_)
          · refine lv_iinc (v := x2 + 1) (lv' := [(2, .int (x2 + 1)), (0, .ref this), (1, .ref (g_sk G a0))]) hx hb dX7_takeWord_70 hl (k := 2) rfl rfl (by decide) rfl (fun ls hl => ?_)
            refine lv_goto (tgt := 28) hx hb dX7_takeWord_73 (by decide) ?_
            exact ih (x2 + 1) M _ _ _ hw (lv_sub hl [1, 2, 0] rfl)
          · refine lv_iconst (v := 0) hx hb dX7_takeWord_68 (by decide) ?_
            exact p_zret E hw hr (by decide) (Nat.le_of_ble_eq_true rfl) (Nat.le_of_ble_eq_true rfl) rfl dX7_takeWord_69
  unfold f_TxR_takeWord_8
  refine lv_aload_n hx hb dX7_takeWord_0 rfl (lv_at hl 0 rfl) ?_
  refine gx_getI E hw kF_TxR_9_8 (by decide) dX7_takeWord_1 (fun v1 _ => ?_)
  refine lv_iconst (v := (-1)) hx hb dX7_takeWord_4 (by decide) ?_
  refine cx_icmp_ne (tgt := 24) E dX7_takeWord_5 (by decide) (fun _ => ?_) (fun _ => ?_)
  · refine lv_iconst (v := 0) hx hb dX7_takeWord_24 (by decide) ?_
    exact p_zret E hw hr (by decide) (Nat.le_of_ble_eq_true rfl) (Nat.le_of_ble_eq_true rfl) rfl dX7_takeWord_25
  · refine lv_aload_n hx hb dX7_takeWord_8 rfl (lv_at hl 0 rfl) ?_
    refine gx_getI E hw kF_TxR_47_8 (by decide) dX7_takeWord_9 (fun v2 _ => ?_)
    refine lv_aload_n hx hb dX7_takeWord_12 rfl (lv_at hl 0 rfl) ?_
    refine gx_getI E hw kF_TxR_31_8 (by decide) dX7_takeWord_13 (fun v3 _ => ?_)
    refine lv_isub hx hb dX7_takeWord_16 ?_
    refine lv_aload_n hx hb dX7_takeWord_17 rfl (lv_at hl 1 rfl) ?_
    refine gx_slen E hw kSl_TxR hl.1 (Nat.le_of_ble_eq_true rfl) dX7_takeWord_18 (Nat.le_of_ble_eq_true rfl) (Nat.le_of_ble_eq_true rfl) (Nat.le_of_ble_eq_true rfl) (Nat.le_of_ble_eq_true rfl) (fun v4 H locs hw => ?_)
    refine cx_icmp_eq (tgt := 26) E dX7_takeWord_21 (by decide) (fun _ => ?_) (fun _ => ?_)
    · refine lv_iconst (v := 0) hx hb dX7_takeWord_26 (by decide) ?_
      refine lv_istore_n (lv' := [(2, .int 0), (0, .ref this), (1, .ref (g_sk G a0))]) hx hb dX7_takeWord_27 rfl hl (by decide) rfl (fun ls hl => ?_)
      exact w28  N 0 M _ _ _ hw (lv_sub hl [1, 2, 0] rfl)
    · refine lv_iconst (v := 0) hx hb dX7_takeWord_24 (by decide) ?_
      exact p_zret E hw hr (by decide) (Nat.le_of_ble_eq_true rfl) (Nat.le_of_ble_eq_true rfl) rfl dX7_takeWord_25
set_option maxHeartbeats 4000000 in
set_option maxRecDepth 100000 in
theorem t_TxR_takenIsWrong_8 (l : Launch) (hfl : l.stackTraces = false) (G : wG) (this : Nat) (M : Mem) (r : Rho) : Ctr l yX7_takenIsWrong (wWs yX7_takenIsWrong cX7_takenIsWrong 1 none) rm_TxR_takenIsWrong_8 rm_TxR_takenIsWrong_8.cells rm_TxR_takenIsWrong_8.slots G [.ref this] M r ((f_TxR_takenIsWrong_8 this M).map (fun z => (.inl none, z, r))) := by
  refine Ctr.ofF (own := "CheekTown$TextReade\x72") (by decide +kernel) hfl rfl (Nat.le_of_ble_eq_true rfl) (fun p e s m args below meth c E hno hr hnm hw ls hl => ?_)
  obtain ⟨hx, hb, hts, hown, hml, hTT, -⟩ := id E
  have hl : lv_has ls 1 [(0, .ref this)] := hl
  obtain ⟨H, hH⟩ : ∃ H, H = s.heap := ⟨_, rfl⟩
  obtain ⟨locs, hlo⟩ : ∃ L : List Loc, L = [] := ⟨_, rfl⟩
  rw [← hH, ← hlo]
  rw [← hlo] at hw
  replace hw : w_W G M r s H locs := by rw [hH]; exact hw
  unfold f_TxR_takenIsWrong_8
  refine lv_aload_n hx hb dX7_takenIsWrong_0 rfl (lv_at hl 0 rfl) ?_
  refine gx_getI E hw kF_TxR_9_8 (by decide) dX7_takenIsWrong_1 (fun v1 _ => ?_)
  refine lv_iconst (v := (-1)) hx hb dX7_takenIsWrong_4 (by decide) ?_
  refine cx_icmp_ne (tgt := 16) E dX7_takenIsWrong_5 (by decide) (fun _ => ?_) (fun _ => ?_)
  · exact p_vret E hw hr (Nat.le_of_ble_eq_true rfl) (Nat.le_of_ble_eq_true rfl) rfl dX7_takenIsWrong_16
  · refine lv_aload_n hx hb dX7_takenIsWrong_8 rfl (lv_at hl 0 rfl) ?_
    refine lv_aload_n hx hb dX7_takenIsWrong_9 rfl (lv_at hl 0 rfl) ?_
    refine gx_getI E hw kF_TxR_44_8 (by decide) dX7_takenIsWrong_10 (fun v2 _ => ?_)
    refine gx_putI E hw kF_TxR_9_8 kT_8_0 (by decide) dX7_takenIsWrong_13 (fun M3 H locs _ hw => ?_)
    exact p_vret E hw hr (Nat.le_of_ble_eq_true rfl) (Nat.le_of_ble_eq_true rfl) rfl dX7_takenIsWrong_16
set_option maxHeartbeats 4000000 in
set_option maxRecDepth 100000 in
theorem t_TR_readLand (l : Launch) (hfl : l.stackTraces = false) (G : wG) (this : Nat) (M : Mem) (r : Rho) : Ctr l yX9_readLand (wWs yX9_readLand cX9_readLand 1 none) rm_TR_readLand rm_TR_readLand.cells rm_TR_readLand.slots G [.ref this] M r ((f_TR_readLand this M).map (fun z => (.inl none, z, r))) := by
  refine Ctr.ofF (own := "CheekTown$TownReade\x72") (by decide +kernel) hfl rfl (Nat.le_of_ble_eq_true rfl) (fun p e s m args below meth c E hno hr hnm hw ls hl => ?_)
  obtain ⟨hx, hb, hts, hown, hml, hTT, -⟩ := id E
  have hl : lv_has ls 1 [(0, .ref this)] := hl
  obtain ⟨H, hH⟩ : ∃ H, H = s.heap := ⟨_, rfl⟩
  obtain ⟨locs, hlo⟩ : ∃ L : List Loc, L = [] := ⟨_, rfl⟩
  rw [← hH, ← hlo]
  rw [← hlo] at hw
  replace hw : w_W G M r s H locs := by rw [hH]; exact hw
  unfold f_TR_readLand
  refine lv_aload_n hx hb dX9_readLand_0 rfl (lv_at hl 0 rfl) ?_
  refine gx_getR E hw kF_TR_9_8 (by decide) dX9_readLand_1 (fun v1 _ => ?_)
  refine gx_getR E hw kF_TR_48_7 (by decide) dX9_readLand_4 (fun v2 _ => ?_)
  refine gx_getI E hw kF_TR_54_0 (by decide) dX9_readLand_7 (fun v3 _ => ?_)
  refine lv_bipush (v := 6) hx hb dX9_readLand_10 (by decide) ?_
  refine cx_icmp_lt (tgt := 22) E dX9_readLand_12 (by decide) (fun _ => ?_) (fun _ => ?_)
  · refine lv_aload_n hx hb dX9_readLand_22 rfl (lv_at hl 0 rfl) ?_
    refine gx_getR E hw kF_TR_9_8 (by decide) dX9_readLand_23 (fun v4 _ => ?_)
    refine gx_getR E hw kF_TR_48_7 (by decide) dX9_readLand_26 (fun v5 _ => ?_)
    refine lv_dup hx hb dX9_readLand_29 rfl ?_
    refine gx_getI E hw kF_TR_54_0 (by decide) dX9_readLand_30 (fun v6 _ => ?_)
    refine lv_iconst (v := 1) hx hb dX9_readLand_33 (by decide) ?_
    refine lv_iadd hx hb dX9_readLand_34 ?_
    refine gx_putI E hw kF_TR_54_0 kT_0_1 (by decide) dX9_readLand_35 (fun M7 H locs _ hw => ?_)
    exact p_vret E hw hr (Nat.le_of_ble_eq_true rfl) (Nat.le_of_ble_eq_true rfl) rfl dX9_readLand_38
  · refine lv_aload_n hx hb dX9_readLand_15 rfl (lv_at hl 0 rfl) ?_
    refine W_bind fun _ hck => ?_
    refine W_bind fun z8 hz => ?_
    refine w_after (cells1 := 0) (slots1 := 0) (w_runU E kU_TR_60_TR kc_X7_takenIsWrong (t_TxR_takenIsWrong_8 l hfl G this M r ((fun z => (.inl none, z, r)) z8) (by rw [hz]; rfl)) ⟨Nat.le_of_ble_eq_true rfl, Nat.le_of_ble_eq_true rfl⟩ hw (w_recv E hw (by decide) ⟨_, _, rfl⟩ (ck_ok hck)) rfl hl.1 rfl (Nat.le_of_ble_eq_true rfl) dX9_readLand_16 ⟨Nat.le_of_ble_eq_true rfl, Nat.le_of_ble_eq_true rfl⟩) hw rfl (Nat.le_of_ble_eq_true rfl) (Nat.le_of_ble_eq_true rfl) (fun H locs hw => ?_)
    refine W.eq (g2 := F0 m 19 ls []) rfl ?_
    have hw : w_W G z8 r s H locs := hw
    refine lv_goto (tgt := 38) hx hb dX9_readLand_19 (by decide) ?_
    exact p_vret E hw hr (Nat.le_of_ble_eq_true rfl) (Nat.le_of_ble_eq_true rfl) rfl dX9_readLand_38
set_option maxHeartbeats 4000000 in
set_option maxRecDepth 100000 in
theorem t_TxR_isNumberNext_8 (l : Launch) (hfl : l.stackTraces = false) (G : wG) (this : Nat) (M : Mem) (r : Rho) : Ctr l yX7_isNumberNext (wWs yX7_isNumberNext cX7_isNumberNext 1 (some .boolean)) rm_TxR_isNumberNext_8 rm_TxR_isNumberNext_8.cells rm_TxR_isNumberNext_8.slots G [.ref this] M r ((f_TxR_isNumberNext_8 this M).map (fun z => (.inl (some (.int z)), M, r))) := by
  refine Ctr.ofF (own := "CheekTown$TextReade\x72") (by decide +kernel) hfl rfl (Nat.le_of_ble_eq_true rfl) (fun p e s m args below meth c E hno hr hnm hw ls hl => ?_)
  obtain ⟨hx, hb, hts, hown, hml, hTT, -⟩ := id E
  have hl : lv_has ls 1 [(0, .ref this)] := hl
  obtain ⟨H, hH⟩ : ∃ H, H = s.heap := ⟨_, rfl⟩
  obtain ⟨locs, hlo⟩ : ∃ L : List Loc, L = [] := ⟨_, rfl⟩
  rw [← hH, ← hlo]
  rw [← hlo] at hw
  replace hw : w_W G M r s H locs := by rw [hH]; exact hw
  unfold f_TxR_isNumberNext_8
  refine lv_aload_n hx hb dX7_isNumberNext_0 rfl (lv_at hl 0 rfl) ?_
  refine gx_getI E hw kF_TxR_31_8 (by decide) dX7_isNumberNext_1 (fun v1 _ => ?_)
  refine lv_aload_n hx hb dX7_isNumberNext_4 rfl (lv_at hl 0 rfl) ?_
  refine gx_getI E hw kF_TxR_25_8 (by decide) dX7_isNumberNext_5 (fun v2 _ => ?_)
  refine cx_icmp_ge (tgt := 43) E dX7_isNumberNext_8 (by decide) (fun _ => ?_) (fun _ => ?_)
  · refine lv_iconst (v := 0) hx hb dX7_isNumberNext_43 (by decide) ?_
    exact p_zret E hw hr (by decide) (Nat.le_of_ble_eq_true rfl) (Nat.le_of_ble_eq_true rfl) rfl dX7_isNumberNext_44
  · refine lv_aload_n hx hb dX7_isNumberNext_11 rfl (lv_at hl 0 rfl) ?_
    refine gx_getR E hw kF_TxR_15_8 (by decide) dX7_isNumberNext_12 (fun v3 _ => ?_)
    refine lv_aload_n hx hb dX7_isNumberNext_15 rfl (lv_at hl 0 rfl) ?_
    refine gx_getI E hw kF_TxR_31_8 (by decide) dX7_isNumberNext_16 (fun v4 _ => ?_)
    refine gx_iald E hw dX7_isNumberNext_19 (fun v5 _ => ?_)
    refine lv_bipush (v := 48) hx hb dX7_isNumberNext_20 (by decide) ?_
    refine cx_icmp_lt (tgt := 43) E dX7_isNumberNext_22 (by decide) (fun _ => ?_) (fun _ => ?_)
    · refine lv_iconst (v := 0) hx hb dX7_isNumberNext_43 (by decide) ?_
      exact p_zret E hw hr (by decide) (Nat.le_of_ble_eq_true rfl) (Nat.le_of_ble_eq_true rfl) rfl dX7_isNumberNext_44
    · refine lv_aload_n hx hb dX7_isNumberNext_25 rfl (lv_at hl 0 rfl) ?_
      refine gx_getR E hw kF_TxR_15_8 (by decide) dX7_isNumberNext_26 (fun v6 _ => ?_)
      refine lv_aload_n hx hb dX7_isNumberNext_29 rfl (lv_at hl 0 rfl) ?_
      refine gx_getI E hw kF_TxR_31_8 (by decide) dX7_isNumberNext_30 (fun v7 _ => ?_)
      refine gx_iald E hw dX7_isNumberNext_33 (fun v8 _ => ?_)
      refine lv_bipush (v := 57) hx hb dX7_isNumberNext_34 (by decide) ?_
      refine cx_icmp_gt (tgt := 43) E dX7_isNumberNext_36 (by decide) (fun _ => ?_) (fun _ => ?_)
      · refine lv_iconst (v := 0) hx hb dX7_isNumberNext_43 (by decide) ?_
        exact p_zret E hw hr (by decide) (Nat.le_of_ble_eq_true rfl) (Nat.le_of_ble_eq_true rfl) rfl dX7_isNumberNext_44
      · refine lv_iconst (v := 1) hx hb dX7_isNumberNext_39 (by decide) ?_
        refine lv_goto (tgt := 44) hx hb dX7_isNumberNext_40 (by decide) ?_
        exact p_zret E hw hr (by decide) (Nat.le_of_ble_eq_true rfl) (Nat.le_of_ble_eq_true rfl) rfl dX7_isNumberNext_44
set_option maxHeartbeats 4000000 in
set_option maxRecDepth 100000 in
theorem t_TxR_nextIsWrong_8 (l : Launch) (hfl : l.stackTraces = false) (G : wG) (this : Nat) (M : Mem) (r : Rho) : Ctr l yX7_nextIsWrong (wWs yX7_nextIsWrong cX7_nextIsWrong 1 none) rm_TxR_nextIsWrong_8 rm_TxR_nextIsWrong_8.cells rm_TxR_nextIsWrong_8.slots G [.ref this] M r ((f_TxR_nextIsWrong_8 this M).map (fun z => (.inl none, z, r))) := by
  refine Ctr.ofF (own := "CheekTown$TextReade\x72") (by decide +kernel) hfl rfl (Nat.le_of_ble_eq_true rfl) (fun p e s m args below meth c E hno hr hnm hw ls hl => ?_)
  obtain ⟨hx, hb, hts, hown, hml, hTT, -⟩ := id E
  have hl : lv_has ls 1 [(0, .ref this)] := hl
  obtain ⟨H, hH⟩ : ∃ H, H = s.heap := ⟨_, rfl⟩
  obtain ⟨locs, hlo⟩ : ∃ L : List Loc, L = [] := ⟨_, rfl⟩
  rw [← hH, ← hlo]
  rw [← hlo] at hw
  replace hw : w_W G M r s H locs := by rw [hH]; exact hw
  unfold f_TxR_nextIsWrong_8
  refine lv_aload_n hx hb dX7_nextIsWrong_0 rfl (lv_at hl 0 rfl) ?_
  refine gx_getI E hw kF_TxR_9_8 (by decide) dX7_nextIsWrong_1 (fun v1 _ => ?_)
  refine lv_iconst (v := (-1)) hx hb dX7_nextIsWrong_4 (by decide) ?_
  refine cx_icmp_ne (tgt := 16) E dX7_nextIsWrong_5 (by decide) (fun _ => ?_) (fun _ => ?_)
  · exact p_vret E hw hr (Nat.le_of_ble_eq_true rfl) (Nat.le_of_ble_eq_true rfl) rfl dX7_nextIsWrong_16
  · refine lv_aload_n hx hb dX7_nextIsWrong_8 rfl (lv_at hl 0 rfl) ?_
    refine lv_aload_n hx hb dX7_nextIsWrong_9 rfl (lv_at hl 0 rfl) ?_
    refine gx_getI E hw kF_TxR_31_8 (by decide) dX7_nextIsWrong_10 (fun v2 _ => ?_)
    refine gx_putI E hw kF_TxR_9_8 kT_8_0 (by decide) dX7_nextIsWrong_13 (fun M3 H locs _ hw => ?_)
    exact p_vret E hw hr (Nat.le_of_ble_eq_true rfl) (Nat.le_of_ble_eq_true rfl) rfl dX7_nextIsWrong_16
set_option maxHeartbeats 4000000 in
set_option maxRecDepth 100000 in
theorem t_TxR_readNumber_8 (l : Launch) (hfl : l.stackTraces = false) (G : wG) (N : Nat) (this : Nat) (a0 : Int32) (a1 : Int32) (M : Mem) (r : Rho) : Ctr l yX7_readNumber (wWs yX7_readNumber cX7_readNumber 5 (some .int)) rm_TxR_readNumber_8 rm_TxR_readNumber_8.cells rm_TxR_readNumber_8.slots G [.ref this, .int a0, .int a1] M r ((f_TxR_readNumber_8 N this a0 a1 M).map (fun z => (.inl (some (.int z.1)), z.2, r))) := by
  refine Ctr.ofF (own := "CheekTown$TextReade\x72") (by decide +kernel) hfl rfl (Nat.le_of_ble_eq_true rfl) (fun p e s m args below meth c E hno hr hnm hw ls hl => ?_)
  obtain ⟨hx, hb, hts, hown, hml, hTT, -⟩ := id E
  have hl : lv_has ls 5 [(0, .ref this), (1, .int a0), (2, .int a1)] := hl
  obtain ⟨H, hH⟩ : ∃ H, H = s.heap := ⟨_, rfl⟩
  obtain ⟨locs, hlo⟩ : ∃ L : List Loc, L = [] := ⟨_, rfl⟩
  rw [← hH, ← hlo]
  rw [← hlo] at hw
  replace hw : w_W G M r s H locs := by rw [hH]; exact hw
  have w95 : ∀ (M : Mem) (H : Heap) (locs : List Loc) (ls : Array Slot), w_W G M r s H locs → lv_has ls 5 [(0, .ref this)] → W p l e rm_TxR_readNumber_8 s m args below meth c H locs 0 0 (PQ G below args s rm_TxR_readNumber_8.cells rm_TxR_readNumber_8.slots (fun z => (.inl (some (.int z.1)), z.2, r)) (f_TxR_readNumber_8_95 N this a0 a1 M)) (F0 m 95 ls []) := by
    intro M H locs ls hw hl
    unfold f_TxR_readNumber_8_95
    refine lv_aload_n hx hb dX7_readNumber_95 rfl (lv_at hl 0 rfl) ?_
    refine W_bind fun _ hck => ?_
    refine W_bind fun z11 hz => ?_
    refine w_after (cells1 := 0) (slots1 := 0) (w_runU E kU_TxR_41_TR kc_X7_nextIsWrong (t_TxR_nextIsWrong_8 l hfl G this M r ((fun z => (.inl none, z, r)) z11) (by rw [hz]; rfl)) ⟨Nat.le_of_ble_eq_true rfl, Nat.le_of_ble_eq_true rfl⟩ hw (w_recv E hw (by decide) ⟨_, _, rfl⟩ (ck_ok hck)) rfl hl.1 rfl (Nat.le_of_ble_eq_true rfl) dX7_readNumber_96 ⟨Nat.le_of_ble_eq_true rfl, Nat.le_of_ble_eq_true rfl⟩) hw rfl (Nat.le_of_ble_eq_true rfl) (Nat.le_of_ble_eq_true rfl) (fun H locs hw => ?_)
    refine W.eq (g2 := F0 m 99 ls []) rfl ?_
    have hw : w_W G z11 r s H locs := hw
    refine lv_iconst (v := (-1)) hx hb dX7_readNumber_99 (by decide) ?_
    exact p_iret E hw hr (Nat.le_of_ble_eq_true rfl) (Nat.le_of_ble_eq_true rfl) rfl dX7_readNumber_100
  have w77 : ∀ (x3 : Int32) (M : Mem) (H : Heap) (locs : List Loc) (ls : Array Slot), w_W G M r s H locs → lv_has ls 5 [(0, .ref this), (1, .int a0), (2, .int a1), (3, .int x3)] → W p l e rm_TxR_readNumber_8 s m args below meth c H locs 0 0 (PQ G below args s rm_TxR_readNumber_8.cells rm_TxR_readNumber_8.slots (fun z => (.inl (some (.int z.1)), z.2, r)) (f_TxR_readNumber_8_77 N this a0 a1 x3 M)) (F0 m 77 ls []) := by
    intro x3 M H locs ls hw hl
    unfold f_TxR_readNumber_8_77
    refine lv_aload_n hx hb dX7_readNumber_77 rfl (lv_at hl 0 rfl) ?_
    refine gx_getI E hw kF_TxR_9_8 (by decide) dX7_readNumber_78 (fun v9 _ => ?_)
    refine lv_iconst (v := (-1)) hx hb dX7_readNumber_81 (by decide) ?_
    refine cx_icmp_ne (tgt := 95) E dX7_readNumber_82 (by decide) (fun _ => ?_) (fun _ => ?_)
    · exact w95  M _ _ _ hw (lv_sub hl [0] rfl)
    · refine lv_iload_n hx hb dX7_readNumber_85 rfl (lv_at hl 3 rfl) ?_
      refine lv_iload_n hx hb dX7_readNumber_86 rfl (lv_at hl 1 rfl) ?_
      refine cx_icmp_lt (tgt := 95) E dX7_readNumber_87 (by decide) (fun _ => ?_) (fun _ => ?_)
      · exact w95  M _ _ _ hw (lv_sub hl [0] rfl)
      · refine lv_iload_n hx hb dX7_readNumber_90 rfl (lv_at hl 3 rfl) ?_
        refine lv_iload_n hx hb dX7_readNumber_91 rfl (lv_at hl 2 rfl) ?_
        refine cx_icmp_le (tgt := 101) E dX7_readNumber_92 (by decide) (fun _ => ?_) (fun _ => ?_)
        · refine lv_aload_n hx hb dX7_readNumber_101 rfl (lv_at hl 0 rfl) ?_
          refine W_bind fun _ hck => ?_
          refine W_bind fun z10 hz => ?_
          refine w_after (cells1 := 0) (slots1 := 0) (w_runU E kU_TxR_28_TR kc_X7_goOn (t_TxR_goOn_8 l hfl G N this M r ((fun z => (.inl none, z, r)) z10) (by rw [hz]; rfl)) ⟨Nat.le_of_ble_eq_true rfl, Nat.le_of_ble_eq_true rfl⟩ hw (w_recv E hw (by decide) ⟨_, _, rfl⟩ (ck_ok hck)) rfl hl.1 rfl (Nat.le_of_ble_eq_true rfl) dX7_readNumber_102 ⟨Nat.le_of_ble_eq_true rfl, Nat.le_of_ble_eq_true rfl⟩) hw rfl (Nat.le_of_ble_eq_true rfl) (Nat.le_of_ble_eq_true rfl) (fun H locs hw => ?_)
          refine W.eq (g2 := F0 m 105 ls []) rfl ?_
          have hw : w_W G z10 r s H locs := hw
          refine lv_iload_n hx hb dX7_readNumber_105 rfl (lv_at hl 3 rfl) ?_
          exact p_iret E hw hr (Nat.le_of_ble_eq_true rfl) (Nat.le_of_ble_eq_true rfl) rfl dX7_readNumber_106
        · exact w95  M _ _ _ hw (lv_sub hl [0] rfl)
  have w32 : ∀ (n : Nat) (x3 : Int32) (x4 : Int32) (M : Mem) (H : Heap) (locs : List Loc) (ls : Array Slot), w_W G M r s H locs → lv_has ls 5 [(0, .ref this), (1, .int a0), (2, .int a1), (3, .int x3), (4, .int x4)] → W p l e rm_TxR_readNumber_8 s m args below meth c H locs 0 0 (PQ G below args s rm_TxR_readNumber_8.cells rm_TxR_readNumber_8.slots (fun z => (.inl (some (.int z.1)), z.2, r)) (f_TxR_readNumber_8_32 N this a0 a1 n x3 x4 M)) (F0 m 32 ls []) := by
    intro n
    induction n with
    | zero => intros; exact W_none
    | succ n ih =>
      intro x3 x4 M H locs ls hw hl
      rw [f_TxR_readNumber_8_32]
      refine lv_iload_n hx hb dX7_readNumber_32 rfl (lv_at hl 3 rfl) ?_
      refine lv_iconst (v := (-1)) hx hb dX7_readNumber_33 (by decide) ?_
      refine cx_icmp_eq (tgt := 77) E dX7_readNumber_34 (by decide) (fun _ => ?_) (fun _ => ?_)
      · exact w77  x3 M _ _ _ hw (lv_sub hl [0, 1, 2, 3] rfl)
      · refine lv_iload hx hb dX7_readNumber_37 (lv_at hl 4 rfl) ?_
        refine lv_aload_n hx hb dX7_readNumber_39 rfl (lv_at hl 0 rfl) ?_
        refine gx_getI E hw kF_TxR_47_8 (by decide) dX7_readNumber_40 (fun v5 _ => ?_)
        refine cx_icmp_ge (tgt := 77) E dX7_readNumber_43 (by decide) (fun _ => ?_) (fun _ => ?_)
        · exact w77  x3 M _ _ _ hw (lv_sub hl [0, 1, 2, 3] rfl)
        · refine lv_iload hx hb dX7_readNumber_46 (lv_at hl 4 rfl) ?_
          refine lv_aload_n hx hb dX7_readNumber_48 rfl (lv_at hl 0 rfl) ?_
          refine gx_getI E hw kF_TxR_25_8 (by decide) dX7_readNumber_49 (fun v6 _ => ?_)
          refine cx_icmp_ge (tgt := 77) E dX7_readNumber_52 (by decide) (fun _ => ?_) (fun _ => ?_)
          · exact w77  x3 M _ _ _ hw (lv_sub hl [0, 1, 2, 3] rfl)
          · refine lv_bipush (v := 10) hx hb dX7_readNumber_55 (by decide) ?_
            refine lv_iload_n hx hb dX7_readNumber_57 rfl (lv_at hl 3 rfl) ?_
            refine lv_imul hx hb dX7_readNumber_58 ?_
            refine lv_aload_n hx hb dX7_readNumber_59 rfl (lv_at hl 0 rfl) ?_
            refine gx_getR E hw kF_TxR_15_8 (by decide) dX7_readNumber_60 (fun v7 _ => ?_)
            refine lv_iload hx hb dX7_readNumber_63 (lv_at hl 4 rfl) ?_
            refine gx_iald E hw dX7_readNumber_65 (fun v8 _ => ?_)
            refine lv_iadd hx hb dX7_readNumber_66 ?_
            refine lv_bipush (v := 48) hx hb dX7_readNumber_67 (by decide) ?_
            refine lv_isub hx hb dX7_readNumber_69 ?_
            refine lv_istore_n (lv' := [(3, .int (((10 * x3) + v8) - 48)), (0, .ref this), (1, .int a0), (2, .int a1), (4, .int x4)]) hx hb dX7_readNumber_70 rfl hl (by decide) rfl (fun ls hl => ?_)
            refine lv_iinc (v := x4 + 1) (lv' := [(4, .int (x4 + 1)), (3, .int (((10 * x3) + v8) - 48)), (0, .ref this), (1, .int a0), (2, .int a1)]) hx hb dX7_readNumber_71 hl (k := 4) rfl rfl (by decide) rfl (fun ls hl => ?_)
            refine lv_goto (tgt := 32) hx hb dX7_readNumber_74 (by decide) ?_
            exact ih (((10 * x3) + v8) - 48) (x4 + 1) M _ _ _ hw (lv_sub hl [2, 3, 4, 1, 0] rfl)
  have w25 : ∀ (y0 : Int32) (M : Mem) (H : Heap) (locs : List Loc) (ls : Array Slot), w_W G M r s H locs → lv_has ls 5 [(0, .ref this), (1, .int a0), (2, .int a1)] → W p l e rm_TxR_readNumber_8 s m args below meth c H locs 0 0 (PQ G below args s rm_TxR_readNumber_8.cells rm_TxR_readNumber_8.slots (fun z => (.inl (some (.int z.1)), z.2, r)) (f_TxR_readNumber_8_25 N this a0 a1 y0 M)) (F0 m 25 ls [.int y0]) := by
    intro y0 M H locs ls hw hl
    unfold f_TxR_readNumber_8_25
    refine lv_istore_n (lv' := [(3, .int y0), (0, .ref this), (1, .int a0), (2, .int a1)]) hx hb dX7_readNumber_25 rfl hl (by decide) rfl (fun ls hl => ?_)
    refine lv_aload_n hx hb dX7_readNumber_26 rfl (lv_at hl 1 rfl) ?_
    refine gx_getI E hw kF_TxR_31_8 (by decide) dX7_readNumber_27 (fun v4 _ => ?_)
    refine lv_istore (lv' := [(4, .int v4), (3, .int y0), (0, .ref this), (1, .int a0), (2, .int a1)]) hx hb dX7_readNumber_30 hl (by decide) rfl (fun ls hl => ?_)
    exact w32  N y0 v4 M _ _ _ hw (lv_sub hl [2, 3, 4, 1, 0] rfl)
  have w24 : ∀ (M : Mem) (H : Heap) (locs : List Loc) (ls : Array Slot), w_W G M r s H locs → lv_has ls 5 [(0, .ref this), (1, .int a0), (2, .int a1)] → W p l e rm_TxR_readNumber_8 s m args below meth c H locs 0 0 (PQ G below args s rm_TxR_readNumber_8.cells rm_TxR_readNumber_8.slots (fun z => (.inl (some (.int z.1)), z.2, r)) (f_TxR_readNumber_8_24 N this a0 a1 M)) (F0 m 24 ls []) := by
    intro M H locs ls hw hl
    unfold f_TxR_readNumber_8_24
    refine lv_iconst (v := (-1)) hx hb dX7_readNumber_24 (by decide) ?_
    exact w25  (-1) M _ _ _ hw (lv_sub hl [0, 1, 2] rfl)
  unfold f_TxR_readNumber_8
  refine lv_aload_n hx hb dX7_readNumber_0 rfl (lv_at hl 0 rfl) ?_
  refine W_bind fun _ hck => ?_
  refine W_bind fun z1 hz => ?_
  refine w_after (cells1 := 0) (slots1 := 0) (w_runU E kU_TxR_67_TR kc_X7_isNumberNext (t_TxR_isNumberNext_8 l hfl G this M r ((fun z => (.inl (some (.int z)), M, r)) z1) (by rw [hz]; rfl)) ⟨Nat.le_of_ble_eq_true rfl, Nat.le_of_ble_eq_true rfl⟩ hw (w_recv E hw (by decide) ⟨_, _, rfl⟩ (ck_ok hck)) rfl hl.1 rfl (Nat.le_of_ble_eq_true rfl) dX7_readNumber_1 ⟨Nat.le_of_ble_eq_true rfl, Nat.le_of_ble_eq_true rfl⟩) hw rfl (Nat.le_of_ble_eq_true rfl) (Nat.le_of_ble_eq_true rfl) (fun H locs hw => ?_)
  refine W.eq (g2 := F0 m 4 ls [.int z1]) rfl ?_
  have hw : w_W G M r s H locs := hw
  refine cx_if_eq (tgt := 24) E dX7_readNumber_4 (by decide) (fun _ => ?_) (fun _ => ?_)
  · exact w24  M _ _ _ hw (lv_sub hl [0, 1, 2] rfl)
  · refine lv_aload_n hx hb dX7_readNumber_7 rfl (lv_at hl 0 rfl) ?_
    refine gx_getI E hw kF_TxR_47_8 (by decide) dX7_readNumber_8 (fun v2 _ => ?_)
    refine lv_aload_n hx hb dX7_readNumber_11 rfl (lv_at hl 0 rfl) ?_
    refine gx_getI E hw kF_TxR_31_8 (by decide) dX7_readNumber_12 (fun v3 _ => ?_)
    refine lv_isub hx hb dX7_readNumber_15 ?_
    refine lv_iconst (v := 3) hx hb dX7_readNumber_16 (by decide) ?_
    refine cx_icmp_gt (tgt := 24) E dX7_readNumber_17 (by decide) (fun _ => ?_) (fun _ => ?_)
    · exact w24  M _ _ _ hw (lv_sub hl [0, 1, 2] rfl)
    · refine lv_iconst (v := 0) hx hb dX7_readNumber_20 (by decide) ?_
      refine lv_goto (tgt := 25) hx hb dX7_readNumber_21 (by decide) ?_
      exact w25  0 M _ _ _ hw (lv_sub hl [0, 1, 2] rfl)
set_option maxHeartbeats 4000000 in
set_option maxRecDepth 100000 in
theorem t_Manners_codeOf (l : Launch) (hfl : l.stackTraces = false) (G : wG) (a0 : Int32) (a1 : Int32) (a2 : Int32) (M : Mem) (r : Rho) : Ctr l yX4_codeOf (wWs yX4_codeOf cX4_codeOf 3 (some .int)) rm_Manners_codeOf rm_Manners_codeOf.cells rm_Manners_codeOf.slots G [.int a0, .int a1, .int a2] M r ((f_Manners_codeOf a0 a1 a2).map (fun z => (.inl (some (.int z)), M, r))) := by
  refine Ctr.ofF (own := "CheekTown$Manners") (by decide +kernel) hfl rfl (Nat.le_of_ble_eq_true rfl) (fun p e s m args below meth c E hno hr hnm hw ls hl => ?_)
  obtain ⟨hx, hb, hts, hown, hml, hTT, -⟩ := id E
  have hl : lv_has ls 3 [(0, .int a0), (1, .int a1), (2, .int a2)] := hl
  obtain ⟨H, hH⟩ : ∃ H, H = s.heap := ⟨_, rfl⟩
  obtain ⟨locs, hlo⟩ : ∃ L : List Loc, L = [] := ⟨_, rfl⟩
  rw [← hH, ← hlo]
  rw [← hlo] at hw
  replace hw : w_W G M r s H locs := by rw [hH]; exact hw
  unfold f_Manners_codeOf
  refine lv_bipush (v := 8) hx hb dX4_codeOf_0 (by decide) ?_
  refine lv_iload_n hx hb dX4_codeOf_2 rfl (lv_at hl 0 rfl) ?_
  refine lv_imul hx hb dX4_codeOf_3 ?_
  refine lv_iconst (v := 2) hx hb dX4_codeOf_4 (by decide) ?_
  refine lv_iload_n hx hb dX4_codeOf_5 rfl (lv_at hl 1 rfl) ?_
  refine lv_iconst (v := 1) hx hb dX4_codeOf_6 (by decide) ?_
  refine lv_isub hx hb dX4_codeOf_7 ?_
  refine lv_imul hx hb dX4_codeOf_8 ?_
  refine lv_iadd hx hb dX4_codeOf_9 ?_
  refine lv_iload_n hx hb dX4_codeOf_10 rfl (lv_at hl 2 rfl) ?_
  refine lv_iadd hx hb dX4_codeOf_11 ?_
  exact p_iret E hw hr (Nat.le_of_ble_eq_true rfl) (Nat.le_of_ble_eq_true rfl) rfl dX4_codeOf_12
set_option maxHeartbeats 4000000 in
set_option maxRecDepth 100000 in
theorem t_TxR_readWord_8 (l : Launch) (hfl : l.stackTraces = false) (G : wG) (N : Nat) (this : Nat) (a0 : Nat) (M : Mem) (r : Rho) : Ctr l yX7_readWord (wWs yX7_readWord cX7_readWord 2 none) rm_TxR_readWord_8 rm_TxR_readWord_8.cells rm_TxR_readWord_8.slots G [.ref this, .ref (g_sk G a0)] M r ((f_TxR_readWord_8 N this a0 M).map (fun z => (.inl none, z, r))) := by
  refine Ctr.ofF (own := "CheekTown$TextReade\x72") (by decide +kernel) hfl rfl (Nat.le_of_ble_eq_true rfl) (fun p e s m args below meth c E hno hr hnm hw ls hl => ?_)
  obtain ⟨hx, hb, hts, hown, hml, hTT, -⟩ := id E
  have hl : lv_has ls 2 [(0, .ref this), (1, .ref (g_sk G a0))] := hl
  obtain ⟨H, hH⟩ : ∃ H, H = s.heap := ⟨_, rfl⟩
  obtain ⟨locs, hlo⟩ : ∃ L : List Loc, L = [] := ⟨_, rfl⟩
  rw [← hH, ← hlo]
  rw [← hlo] at hw
  replace hw : w_W G M r s H locs := by rw [hH]; exact hw
  unfold f_TxR_readWord_8
  refine lv_aload_n hx hb dX7_readWord_0 rfl (lv_at hl 0 rfl) ?_
  refine lv_aload_n hx hb dX7_readWord_1 rfl (lv_at hl 1 rfl) ?_
  refine W_bind fun _ hck => ?_
  refine W_bind fun z1 hz => ?_
  refine w_after (cells1 := 0) (slots1 := 0) (w_runU E kU_TxR_59_TR kc_X7_takeWord (t_TxR_takeWord_8 l hfl G N this a0 M r ((fun z => (.inl (some (.int z.1)), z.2, r)) z1) (by rw [hz]; rfl)) ⟨Nat.le_of_ble_eq_true rfl, Nat.le_of_ble_eq_true rfl⟩ hw (w_recv E hw (by decide) ⟨_, _, rfl⟩ (ck_ok hck)) rfl hl.1 rfl (Nat.le_of_ble_eq_true rfl) dX7_readWord_2 ⟨Nat.le_of_ble_eq_true rfl, Nat.le_of_ble_eq_true rfl⟩) hw rfl (Nat.le_of_ble_eq_true rfl) (Nat.le_of_ble_eq_true rfl) (fun H locs hw => ?_)
  refine W.eq (g2 := F0 m 5 ls [.int z1.1]) rfl ?_
  have hw : w_W G z1.2 r s H locs := hw
  refine cx_if_ne (tgt := 12) E dX7_readWord_5 (by decide) (fun _ => ?_) (fun _ => ?_)
  · exact p_vret E hw hr (Nat.le_of_ble_eq_true rfl) (Nat.le_of_ble_eq_true rfl) rfl dX7_readWord_12
  · refine lv_aload_n hx hb dX7_readWord_8 rfl (lv_at hl 0 rfl) ?_
    refine W_bind fun _ hck => ?_
    refine W_bind fun z2 hz => ?_
    refine w_after (cells1 := 0) (slots1 := 0) (w_runU E kU_TxR_41_TR kc_X7_nextIsWrong (t_TxR_nextIsWrong_8 l hfl G this z1.2 r ((fun z => (.inl none, z, r)) z2) (by rw [hz]; rfl)) ⟨Nat.le_of_ble_eq_true rfl, Nat.le_of_ble_eq_true rfl⟩ hw (w_recv E hw (by decide) ⟨_, _, rfl⟩ (ck_ok hck)) rfl hl.1 rfl (Nat.le_of_ble_eq_true rfl) dX7_readWord_9 ⟨Nat.le_of_ble_eq_true rfl, Nat.le_of_ble_eq_true rfl⟩) hw rfl (Nat.le_of_ble_eq_true rfl) (Nat.le_of_ble_eq_true rfl) (fun H locs hw => ?_)
    refine W.eq (g2 := F0 m 12 ls []) rfl ?_
    have hw : w_W G z2 r s H locs := hw
    exact p_vret E hw hr (Nat.le_of_ble_eq_true rfl) (Nat.le_of_ble_eq_true rfl) rfl dX7_readWord_12
set_option maxHeartbeats 4000000 in
set_option maxRecDepth 100000 in
theorem t_TxR_readGreeting_8 (l : Launch) (hfl : l.stackTraces = false) (G : wG) (N : Nat) (this : Nat) (M : Mem) (r : Rho) : Ctr l yX7_readGreeting (wWs yX7_readGreeting cX7_readGreeting 3 (some .int)) rm_TxR_readGreeting_8 rm_TxR_readGreeting_8.cells rm_TxR_readGreeting_8.slots G [.ref this] M r ((f_TxR_readGreeting_8 N this M).map (fun z => (.inl (some (.int z.1)), z.2, r))) := by
  refine Ctr.ofF (own := "CheekTown$TextReade\x72") (by decide +kernel) hfl rfl (Nat.le_of_ble_eq_true rfl) (fun p e s m args below meth c E hno hr hnm hw ls hl => ?_)
  obtain ⟨hx, hb, hts, hown, hml, hTT, -⟩ := id E
  have hl : lv_has ls 3 [(0, .ref this)] := hl
  obtain ⟨H, hH⟩ : ∃ H, H = s.heap := ⟨_, rfl⟩
  obtain ⟨locs, hlo⟩ : ∃ L : List Loc, L = [] := ⟨_, rfl⟩
  rw [← hH, ← hlo]
  rw [← hlo] at hw
  replace hw : w_W G M r s H locs := by rw [hH]; exact hw
  have w101 : ∀ (y0 : Int32) (y1 : Int32) (y2 : Int32) (M : Mem) (H : Heap) (locs : List Loc) (ls : Array Slot), w_W G M r s H locs → lv_has ls 3 [] → W p l e rm_TxR_readGreeting_8 s m args below meth c H locs 0 0 (PQ G below args s rm_TxR_readGreeting_8.cells rm_TxR_readGreeting_8.slots (fun z => (.inl (some (.int z.1)), z.2, r)) (f_TxR_readGreeting_8_101 N this y0 y1 y2 M)) (F0 m 101 ls [.int y2, .int y1, .int y0]) := by
    intro y0 y1 y2 M H locs ls hw hl
    unfold f_TxR_readGreeting_8_101
    refine W_bind fun z12 hz => ?_
    refine w_after (cells1 := 0) (slots1 := 0) (w_runS E kS_TxR_75 kc_X4_codeOf (t_Manners_codeOf l hfl G y0 y1 y2 M r ((fun z => (.inl (some (.int z)), M, r)) z12) (by rw [hz]; rfl)) ⟨Nat.le_of_ble_eq_true rfl, Nat.le_of_ble_eq_true rfl⟩ hw rfl hl.1 rfl (Nat.le_of_ble_eq_true rfl) dX7_readGreeting_101 ⟨Nat.le_of_ble_eq_true rfl, Nat.le_of_ble_eq_true rfl⟩) hw rfl (Nat.le_of_ble_eq_true rfl) (Nat.le_of_ble_eq_true rfl) (fun H locs hw => ?_)
    refine W.eq (g2 := F0 m 104 ls [.int z12]) rfl ?_
    have hw : w_W G M r s H locs := hw
    exact p_iret E hw hr (Nat.le_of_ble_eq_true rfl) (Nat.le_of_ble_eq_true rfl) rfl dX7_readGreeting_104
  have w78 : ∀ (x1 : Int32) (x2 : Int32) (M : Mem) (H : Heap) (locs : List Loc) (ls : Array Slot), w_W G M r s H locs → lv_has ls 3 [(0, .ref this), (1, .int x1), (2, .int x2)] → W p l e rm_TxR_readGreeting_8 s m args below meth c H locs 0 0 (PQ G below args s rm_TxR_readGreeting_8.cells rm_TxR_readGreeting_8.slots (fun z => (.inl (some (.int z.1)), z.2, r)) (f_TxR_readGreeting_8_78 N this x1 x2 M)) (F0 m 78 ls []) := by
    intro x1 x2 M H locs ls hw hl
    unfold f_TxR_readGreeting_8_78
    refine lv_aload_n hx hb dX7_readGreeting_78 rfl (lv_at hl 0 rfl) ?_
    refine gx_getI E hw kF_TxR_9_8 (by decide) dX7_readGreeting_79 (fun v11 _ => ?_)
    refine lv_iconst (v := (-1)) hx hb dX7_readGreeting_82 (by decide) ?_
    refine cx_icmp_eq (tgt := 90) E dX7_readGreeting_83 (by decide) (fun _ => ?_) (fun _ => ?_)
    · refine lv_iconst (v := 2) hx hb dX7_readGreeting_90 (by decide) ?_
      refine lv_iload_n hx hb dX7_readGreeting_91 rfl (lv_at hl 1 rfl) ?_
      refine lv_iload_n hx hb dX7_readGreeting_92 rfl (lv_at hl 2 rfl) ?_
      refine cx_if_eq (tgt := 100) E dX7_readGreeting_93 (by decide) (fun _ => ?_) (fun _ => ?_)
      · refine lv_iconst (v := 1) hx hb dX7_readGreeting_100 (by decide) ?_
        exact w101  2 x1 1 M _ _ _ hw (lv_sub hl [] rfl)
      · refine lv_iconst (v := 0) hx hb dX7_readGreeting_96 (by decide) ?_
        refine lv_goto (tgt := 101) hx hb dX7_readGreeting_97 (by decide) ?_
        exact w101  2 x1 0 M _ _ _ hw (lv_sub hl [] rfl)
    · refine lv_iconst (v := (-1)) hx hb dX7_readGreeting_86 (by decide) ?_
      refine lv_goto (tgt := 104) hx hb dX7_readGreeting_87 (by decide) ?_
      exact p_iret E hw hr (Nat.le_of_ble_eq_true rfl) (Nat.le_of_ble_eq_true rfl) rfl dX7_readGreeting_104
  unfold f_TxR_readGreeting_8
  refine lv_aload_n hx hb dX7_readGreeting_0 rfl (lv_at hl 0 rfl) ?_
  refine va_ldcS hx hb hown (hTT.2.2.1 0 _ rfl) dX7_readGreeting_1 ?_
  refine W_bind fun _ hck => ?_
  refine W_bind fun z1 hz => ?_
  refine w_after (cells1 := 0) (slots1 := 0) (w_runU E kU_TxR_59_TR kc_X7_takeWord (t_TxR_takeWord_8 l hfl G N this 0 M r ((fun z => (.inl (some (.int z.1)), z.2, r)) z1) (by rw [hz]; rfl)) ⟨Nat.le_of_ble_eq_true rfl, Nat.le_of_ble_eq_true rfl⟩ hw (w_recv E hw (by decide) ⟨_, _, rfl⟩ (ck_ok hck)) rfl hl.1 rfl (Nat.le_of_ble_eq_true rfl) dX7_readGreeting_3 ⟨Nat.le_of_ble_eq_true rfl, Nat.le_of_ble_eq_true rfl⟩) hw rfl (Nat.le_of_ble_eq_true rfl) (Nat.le_of_ble_eq_true rfl) (fun H locs hw => ?_)
  refine W.eq (g2 := F0 m 6 ls [.int z1.1]) rfl ?_
  have hw : w_W G z1.2 r s H locs := hw
  refine cx_if_eq (tgt := 16) E dX7_readGreeting_6 (by decide) (fun _ => ?_) (fun _ => ?_)
  · refine lv_aload_n hx hb dX7_readGreeting_16 rfl (lv_at hl 0 rfl) ?_
    refine va_ldcS hx hb hown (hTT.2.2.1 1 _ rfl) dX7_readGreeting_17 ?_
    refine W_bind fun _ hck => ?_
    refine W_bind fun z2 hz => ?_
    refine w_after (cells1 := 0) (slots1 := 0) (w_runU E kU_TxR_59_TR kc_X7_takeWord (t_TxR_takeWord_8 l hfl G N this 1 z1.2 r ((fun z => (.inl (some (.int z.1)), z.2, r)) z2) (by rw [hz]; rfl)) ⟨Nat.le_of_ble_eq_true rfl, Nat.le_of_ble_eq_true rfl⟩ hw (w_recv E hw (by decide) ⟨_, _, rfl⟩ (ck_ok hck)) rfl hl.1 rfl (Nat.le_of_ble_eq_true rfl) dX7_readGreeting_19 ⟨Nat.le_of_ble_eq_true rfl, Nat.le_of_ble_eq_true rfl⟩) hw rfl (Nat.le_of_ble_eq_true rfl) (Nat.le_of_ble_eq_true rfl) (fun H locs hw => ?_)
    refine W.eq (g2 := F0 m 22 ls [.int z2.1]) rfl ?_
    have hw : w_W G z2.2 r s H locs := hw
    refine cx_if_eq (tgt := 32) E dX7_readGreeting_22 (by decide) (fun _ => ?_) (fun _ => ?_)
    · refine lv_aload_n hx hb dX7_readGreeting_32 rfl (lv_at hl 0 rfl) ?_
      refine va_ldcS hx hb hown (hTT.2.2.1 2 _ rfl) dX7_readGreeting_33 ?_
      refine W_bind fun _ hck => ?_
      refine W_bind fun z3 hz => ?_
      refine w_after (cells1 := 0) (slots1 := 0) (w_runU E kU_TxR_59_TR kc_X7_takeWord (t_TxR_takeWord_8 l hfl G N this 2 z2.2 r ((fun z => (.inl (some (.int z.1)), z.2, r)) z3) (by rw [hz]; rfl)) ⟨Nat.le_of_ble_eq_true rfl, Nat.le_of_ble_eq_true rfl⟩ hw (w_recv E hw (by decide) ⟨_, _, rfl⟩ (ck_ok hck)) rfl hl.1 rfl (Nat.le_of_ble_eq_true rfl) dX7_readGreeting_35 ⟨Nat.le_of_ble_eq_true rfl, Nat.le_of_ble_eq_true rfl⟩) hw rfl (Nat.le_of_ble_eq_true rfl) (Nat.le_of_ble_eq_true rfl) (fun H locs hw => ?_)
      refine W.eq (g2 := F0 m 38 ls [.int z3.1]) rfl ?_
      have hw : w_W G z3.2 r s H locs := hw
      refine cx_if_eq (tgt := 48) E dX7_readGreeting_38 (by decide) (fun _ => ?_) (fun _ => ?_)
      · refine lv_aload_n hx hb dX7_readGreeting_48 rfl (lv_at hl 0 rfl) ?_
        refine va_ldcS hx hb hown (hTT.2.2.1 3 _ rfl) dX7_readGreeting_49 ?_
        refine W_bind fun _ hck => ?_
        refine W_bind fun z4 hz => ?_
        refine w_after (cells1 := 0) (slots1 := 0) (w_runU E kU_TxR_85_TR kc_X7_readWord (t_TxR_readWord_8 l hfl G N this 3 z3.2 r ((fun z => (.inl none, z, r)) z4) (by rw [hz]; rfl)) ⟨Nat.le_of_ble_eq_true rfl, Nat.le_of_ble_eq_true rfl⟩ hw (w_recv E hw (by decide) ⟨_, _, rfl⟩ (ck_ok hck)) rfl hl.1 rfl (Nat.le_of_ble_eq_true rfl) dX7_readGreeting_51 ⟨Nat.le_of_ble_eq_true rfl, Nat.le_of_ble_eq_true rfl⟩) hw rfl (Nat.le_of_ble_eq_true rfl) (Nat.le_of_ble_eq_true rfl) (fun H locs hw => ?_)
        refine W.eq (g2 := F0 m 54 ls []) rfl ?_
        have hw : w_W G z4 r s H locs := hw
        refine lv_aload_n hx hb dX7_readGreeting_54 rfl (lv_at hl 0 rfl) ?_
        refine lv_iconst (v := 1) hx hb dX7_readGreeting_55 (by decide) ?_
        refine lv_iconst (v := 4) hx hb dX7_readGreeting_56 (by decide) ?_
        refine W_bind fun _ hck => ?_
        refine W_bind fun z5 hz => ?_
        refine w_after (cells1 := 0) (slots1 := 0) (w_runU E kU_TxR_89_TR kc_X7_readNumber (t_TxR_readNumber_8 l hfl G N this 1 4 z4 r ((fun z => (.inl (some (.int z.1)), z.2, r)) z5) (by rw [hz]; rfl)) ⟨Nat.le_of_ble_eq_true rfl, Nat.le_of_ble_eq_true rfl⟩ hw (w_recv E hw (by decide) ⟨_, _, rfl⟩ (ck_ok hck)) rfl hl.1 rfl (Nat.le_of_ble_eq_true rfl) dX7_readGreeting_57 ⟨Nat.le_of_ble_eq_true rfl, Nat.le_of_ble_eq_true rfl⟩) hw rfl (Nat.le_of_ble_eq_true rfl) (Nat.le_of_ble_eq_true rfl) (fun H locs hw => ?_)
        refine W.eq (g2 := F0 m 60 ls [.int z5.1]) rfl ?_
        have hw : w_W G z5.2 r s H locs := hw
        refine lv_istore_n (lv' := [(1, .int z5.1), (0, .ref this)]) hx hb dX7_readGreeting_60 rfl hl (by decide) rfl (fun ls hl => ?_)
        refine lv_aload_n hx hb dX7_readGreeting_61 rfl (lv_at hl 1 rfl) ?_
        refine va_ldcS hx hb hown (hTT.2.2.1 4 _ rfl) dX7_readGreeting_62 ?_
        refine W_bind fun _ hck => ?_
        refine W_bind fun z6 hz => ?_
        refine w_after (cells1 := 0) (slots1 := 0) (w_runU E kU_TxR_59_TR kc_X7_takeWord (t_TxR_takeWord_8 l hfl G N this 4 z5.2 r ((fun z => (.inl (some (.int z.1)), z.2, r)) z6) (by rw [hz]; rfl)) ⟨Nat.le_of_ble_eq_true rfl, Nat.le_of_ble_eq_true rfl⟩ hw (w_recv E hw (by decide) ⟨_, _, rfl⟩ (ck_ok hck)) rfl hl.1 rfl (Nat.le_of_ble_eq_true rfl) dX7_readGreeting_64 ⟨Nat.le_of_ble_eq_true rfl, Nat.le_of_ble_eq_true rfl⟩) hw rfl (Nat.le_of_ble_eq_true rfl) (Nat.le_of_ble_eq_true rfl) (fun H locs hw => ?_)
        refine W.eq (g2 := F0 m 67 ls [.int z6.1]) rfl ?_
        have hw : w_W G z6.2 r s H locs := hw
        refine lv_istore_n (lv' := [(2, .int z6.1), (1, .int z5.1), (0, .ref this)]) hx hb dX7_readGreeting_67 rfl hl (by decide) rfl (fun ls hl => ?_)
        refine lv_iload_n hx hb dX7_readGreeting_68 rfl (lv_at hl 0 rfl) ?_
        refine cx_if_ne (tgt := 78) E dX7_readGreeting_69 (by decide) (fun _ => ?_) (fun _ => ?_)
        · exact w78  z5.1 z6.1 z6.2 _ _ _ hw (lv_sub hl [2, 1, 0] rfl)
        · refine lv_aload_n hx hb dX7_readGreeting_72 rfl (lv_at hl 2 rfl) ?_
          refine va_ldcS hx hb hown (hTT.2.2.1 5 _ rfl) dX7_readGreeting_73 ?_
          refine W_bind fun _ hck => ?_
          refine W_bind fun z7 hz => ?_
          refine w_after (cells1 := 0) (slots1 := 0) (w_runU E kU_TxR_85_TR kc_X7_readWord (t_TxR_readWord_8 l hfl G N this 5 z6.2 r ((fun z => (.inl none, z, r)) z7) (by rw [hz]; rfl)) ⟨Nat.le_of_ble_eq_true rfl, Nat.le_of_ble_eq_true rfl⟩ hw (w_recv E hw (by decide) ⟨_, _, rfl⟩ (ck_ok hck)) rfl hl.1 rfl (Nat.le_of_ble_eq_true rfl) dX7_readGreeting_75 ⟨Nat.le_of_ble_eq_true rfl, Nat.le_of_ble_eq_true rfl⟩) hw rfl (Nat.le_of_ble_eq_true rfl) (Nat.le_of_ble_eq_true rfl) (fun H locs hw => ?_)
          refine W.eq (g2 := F0 m 78 ls []) rfl ?_
          have hw : w_W G z7 r s H locs := hw
          exact w78  z5.1 z6.1 z7 _ _ _ hw (lv_sub hl [2, 1, 0] rfl)
      · refine lv_iconst (v := 3) hx hb dX7_readGreeting_41 (by decide) ?_
        refine lv_iconst (v := 1) hx hb dX7_readGreeting_42 (by decide) ?_
        refine lv_iconst (v := 0) hx hb dX7_readGreeting_43 (by decide) ?_
        refine W_bind fun z8 hz => ?_
        refine w_after (cells1 := 0) (slots1 := 0) (w_runS E kS_TxR_75 kc_X4_codeOf (t_Manners_codeOf l hfl G 3 1 0 z3.2 r ((fun z => (.inl (some (.int z)), z3.2, r)) z8) (by rw [hz]; rfl)) ⟨Nat.le_of_ble_eq_true rfl, Nat.le_of_ble_eq_true rfl⟩ hw rfl hl.1 rfl (Nat.le_of_ble_eq_true rfl) dX7_readGreeting_44 ⟨Nat.le_of_ble_eq_true rfl, Nat.le_of_ble_eq_true rfl⟩) hw rfl (Nat.le_of_ble_eq_true rfl) (Nat.le_of_ble_eq_true rfl) (fun H locs hw => ?_)
        refine W.eq (g2 := F0 m 47 ls [.int z8]) rfl ?_
        have hw : w_W G z3.2 r s H locs := hw
        exact p_iret E hw hr (Nat.le_of_ble_eq_true rfl) (Nat.le_of_ble_eq_true rfl) rfl dX7_readGreeting_47
    · refine lv_iconst (v := 1) hx hb dX7_readGreeting_25 (by decide) ?_
      refine lv_iconst (v := 1) hx hb dX7_readGreeting_26 (by decide) ?_
      refine lv_iconst (v := 0) hx hb dX7_readGreeting_27 (by decide) ?_
      refine W_bind fun z9 hz => ?_
      refine w_after (cells1 := 0) (slots1 := 0) (w_runS E kS_TxR_75 kc_X4_codeOf (t_Manners_codeOf l hfl G 1 1 0 z2.2 r ((fun z => (.inl (some (.int z)), z2.2, r)) z9) (by rw [hz]; rfl)) ⟨Nat.le_of_ble_eq_true rfl, Nat.le_of_ble_eq_true rfl⟩ hw rfl hl.1 rfl (Nat.le_of_ble_eq_true rfl) dX7_readGreeting_28 ⟨Nat.le_of_ble_eq_true rfl, Nat.le_of_ble_eq_true rfl⟩) hw rfl (Nat.le_of_ble_eq_true rfl) (Nat.le_of_ble_eq_true rfl) (fun H locs hw => ?_)
      refine W.eq (g2 := F0 m 31 ls [.int z9]) rfl ?_
      have hw : w_W G z2.2 r s H locs := hw
      exact p_iret E hw hr (Nat.le_of_ble_eq_true rfl) (Nat.le_of_ble_eq_true rfl) rfl dX7_readGreeting_31
  · refine lv_iconst (v := 0) hx hb dX7_readGreeting_9 (by decide) ?_
    refine lv_iconst (v := 1) hx hb dX7_readGreeting_10 (by decide) ?_
    refine lv_iconst (v := 0) hx hb dX7_readGreeting_11 (by decide) ?_
    refine W_bind fun z10 hz => ?_
    refine w_after (cells1 := 0) (slots1 := 0) (w_runS E kS_TxR_75 kc_X4_codeOf (t_Manners_codeOf l hfl G 0 1 0 z1.2 r ((fun z => (.inl (some (.int z)), z1.2, r)) z10) (by rw [hz]; rfl)) ⟨Nat.le_of_ble_eq_true rfl, Nat.le_of_ble_eq_true rfl⟩ hw rfl hl.1 rfl (Nat.le_of_ble_eq_true rfl) dX7_readGreeting_12 ⟨Nat.le_of_ble_eq_true rfl, Nat.le_of_ble_eq_true rfl⟩) hw rfl (Nat.le_of_ble_eq_true rfl) (Nat.le_of_ble_eq_true rfl) (fun H locs hw => ?_)
    refine W.eq (g2 := F0 m 15 ls [.int z10]) rfl ?_
    have hw : w_W G z1.2 r s H locs := hw
    exact p_iret E hw hr (Nat.le_of_ble_eq_true rfl) (Nat.le_of_ble_eq_true rfl) rfl dX7_readGreeting_15
set_option maxHeartbeats 4000000 in
set_option maxRecDepth 100000 in
theorem t_TxR_isWrong_8 (l : Launch) (hfl : l.stackTraces = false) (G : wG) (this : Nat) (M : Mem) (r : Rho) : Ctr l yX7_isWrong (wWs yX7_isWrong cX7_isWrong 1 (some .boolean)) rm_TxR_isWrong_8 rm_TxR_isWrong_8.cells rm_TxR_isWrong_8.slots G [.ref this] M r ((f_TxR_isWrong_8 this M).map (fun z => (.inl (some (.int z)), M, r))) := by
  refine Ctr.ofF (own := "CheekTown$TextReade\x72") (by decide +kernel) hfl rfl (Nat.le_of_ble_eq_true rfl) (fun p e s m args below meth c E hno hr hnm hw ls hl => ?_)
  obtain ⟨hx, hb, hts, hown, hml, hTT, -⟩ := id E
  have hl : lv_has ls 1 [(0, .ref this)] := hl
  obtain ⟨H, hH⟩ : ∃ H, H = s.heap := ⟨_, rfl⟩
  obtain ⟨locs, hlo⟩ : ∃ L : List Loc, L = [] := ⟨_, rfl⟩
  rw [← hH, ← hlo]
  rw [← hlo] at hw
  replace hw : w_W G M r s H locs := by rw [hH]; exact hw
  unfold f_TxR_isWrong_8
  refine lv_aload_n hx hb dX7_isWrong_0 rfl (lv_at hl 0 rfl) ?_
  refine gx_getI E hw kF_TxR_9_8 (by decide) dX7_isWrong_1 (fun v1 _ => ?_)
  refine lv_iconst (v := (-1)) hx hb dX7_isWrong_4 (by decide) ?_
  refine cx_icmp_eq (tgt := 12) E dX7_isWrong_5 (by decide) (fun _ => ?_) (fun _ => ?_)
  · refine lv_iconst (v := 0) hx hb dX7_isWrong_12 (by decide) ?_
    exact p_zret E hw hr (by decide) (Nat.le_of_ble_eq_true rfl) (Nat.le_of_ble_eq_true rfl) rfl dX7_isWrong_13
  · refine lv_iconst (v := 1) hx hb dX7_isWrong_8 (by decide) ?_
    refine lv_goto (tgt := 13) hx hb dX7_isWrong_9 (by decide) ?_
    exact p_zret E hw hr (by decide) (Nat.le_of_ble_eq_true rfl) (Nat.le_of_ble_eq_true rfl) rfl dX7_isWrong_13
set_option maxHeartbeats 4000000 in
set_option maxRecDepth 100000 in
theorem t_Lands_addHabit (l : Launch) (hfl : l.stackTraces = false) (G : wG) (this : Nat) (a0 : Int32) (a1 : Int32) (a2 : Int32) (M : Mem) (r : Rho) : Ctr l yX0_addHabit (wWs yX0_addHabit cX0_addHabit 4 none) rm_Lands_addHabit rm_Lands_addHabit.cells rm_Lands_addHabit.slots G [.ref this, .int a0, .int a1, .int a2] M r ((f_Lands_addHabit this a0 a1 a2 M).map (fun z => (.inl none, z, r))) := by
  refine Ctr.ofF (own := "CheekTown$Lands") (by decide +kernel) hfl rfl (Nat.le_of_ble_eq_true rfl) (fun p e s m args below meth c E hno hr hnm hw ls hl => ?_)
  obtain ⟨hx, hb, hts, hown, hml, hTT, -⟩ := id E
  have hl : lv_has ls 4 [(0, .ref this), (1, .int a0), (2, .int a1), (3, .int a2)] := hl
  obtain ⟨H, hH⟩ : ∃ H, H = s.heap := ⟨_, rfl⟩
  obtain ⟨locs, hlo⟩ : ∃ L : List Loc, L = [] := ⟨_, rfl⟩
  rw [← hH, ← hlo]
  rw [← hlo] at hw
  replace hw : w_W G M r s H locs := by rw [hH]; exact hw
  unfold f_Lands_addHabit
  refine lv_aload_n hx hb dX0_addHabit_0 rfl (lv_at hl 0 rfl) ?_
  refine gx_getI E hw kF_Lands_36_0 (by decide) dX0_addHabit_1 (fun v1 _ => ?_)
  refine lv_bipush (v := 24) hx hb dX0_addHabit_4 (by decide) ?_
  refine cx_icmp_ge (tgt := 49) E dX0_addHabit_6 (by decide) (fun _ => ?_) (fun _ => ?_)
  · exact p_vret E hw hr (Nat.le_of_ble_eq_true rfl) (Nat.le_of_ble_eq_true rfl) rfl dX0_addHabit_49
  · refine lv_aload_n hx hb dX0_addHabit_9 rfl (lv_at hl 0 rfl) ?_
    refine gx_getR E hw kF_Lands_18_0 (by decide) dX0_addHabit_10 (fun v2 _ => ?_)
    refine lv_aload_n hx hb dX0_addHabit_13 rfl (lv_at hl 0 rfl) ?_
    refine gx_getI E hw kF_Lands_36_0 (by decide) dX0_addHabit_14 (fun v3 _ => ?_)
    refine lv_iload_n hx hb dX0_addHabit_17 rfl (lv_at hl 1 rfl) ?_
    refine gx_iast E hw dX0_addHabit_18 (fun M4 H locs _ hw => ?_)
    refine lv_aload_n hx hb dX0_addHabit_19 rfl (lv_at hl 0 rfl) ?_
    refine gx_getR E hw kF_Lands_22_0 (by decide) dX0_addHabit_20 (fun v5 _ => ?_)
    refine lv_aload_n hx hb dX0_addHabit_23 rfl (lv_at hl 0 rfl) ?_
    refine gx_getI E hw kF_Lands_36_0 (by decide) dX0_addHabit_24 (fun v6 _ => ?_)
    refine lv_iload_n hx hb dX0_addHabit_27 rfl (lv_at hl 2 rfl) ?_
    refine gx_iast E hw dX0_addHabit_28 (fun M7 H locs _ hw => ?_)
    refine lv_aload_n hx hb dX0_addHabit_29 rfl (lv_at hl 0 rfl) ?_
    refine gx_getR E hw kF_Lands_25_0 (by decide) dX0_addHabit_30 (fun v8 _ => ?_)
    refine lv_aload_n hx hb dX0_addHabit_33 rfl (lv_at hl 0 rfl) ?_
    refine gx_getI E hw kF_Lands_36_0 (by decide) dX0_addHabit_34 (fun v9 _ => ?_)
    refine lv_iload_n hx hb dX0_addHabit_37 rfl (lv_at hl 3 rfl) ?_
    refine gx_iast E hw dX0_addHabit_38 (fun M10 H locs _ hw => ?_)
    refine lv_aload_n hx hb dX0_addHabit_39 rfl (lv_at hl 0 rfl) ?_
    refine lv_dup hx hb dX0_addHabit_40 rfl ?_
    refine gx_getI E hw kF_Lands_36_0 (by decide) dX0_addHabit_41 (fun v11 _ => ?_)
    refine lv_iconst (v := 1) hx hb dX0_addHabit_44 (by decide) ?_
    refine lv_iadd hx hb dX0_addHabit_45 ?_
    refine gx_putI E hw kF_Lands_36_0 kT_0_2 (by decide) dX0_addHabit_46 (fun M12 H locs _ hw => ?_)
    exact p_vret E hw hr (Nat.le_of_ble_eq_true rfl) (Nat.le_of_ble_eq_true rfl) rfl dX0_addHabit_49
set_option maxHeartbeats 4000000 in
set_option maxRecDepth 100000 in
theorem t_TR_readHabit (l : Launch) (hfl : l.stackTraces = false) (G : wG) (N : Nat) (this : Nat) (M : Mem) (r : Rho) : Ctr l yX9_readHabit (wWs yX9_readHabit cX9_readHabit 4 none) rm_TR_readHabit rm_TR_readHabit.cells rm_TR_readHabit.slots G [.ref this] M r ((f_TR_readHabit N this M).map (fun z => (.inl none, z, r))) := by
  refine Ctr.ofF (own := "CheekTown$TownReade\x72") (by decide +kernel) hfl rfl (Nat.le_of_ble_eq_true rfl) (fun p e s m args below meth c E hno hr hnm hw ls hl => ?_)
  obtain ⟨hx, hb, hts, hown, hml, hTT, -⟩ := id E
  have hl : lv_has ls 4 [(0, .ref this)] := hl
  obtain ⟨H, hH⟩ : ∃ H, H = s.heap := ⟨_, rfl⟩
  obtain ⟨locs, hlo⟩ : ∃ L : List Loc, L = [] := ⟨_, rfl⟩
  rw [← hH, ← hlo]
  rw [← hlo] at hw
  replace hw : w_W G M r s H locs := by rw [hH]; exact hw
  have w19 : ∀ (M : Mem) (H : Heap) (locs : List Loc) (ls : Array Slot), w_W G M r s H locs → lv_has ls 4 [(0, .ref this)] → W p l e rm_TR_readHabit s m args below meth c H locs 0 0 (PQ G below args s rm_TR_readHabit.cells rm_TR_readHabit.slots (fun z => (.inl none, z, r)) (f_TR_readHabit_19 N this M)) (F0 m 19 ls []) := by
    intro M H locs ls hw hl
    unfold f_TR_readHabit_19
    refine lv_aload_n hx hb dX9_readHabit_19 rfl (lv_at hl 0 rfl) ?_
    refine lv_iconst (v := 0) hx hb dX9_readHabit_20 (by decide) ?_
    refine lv_aload_n hx hb dX9_readHabit_21 rfl (lv_at hl 0 rfl) ?_
    refine gx_getR E hw kF_TR_9_8 (by decide) dX9_readHabit_22 (fun v5 _ => ?_)
    refine gx_getR E hw kF_TR_48_7 (by decide) dX9_readHabit_25 (fun v6 _ => ?_)
    refine gx_getI E hw kF_TR_54_0 (by decide) dX9_readHabit_28 (fun v7 _ => ?_)
    refine lv_iconst (v := 1) hx hb dX9_readHabit_31 (by decide) ?_
    refine lv_isub hx hb dX9_readHabit_32 ?_
    refine W_bind fun _ hck => ?_
    refine W_bind fun z8 hz => ?_
    refine w_after (cells1 := 0) (slots1 := 0) (w_runU E kU_TR_66_TR kc_X7_readNumber (t_TxR_readNumber_8 l hfl G N this 0 (v7 - 1) M r ((fun z => (.inl (some (.int z.1)), z.2, r)) z8) (by rw [hz]; rfl)) ⟨Nat.le_of_ble_eq_true rfl, Nat.le_of_ble_eq_true rfl⟩ hw (w_recv E hw (by decide) ⟨_, _, rfl⟩ (ck_ok hck)) rfl hl.1 rfl (Nat.le_of_ble_eq_true rfl) dX9_readHabit_33 ⟨Nat.le_of_ble_eq_true rfl, Nat.le_of_ble_eq_true rfl⟩) hw rfl (Nat.le_of_ble_eq_true rfl) (Nat.le_of_ble_eq_true rfl) (fun H locs hw => ?_)
    refine W.eq (g2 := F0 m 36 ls [.int z8.1]) rfl ?_
    have hw : w_W G z8.2 r s H locs := hw
    refine lv_istore_n (lv' := [(1, .int z8.1), (0, .ref this)]) hx hb dX9_readHabit_36 rfl hl (by decide) rfl (fun ls hl => ?_)
    refine lv_aload_n hx hb dX9_readHabit_37 rfl (lv_at hl 1 rfl) ?_
    refine W_bind fun _ hck => ?_
    refine W_bind fun z9 hz => ?_
    refine w_after (cells1 := 0) (slots1 := 0) (w_runU E kU_TR_70_TR kc_X7_readGreeting (t_TxR_readGreeting_8 l hfl G N this z8.2 r ((fun z => (.inl (some (.int z.1)), z.2, r)) z9) (by rw [hz]; rfl)) ⟨Nat.le_of_ble_eq_true rfl, Nat.le_of_ble_eq_true rfl⟩ hw (w_recv E hw (by decide) ⟨_, _, rfl⟩ (ck_ok hck)) rfl hl.1 rfl (Nat.le_of_ble_eq_true rfl) dX9_readHabit_38 ⟨Nat.le_of_ble_eq_true rfl, Nat.le_of_ble_eq_true rfl⟩) hw rfl (Nat.le_of_ble_eq_true rfl) (Nat.le_of_ble_eq_true rfl) (fun H locs hw => ?_)
    refine W.eq (g2 := F0 m 41 ls [.int z9.1]) rfl ?_
    have hw : w_W G z9.2 r s H locs := hw
    refine lv_istore_n (lv' := [(2, .int z9.1), (1, .int z8.1), (0, .ref this)]) hx hb dX9_readHabit_41 rfl hl (by decide) rfl (fun ls hl => ?_)
    refine lv_aload_n hx hb dX9_readHabit_42 rfl (lv_at hl 2 rfl) ?_
    refine va_ldcS hx hb hown (hTT.2.2.1 20 _ rfl) dX9_readHabit_43 ?_
    refine W_bind fun _ hck => ?_
    refine W_bind fun z10 hz => ?_
    refine w_after (cells1 := 0) (slots1 := 0) (w_runU E kU_TR_76_TR kc_X7_readWord (t_TxR_readWord_8 l hfl G N this 20 z9.2 r ((fun z => (.inl none, z, r)) z10) (by rw [hz]; rfl)) ⟨Nat.le_of_ble_eq_true rfl, Nat.le_of_ble_eq_true rfl⟩ hw (w_recv E hw (by decide) ⟨_, _, rfl⟩ (ck_ok hck)) rfl hl.1 rfl (Nat.le_of_ble_eq_true rfl) dX9_readHabit_45 ⟨Nat.le_of_ble_eq_true rfl, Nat.le_of_ble_eq_true rfl⟩) hw rfl (Nat.le_of_ble_eq_true rfl) (Nat.le_of_ble_eq_true rfl) (fun H locs hw => ?_)
    refine W.eq (g2 := F0 m 48 ls []) rfl ?_
    have hw : w_W G z10 r s H locs := hw
    refine lv_aload_n hx hb dX9_readHabit_48 rfl (lv_at hl 2 rfl) ?_
    refine lv_iconst (v := 1) hx hb dX9_readHabit_49 (by decide) ?_
    refine lv_bipush (v := 9) hx hb dX9_readHabit_50 (by decide) ?_
    refine W_bind fun _ hck => ?_
    refine W_bind fun z11 hz => ?_
    refine w_after (cells1 := 0) (slots1 := 0) (w_runU E kU_TR_66_TR kc_X7_readNumber (t_TxR_readNumber_8 l hfl G N this 1 9 z10 r ((fun z => (.inl (some (.int z.1)), z.2, r)) z11) (by rw [hz]; rfl)) ⟨Nat.le_of_ble_eq_true rfl, Nat.le_of_ble_eq_true rfl⟩ hw (w_recv E hw (by decide) ⟨_, _, rfl⟩ (ck_ok hck)) rfl hl.1 rfl (Nat.le_of_ble_eq_true rfl) dX9_readHabit_52 ⟨Nat.le_of_ble_eq_true rfl, Nat.le_of_ble_eq_true rfl⟩) hw rfl (Nat.le_of_ble_eq_true rfl) (Nat.le_of_ble_eq_true rfl) (fun H locs hw => ?_)
    refine W.eq (g2 := F0 m 55 ls [.int z11.1]) rfl ?_
    have hw : w_W G z11.2 r s H locs := hw
    refine lv_istore_n (lv' := [(3, .int z11.1), (2, .int z9.1), (1, .int z8.1), (0, .ref this)]) hx hb dX9_readHabit_55 rfl hl (by decide) rfl (fun ls hl => ?_)
    refine lv_aload_n hx hb dX9_readHabit_56 rfl (lv_at hl 3 rfl) ?_
    refine W_bind fun _ hck => ?_
    refine W_bind fun z12 hz => ?_
    refine w_after (cells1 := 0) (slots1 := 0) (w_runU E kU_TR_80_TR kc_X7_isWrong (t_TxR_isWrong_8 l hfl G this z11.2 r ((fun z => (.inl (some (.int z)), z11.2, r)) z12) (by rw [hz]; rfl)) ⟨Nat.le_of_ble_eq_true rfl, Nat.le_of_ble_eq_true rfl⟩ hw (w_recv E hw (by decide) ⟨_, _, rfl⟩ (ck_ok hck)) rfl hl.1 rfl (Nat.le_of_ble_eq_true rfl) dX9_readHabit_57 ⟨Nat.le_of_ble_eq_true rfl, Nat.le_of_ble_eq_true rfl⟩) hw rfl (Nat.le_of_ble_eq_true rfl) (Nat.le_of_ble_eq_true rfl) (fun H locs hw => ?_)
    refine W.eq (g2 := F0 m 60 ls [.int z12]) rfl ?_
    have hw : w_W G z11.2 r s H locs := hw
    refine cx_if_ne (tgt := 76) E dX9_readHabit_60 (by decide) (fun _ => ?_) (fun _ => ?_)
    · exact p_vret E hw hr (Nat.le_of_ble_eq_true rfl) (Nat.le_of_ble_eq_true rfl) rfl dX9_readHabit_76
    · refine lv_aload_n hx hb dX9_readHabit_63 rfl (lv_at hl 3 rfl) ?_
      refine gx_getR E hw kF_TR_9_8 (by decide) dX9_readHabit_64 (fun v13 _ => ?_)
      refine gx_getR E hw kF_TR_48_7 (by decide) dX9_readHabit_67 (fun v14 _ => ?_)
      refine lv_iload_n hx hb dX9_readHabit_70 rfl (lv_at hl 2 rfl) ?_
      refine lv_iload_n hx hb dX9_readHabit_71 rfl (lv_at hl 1 rfl) ?_
      refine lv_iload_n hx hb dX9_readHabit_72 rfl (lv_at hl 0 rfl) ?_
      refine W_bind fun _ hck => ?_
      refine W_bind fun z15 hz => ?_
      refine w_after (cells1 := 0) (slots1 := 0) (w_runV E kV_TR_84 kc_X0_addHabit (t_Lands_addHabit l hfl G v14 z8.1 z9.1 z11.1 z11.2 r ((fun z => (.inl none, z, r)) z15) (by rw [hz]; rfl)) ⟨Nat.le_of_ble_eq_true rfl, Nat.le_of_ble_eq_true rfl⟩ hw (w_recv E hw (by decide) ⟨_, _, rfl⟩ (ck_ok hck)) rfl hl.1 rfl (Nat.le_of_ble_eq_true rfl) dX9_readHabit_73 ⟨Nat.le_of_ble_eq_true rfl, Nat.le_of_ble_eq_true rfl⟩) hw rfl (Nat.le_of_ble_eq_true rfl) (Nat.le_of_ble_eq_true rfl) (fun H locs hw => ?_)
      refine W.eq (g2 := F0 m 76 ls []) rfl ?_
      have hw : w_W G z15 r s H locs := hw
      exact p_vret E hw hr (Nat.le_of_ble_eq_true rfl) (Nat.le_of_ble_eq_true rfl) rfl dX9_readHabit_76
  unfold f_TR_readHabit
  refine lv_aload_n hx hb dX9_readHabit_0 rfl (lv_at hl 0 rfl) ?_
  refine gx_getR E hw kF_TR_9_8 (by decide) dX9_readHabit_1 (fun v1 _ => ?_)
  refine gx_getR E hw kF_TR_48_7 (by decide) dX9_readHabit_4 (fun v2 _ => ?_)
  refine gx_getI E hw kF_TR_63_0 (by decide) dX9_readHabit_7 (fun v3 _ => ?_)
  refine lv_bipush (v := 24) hx hb dX9_readHabit_10 (by decide) ?_
  refine cx_icmp_lt (tgt := 19) E dX9_readHabit_12 (by decide) (fun _ => ?_) (fun _ => ?_)
  · exact w19  M _ _ _ hw (lv_sub hl [0] rfl)
  · refine lv_aload_n hx hb dX9_readHabit_15 rfl (lv_at hl 0 rfl) ?_
    refine W_bind fun _ hck => ?_
    refine W_bind fun z4 hz => ?_
    refine w_after (cells1 := 0) (slots1 := 0) (w_runU E kU_TR_60_TR kc_X7_takenIsWrong (t_TxR_takenIsWrong_8 l hfl G this M r ((fun z => (.inl none, z, r)) z4) (by rw [hz]; rfl)) ⟨Nat.le_of_ble_eq_true rfl, Nat.le_of_ble_eq_true rfl⟩ hw (w_recv E hw (by decide) ⟨_, _, rfl⟩ (ck_ok hck)) rfl hl.1 rfl (Nat.le_of_ble_eq_true rfl) dX9_readHabit_16 ⟨Nat.le_of_ble_eq_true rfl, Nat.le_of_ble_eq_true rfl⟩) hw rfl (Nat.le_of_ble_eq_true rfl) (Nat.le_of_ble_eq_true rfl) (fun H locs hw => ?_)
    refine W.eq (g2 := F0 m 19 ls []) rfl ?_
    have hw : w_W G z4 r s H locs := hw
    exact w19  z4 _ _ _ hw (lv_sub hl [0] rfl)
set_option maxHeartbeats 4000000 in
set_option maxRecDepth 100000 in
theorem t_Town_addPerson (l : Launch) (hfl : l.stackTraces = false) (G : wG) (this : Nat) (a0 : Int32) (a1 : Int32) (a2 : Int32) (a3 : Int32) (M : Mem) (r : Rho) : Ctr l yX8_addPerson (wWs yX8_addPerson cX8_addPerson 6 none) rm_Town_addPerson rm_Town_addPerson.cells rm_Town_addPerson.slots G [.ref this, .int a0, .int a1, .int a2, .int a3] M r ((f_Town_addPerson this a0 a1 a2 a3 M).map (fun z => (.inl none, z, r))) := by
  refine Ctr.ofF (own := "CheekTown$Town") (by decide +kernel) hfl rfl (Nat.le_of_ble_eq_true rfl) (fun p e s m args below meth c E hno hr hnm hw ls hl => ?_)
  obtain ⟨hx, hb, hts, hown, hml, hTT, -⟩ := id E
  have hl : lv_has ls 6 [(0, .ref this), (1, .int a0), (2, .int a1), (3, .int a2), (4, .int a3)] := hl
  obtain ⟨H, hH⟩ : ∃ H, H = s.heap := ⟨_, rfl⟩
  obtain ⟨locs, hlo⟩ : ∃ L : List Loc, L = [] := ⟨_, rfl⟩
  rw [← hH, ← hlo]
  rw [← hlo] at hw
  replace hw : w_W G M r s H locs := by rw [hH]; exact hw
  unfold f_Town_addPerson
  refine lv_aload_n hx hb dX8_addPerson_0 rfl (lv_at hl 0 rfl) ?_
  refine gx_getI E hw kF_Town_50_7 (by decide) dX8_addPerson_1 (fun v1 _ => ?_)
  refine lv_bipush (v := 10) hx hb dX8_addPerson_4 (by decide) ?_
  refine cx_icmp_ge (tgt := 55) E dX8_addPerson_6 (by decide) (fun _ => ?_) (fun _ => ?_)
  · exact p_vret E hw hr (Nat.le_of_ble_eq_true rfl) (Nat.le_of_ble_eq_true rfl) rfl dX8_addPerson_55
  · refine lv_aload_n hx hb dX8_addPerson_9 rfl (lv_at hl 0 rfl) ?_
    refine gx_getR E hw kF_Town_20_7 (by decide) dX8_addPerson_10 (fun v2 _ => ?_)
    refine lv_aload_n hx hb dX8_addPerson_13 rfl (lv_at hl 0 rfl) ?_
    refine gx_getI E hw kF_Town_50_7 (by decide) dX8_addPerson_14 (fun v3 _ => ?_)
    refine gx_aald E hw (by decide) dX8_addPerson_17 (fun v4 _ => ?_)
    refine lv_astore (lv' := [(5, .ref v4), (0, .ref this), (1, .int a0), (2, .int a1), (3, .int a2), (4, .int a3)]) hx hb dX8_addPerson_18 hl (by decide) rfl (fun ls hl => ?_)
    refine lv_aload hx hb dX8_addPerson_20 (lv_at hl 0 rfl) ?_
    refine lv_iload_n hx hb dX8_addPerson_22 rfl (lv_at hl 2 rfl) ?_
    refine gx_putI E hw kF_Town_87_5 kT_5_0 (by decide) dX8_addPerson_23 (fun M5 H locs _ hw => ?_)
    refine lv_aload hx hb dX8_addPerson_26 (lv_at hl 0 rfl) ?_
    refine lv_iload_n hx hb dX8_addPerson_28 rfl (lv_at hl 3 rfl) ?_
    refine gx_putI E hw kF_Town_90_5 kT_5_1 (by decide) dX8_addPerson_29 (fun M6 H locs _ hw => ?_)
    refine lv_aload hx hb dX8_addPerson_32 (lv_at hl 0 rfl) ?_
    refine lv_iload_n hx hb dX8_addPerson_34 rfl (lv_at hl 4 rfl) ?_
    refine gx_putI E hw kF_Town_93_5 kT_5_2 (by decide) dX8_addPerson_35 (fun M7 H locs _ hw => ?_)
    refine lv_aload hx hb dX8_addPerson_38 (lv_at hl 0 rfl) ?_
    refine lv_iload hx hb dX8_addPerson_40 (lv_at hl 5 rfl) ?_
    refine gx_putI E hw kF_Town_96_5 kT_5_3 (by decide) dX8_addPerson_42 (fun M8 H locs _ hw => ?_)
    refine lv_aload_n hx hb dX8_addPerson_45 rfl (lv_at hl 1 rfl) ?_
    refine lv_dup hx hb dX8_addPerson_46 rfl ?_
    refine gx_getI E hw kF_Town_50_7 (by decide) dX8_addPerson_47 (fun v9 _ => ?_)
    refine lv_iconst (v := 1) hx hb dX8_addPerson_50 (by decide) ?_
    refine lv_iadd hx hb dX8_addPerson_51 ?_
    refine gx_putI E hw kF_Town_50_7 kT_7_2 (by decide) dX8_addPerson_52 (fun M10 H locs _ hw => ?_)
    exact p_vret E hw hr (Nat.le_of_ble_eq_true rfl) (Nat.le_of_ble_eq_true rfl) rfl dX8_addPerson_55
set_option maxHeartbeats 4000000 in
set_option maxRecDepth 100000 in
theorem t_TR_readPerson (l : Launch) (hfl : l.stackTraces = false) (G : wG) (N : Nat) (this : Nat) (M : Mem) (r : Rho) : Ctr l yX9_readPerson (wWs yX9_readPerson cX9_readPerson 5 none) rm_TR_readPerson rm_TR_readPerson.cells rm_TR_readPerson.slots G [.ref this] M r ((f_TR_readPerson N this M).map (fun z => (.inl none, z, r))) := by
  refine Ctr.ofF (own := "CheekTown$TownReade\x72") (by decide +kernel) hfl rfl (Nat.le_of_ble_eq_true rfl) (fun p e s m args below meth c E hno hr hnm hw ls hl => ?_)
  obtain ⟨hx, hb, hts, hown, hml, hTT, -⟩ := id E
  have hl : lv_has ls 5 [(0, .ref this)] := hl
  obtain ⟨H, hH⟩ : ∃ H, H = s.heap := ⟨_, rfl⟩
  obtain ⟨locs, hlo⟩ : ∃ L : List Loc, L = [] := ⟨_, rfl⟩
  rw [← hH, ← hlo]
  rw [← hlo] at hw
  replace hw : w_W G M r s H locs := by rw [hH]; exact hw
  have w16 : ∀ (M : Mem) (H : Heap) (locs : List Loc) (ls : Array Slot), w_W G M r s H locs → lv_has ls 5 [(0, .ref this)] → W p l e rm_TR_readPerson s m args below meth c H locs 0 0 (PQ G below args s rm_TR_readPerson.cells rm_TR_readPerson.slots (fun z => (.inl none, z, r)) (f_TR_readPerson_16 N this M)) (F0 m 16 ls []) := by
    intro M H locs ls hw hl
    unfold f_TR_readPerson_16
    refine lv_aload_n hx hb dX9_readPerson_16 rfl (lv_at hl 0 rfl) ?_
    refine lv_iconst (v := 0) hx hb dX9_readPerson_17 (by decide) ?_
    refine lv_aload_n hx hb dX9_readPerson_18 rfl (lv_at hl 0 rfl) ?_
    refine gx_getR E hw kF_TR_9_8 (by decide) dX9_readPerson_19 (fun v4 _ => ?_)
    refine gx_getR E hw kF_TR_48_7 (by decide) dX9_readPerson_22 (fun v5 _ => ?_)
    refine gx_getI E hw kF_TR_54_0 (by decide) dX9_readPerson_25 (fun v6 _ => ?_)
    refine lv_iconst (v := 1) hx hb dX9_readPerson_28 (by decide) ?_
    refine lv_isub hx hb dX9_readPerson_29 ?_
    refine W_bind fun _ hck => ?_
    refine W_bind fun z7 hz => ?_
    refine w_after (cells1 := 0) (slots1 := 0) (w_runU E kU_TR_66_TR kc_X7_readNumber (t_TxR_readNumber_8 l hfl G N this 0 (v6 - 1) M r ((fun z => (.inl (some (.int z.1)), z.2, r)) z7) (by rw [hz]; rfl)) ⟨Nat.le_of_ble_eq_true rfl, Nat.le_of_ble_eq_true rfl⟩ hw (w_recv E hw (by decide) ⟨_, _, rfl⟩ (ck_ok hck)) rfl hl.1 rfl (Nat.le_of_ble_eq_true rfl) dX9_readPerson_30 ⟨Nat.le_of_ble_eq_true rfl, Nat.le_of_ble_eq_true rfl⟩) hw rfl (Nat.le_of_ble_eq_true rfl) (Nat.le_of_ble_eq_true rfl) (fun H locs hw => ?_)
    refine W.eq (g2 := F0 m 33 ls [.int z7.1]) rfl ?_
    have hw : w_W G z7.2 r s H locs := hw
    refine lv_istore_n (lv' := [(1, .int z7.1), (0, .ref this)]) hx hb dX9_readPerson_33 rfl hl (by decide) rfl (fun ls hl => ?_)
    refine lv_aload_n hx hb dX9_readPerson_34 rfl (lv_at hl 1 rfl) ?_
    refine W_bind fun _ hck => ?_
    refine W_bind fun z8 hz => ?_
    refine w_after (cells1 := 0) (slots1 := 0) (w_runU E kU_TR_70_TR kc_X7_readGreeting (t_TxR_readGreeting_8 l hfl G N this z7.2 r ((fun z => (.inl (some (.int z.1)), z.2, r)) z8) (by rw [hz]; rfl)) ⟨Nat.le_of_ble_eq_true rfl, Nat.le_of_ble_eq_true rfl⟩ hw (w_recv E hw (by decide) ⟨_, _, rfl⟩ (ck_ok hck)) rfl hl.1 rfl (Nat.le_of_ble_eq_true rfl) dX9_readPerson_35 ⟨Nat.le_of_ble_eq_true rfl, Nat.le_of_ble_eq_true rfl⟩) hw rfl (Nat.le_of_ble_eq_true rfl) (Nat.le_of_ble_eq_true rfl) (fun H locs hw => ?_)
    refine W.eq (g2 := F0 m 38 ls [.int z8.1]) rfl ?_
    have hw : w_W G z8.2 r s H locs := hw
    refine lv_istore_n (lv' := [(2, .int z8.1), (1, .int z7.1), (0, .ref this)]) hx hb dX9_readPerson_38 rfl hl (by decide) rfl (fun ls hl => ?_)
    refine lv_aload_n hx hb dX9_readPerson_39 rfl (lv_at hl 2 rfl) ?_
    refine va_ldcS hx hb hown (hTT.2.2.1 22 _ rfl) dX9_readPerson_40 ?_
    refine W_bind fun _ hck => ?_
    refine W_bind fun z9 hz => ?_
    refine w_after (cells1 := 0) (slots1 := 0) (w_runU E kU_TR_76_TR kc_X7_readWord (t_TxR_readWord_8 l hfl G N this 22 z8.2 r ((fun z => (.inl none, z, r)) z9) (by rw [hz]; rfl)) ⟨Nat.le_of_ble_eq_true rfl, Nat.le_of_ble_eq_true rfl⟩ hw (w_recv E hw (by decide) ⟨_, _, rfl⟩ (ck_ok hck)) rfl hl.1 rfl (Nat.le_of_ble_eq_true rfl) dX9_readPerson_42 ⟨Nat.le_of_ble_eq_true rfl, Nat.le_of_ble_eq_true rfl⟩) hw rfl (Nat.le_of_ble_eq_true rfl) (Nat.le_of_ble_eq_true rfl) (fun H locs hw => ?_)
    refine W.eq (g2 := F0 m 45 ls []) rfl ?_
    have hw : w_W G z9 r s H locs := hw
    refine lv_aload_n hx hb dX9_readPerson_45 rfl (lv_at hl 2 rfl) ?_
    refine lv_iconst (v := 0) hx hb dX9_readPerson_46 (by decide) ?_
    refine lv_bipush (v := 9) hx hb dX9_readPerson_47 (by decide) ?_
    refine W_bind fun _ hck => ?_
    refine W_bind fun z10 hz => ?_
    refine w_after (cells1 := 0) (slots1 := 0) (w_runU E kU_TR_66_TR kc_X7_readNumber (t_TxR_readNumber_8 l hfl G N this 0 9 z9 r ((fun z => (.inl (some (.int z.1)), z.2, r)) z10) (by rw [hz]; rfl)) ⟨Nat.le_of_ble_eq_true rfl, Nat.le_of_ble_eq_true rfl⟩ hw (w_recv E hw (by decide) ⟨_, _, rfl⟩ (ck_ok hck)) rfl hl.1 rfl (Nat.le_of_ble_eq_true rfl) dX9_readPerson_49 ⟨Nat.le_of_ble_eq_true rfl, Nat.le_of_ble_eq_true rfl⟩) hw rfl (Nat.le_of_ble_eq_true rfl) (Nat.le_of_ble_eq_true rfl) (fun H locs hw => ?_)
    refine W.eq (g2 := F0 m 52 ls [.int z10.1]) rfl ?_
    have hw : w_W G z10.2 r s H locs := hw
    refine lv_istore_n (lv' := [(3, .int z10.1), (2, .int z8.1), (1, .int z7.1), (0, .ref this)]) hx hb dX9_readPerson_52 rfl hl (by decide) rfl (fun ls hl => ?_)
    refine lv_aload_n hx hb dX9_readPerson_53 rfl (lv_at hl 3 rfl) ?_
    refine va_ldcS hx hb hown (hTT.2.2.1 23 _ rfl) dX9_readPerson_54 ?_
    refine W_bind fun _ hck => ?_
    refine W_bind fun z11 hz => ?_
    refine w_after (cells1 := 0) (slots1 := 0) (w_runU E kU_TR_76_TR kc_X7_readWord (t_TxR_readWord_8 l hfl G N this 23 z10.2 r ((fun z => (.inl none, z, r)) z11) (by rw [hz]; rfl)) ⟨Nat.le_of_ble_eq_true rfl, Nat.le_of_ble_eq_true rfl⟩ hw (w_recv E hw (by decide) ⟨_, _, rfl⟩ (ck_ok hck)) rfl hl.1 rfl (Nat.le_of_ble_eq_true rfl) dX9_readPerson_56 ⟨Nat.le_of_ble_eq_true rfl, Nat.le_of_ble_eq_true rfl⟩) hw rfl (Nat.le_of_ble_eq_true rfl) (Nat.le_of_ble_eq_true rfl) (fun H locs hw => ?_)
    refine W.eq (g2 := F0 m 59 ls []) rfl ?_
    have hw : w_W G z11 r s H locs := hw
    refine lv_aload_n hx hb dX9_readPerson_59 rfl (lv_at hl 3 rfl) ?_
    refine lv_iconst (v := 0) hx hb dX9_readPerson_60 (by decide) ?_
    refine lv_bipush (v := 100) hx hb dX9_readPerson_61 (by decide) ?_
    refine W_bind fun _ hck => ?_
    refine W_bind fun z12 hz => ?_
    refine w_after (cells1 := 0) (slots1 := 0) (w_runU E kU_TR_66_TR kc_X7_readNumber (t_TxR_readNumber_8 l hfl G N this 0 100 z11 r ((fun z => (.inl (some (.int z.1)), z.2, r)) z12) (by rw [hz]; rfl)) ⟨Nat.le_of_ble_eq_true rfl, Nat.le_of_ble_eq_true rfl⟩ hw (w_recv E hw (by decide) ⟨_, _, rfl⟩ (ck_ok hck)) rfl hl.1 rfl (Nat.le_of_ble_eq_true rfl) dX9_readPerson_63 ⟨Nat.le_of_ble_eq_true rfl, Nat.le_of_ble_eq_true rfl⟩) hw rfl (Nat.le_of_ble_eq_true rfl) (Nat.le_of_ble_eq_true rfl) (fun H locs hw => ?_)
    refine W.eq (g2 := F0 m 66 ls [.int z12.1]) rfl ?_
    have hw : w_W G z12.2 r s H locs := hw
    refine lv_istore (lv' := [(4, .int z12.1), (3, .int z10.1), (2, .int z8.1), (1, .int z7.1), (0, .ref this)]) hx hb dX9_readPerson_66 hl (by decide) rfl (fun ls hl => ?_)
    refine lv_aload_n hx hb dX9_readPerson_68 rfl (lv_at hl 4 rfl) ?_
    refine W_bind fun _ hck => ?_
    refine W_bind fun z13 hz => ?_
    refine w_after (cells1 := 0) (slots1 := 0) (w_runU E kU_TR_80_TR kc_X7_isWrong (t_TxR_isWrong_8 l hfl G this z12.2 r ((fun z => (.inl (some (.int z)), z12.2, r)) z13) (by rw [hz]; rfl)) ⟨Nat.le_of_ble_eq_true rfl, Nat.le_of_ble_eq_true rfl⟩ hw (w_recv E hw (by decide) ⟨_, _, rfl⟩ (ck_ok hck)) rfl hl.1 rfl (Nat.le_of_ble_eq_true rfl) dX9_readPerson_69 ⟨Nat.le_of_ble_eq_true rfl, Nat.le_of_ble_eq_true rfl⟩) hw rfl (Nat.le_of_ble_eq_true rfl) (Nat.le_of_ble_eq_true rfl) (fun H locs hw => ?_)
    refine W.eq (g2 := F0 m 72 ls [.int z13]) rfl ?_
    have hw : w_W G z12.2 r s H locs := hw
    refine cx_if_ne (tgt := 87) E dX9_readPerson_72 (by decide) (fun _ => ?_) (fun _ => ?_)
    · exact p_vret E hw hr (Nat.le_of_ble_eq_true rfl) (Nat.le_of_ble_eq_true rfl) rfl dX9_readPerson_87
    · refine lv_aload_n hx hb dX9_readPerson_75 rfl (lv_at hl 4 rfl) ?_
      refine gx_getR E hw kF_TR_9_8 (by decide) dX9_readPerson_76 (fun v14 _ => ?_)
      refine lv_iload_n hx hb dX9_readPerson_79 rfl (lv_at hl 3 rfl) ?_
      refine lv_iload_n hx hb dX9_readPerson_80 rfl (lv_at hl 2 rfl) ?_
      refine lv_iload_n hx hb dX9_readPerson_81 rfl (lv_at hl 1 rfl) ?_
      refine lv_iload hx hb dX9_readPerson_82 (lv_at hl 0 rfl) ?_
      refine W_bind fun _ hck => ?_
      refine W_bind fun z15 hz => ?_
      refine w_after (cells1 := 0) (slots1 := 0) (w_runV E kV_TR_97 kc_X8_addPerson (t_Town_addPerson l hfl G v14 z7.1 z8.1 z10.1 z12.1 z12.2 r ((fun z => (.inl none, z, r)) z15) (by rw [hz]; rfl)) ⟨Nat.le_of_ble_eq_true rfl, Nat.le_of_ble_eq_true rfl⟩ hw (w_recv E hw (by decide) ⟨_, _, rfl⟩ (ck_ok hck)) rfl hl.1 rfl (Nat.le_of_ble_eq_true rfl) dX9_readPerson_84 ⟨Nat.le_of_ble_eq_true rfl, Nat.le_of_ble_eq_true rfl⟩) hw rfl (Nat.le_of_ble_eq_true rfl) (Nat.le_of_ble_eq_true rfl) (fun H locs hw => ?_)
      refine W.eq (g2 := F0 m 87 ls []) rfl ?_
      have hw : w_W G z15 r s H locs := hw
      exact p_vret E hw hr (Nat.le_of_ble_eq_true rfl) (Nat.le_of_ble_eq_true rfl) rfl dX9_readPerson_87
  unfold f_TR_readPerson
  refine lv_aload_n hx hb dX9_readPerson_0 rfl (lv_at hl 0 rfl) ?_
  refine gx_getR E hw kF_TR_9_8 (by decide) dX9_readPerson_1 (fun v1 _ => ?_)
  refine gx_getI E hw kF_TR_88_7 (by decide) dX9_readPerson_4 (fun v2 _ => ?_)
  refine lv_bipush (v := 10) hx hb dX9_readPerson_7 (by decide) ?_
  refine cx_icmp_lt (tgt := 16) E dX9_readPerson_9 (by decide) (fun _ => ?_) (fun _ => ?_)
  · exact w16  M _ _ _ hw (lv_sub hl [0] rfl)
  · refine lv_aload_n hx hb dX9_readPerson_12 rfl (lv_at hl 0 rfl) ?_
    refine W_bind fun _ hck => ?_
    refine W_bind fun z3 hz => ?_
    refine w_after (cells1 := 0) (slots1 := 0) (w_runU E kU_TR_60_TR kc_X7_takenIsWrong (t_TxR_takenIsWrong_8 l hfl G this M r ((fun z => (.inl none, z, r)) z3) (by rw [hz]; rfl)) ⟨Nat.le_of_ble_eq_true rfl, Nat.le_of_ble_eq_true rfl⟩ hw (w_recv E hw (by decide) ⟨_, _, rfl⟩ (ck_ok hck)) rfl hl.1 rfl (Nat.le_of_ble_eq_true rfl) dX9_readPerson_13 ⟨Nat.le_of_ble_eq_true rfl, Nat.le_of_ble_eq_true rfl⟩) hw rfl (Nat.le_of_ble_eq_true rfl) (Nat.le_of_ble_eq_true rfl) (fun H locs hw => ?_)
    refine W.eq (g2 := F0 m 16 ls []) rfl ?_
    have hw : w_W G z3 r s H locs := hw
    exact w16  z3 _ _ _ hw (lv_sub hl [0] rfl)

