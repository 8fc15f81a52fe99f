set_option maxHeartbeats 4000000 in
set_option maxRecDepth 100000 in
theorem t_Manners_init (l : Launch) (hfl : l.stackTraces = false) (G : wG) (this : Nat) (M : Mem) (r : Rho) : Ctr l yX4_init (wWs yX4_init cX4_init 1 none) rm_Manners_init rm_Manners_init.cells rm_Manners_init.slots G [.ref this] M r ((f_Manners_init this M).map (fun z => (.inl none, z, r))) := by
  refine Ctr.ofF (own := "CheekTown$Manners") (by decide +kernel) hfl rfl (Nat.le_of_ble_eq_true rfl) (fun p e s m args below meth c E hno hr hnm hw ls hl => ?_)
  obtain ⟨hx, hb, hts, hown, hml, hTT, -⟩ := id E
  have hl : lv_has ls 1 [(0, .ref this)] := hl
  obtain ⟨H, hH⟩ : ∃ H, H = s.heap := ⟨_, rfl⟩
  obtain ⟨locs, hlo⟩ : ∃ L : List Loc, L = [] := ⟨_, rfl⟩
  rw [← hH, ← hlo]
  rw [← hlo] at hw
  replace hw : w_W G M r s H locs := by rw [hH]; exact hw
  unfold f_Manners_init
  refine lv_aload_n hx hb dX4_init_0 rfl (lv_at hl 0 rfl) ?_
  refine W.objInit hx hb hown (hts _ kO_Manners) (hts _ kO_i) (hts _ kO_c) rfl (by rw [hml]; exact hl.1) rfl dX4_init_1 (Nat.le_of_ble_eq_true rfl) (Nat.le_of_ble_eq_true rfl) ?_
  refine W.eq (g2 := F0 m 4 ls []) rfl ?_
  refine lv_aload_n hx hb dX4_init_4 rfl (lv_at hl 0 rfl) ?_
  refine lv_bipush (v := 10) hx hb dX4_init_5 (by decide) ?_
  refine gx_putI E hw kF_Manners_7_4 kT_4_0 (by decide) dX4_init_7 (fun M1 H locs _ hw => ?_)
  refine lv_aload_n hx hb dX4_init_10 rfl (lv_at hl 0 rfl) ?_
  refine lv_iconst (v := 2) hx hb dX4_init_11 (by decide) ?_
  refine gx_putI E hw kF_Manners_13_4 kT_4_1 (by decide) dX4_init_12 (fun M2 H locs _ hw => ?_)
  refine lv_aload_n hx hb dX4_init_15 rfl (lv_at hl 0 rfl) ?_
  refine lv_iconst (v := 5) hx hb dX4_init_16 (by decide) ?_
  refine gx_putI E hw kF_Manners_16_4 kT_4_2 (by decide) dX4_init_17 (fun M3 H locs _ hw => ?_)
  exact p_vret E hw hr (Nat.le_of_ble_eq_true rfl) (Nat.le_of_ble_eq_true rfl) rfl dX4_init_20
set_option maxHeartbeats 4000000 in
set_option maxRecDepth 100000 in
theorem t_Lands_init (l : Launch) (hfl : l.stackTraces = false) (G : wG) (this : Nat) (M : Mem) (r : Rho) : Ctr l yX0_init (wWs yX0_init cX0_init 1 none) rm_Lands_init rm_Lands_init.cells rm_Lands_init.slots G [.ref this] M r ((f_Lands_init this M).map (fun z => (.inl none, z, r))) := by
  refine Ctr.ofF (own := "CheekTown$Lands") (by decide +kernel) hfl rfl (Nat.le_of_ble_eq_true rfl) (fun p e s m args below meth c E hno hr hnm hw ls hl => ?_)
  obtain ⟨hx, hb, hts, hown, hml, hTT, -⟩ := id E
  have hl : lv_has ls 1 [(0, .ref this)] := hl
  obtain ⟨H, hH⟩ : ∃ H, H = s.heap := ⟨_, rfl⟩
  obtain ⟨locs, hlo⟩ : ∃ L : List Loc, L = [] := ⟨_, rfl⟩
  rw [← hH, ← hlo]
  rw [← hlo] at hw
  replace hw : w_W G M r s H locs := by rw [hH]; exact hw
  unfold f_Lands_init
  refine lv_aload_n hx hb dX0_init_0 rfl (lv_at hl 0 rfl) ?_
  refine W.objInit hx hb hown (hts _ kO_Lands) (hts _ kO_i) (hts _ kO_c) rfl (by rw [hml]; exact hl.1) rfl dX0_init_1 (Nat.le_of_ble_eq_true rfl) (Nat.le_of_ble_eq_true rfl) ?_
  refine W.eq (g2 := F0 m 4 ls []) rfl ?_
  refine lv_aload_n hx hb dX0_init_4 rfl (lv_at hl 0 rfl) ?_
  refine gx_new E hw kN_Lands_9 (Nat.le_of_ble_eq_true rfl) (Nat.le_of_ble_eq_true rfl) dX0_init_5 (fun H hw => ?_)
  refine W.widen (k := 1) (n := 3) (Nat.le_of_ble_eq_true rfl) (Nat.le_of_ble_eq_true rfl) ?_
  refine lv_dup hx hb dX0_init_8 rfl ?_
  refine W_bind fun z1 hz => ?_
  refine w_after (cells1 := 1) (slots1 := 3) (w_runIN E kIN_Lands_11 kc_X4_init (t_Manners_init l hfl G (m_sz M) (m_new M (14, 0)) r ((fun z => (.inl none, z, r)) z1) (by rw [hz]; rfl)) ⟨Nat.le_of_ble_eq_true rfl, Nat.le_of_ble_eq_true rfl⟩ hw rfl hl.1 rfl (Nat.le_of_ble_eq_true rfl) dX0_init_9 ⟨Nat.le_of_ble_eq_true rfl, Nat.le_of_ble_eq_true rfl⟩) hw rfl (Nat.le_of_ble_eq_true rfl) (Nat.le_of_ble_eq_true rfl) (fun H locs hw => ?_)
  refine W.eq (g2 := F0 m 12 ls [.ref (m_sz M), .ref this]) rfl ?_
  have hw : w_W G z1 r s H locs := hw
  refine gx_putFR E hw kF_Lands_12_0 kT_0_0 hnm ⟨_, _, _, rfl, rfl⟩ rfl rfl (by decide) dX0_init_12 (fun M2 H locs _ hw => ?_)
  refine lv_aload_n hx hb dX0_init_15 rfl (lv_at hl 0 rfl) ?_
  refine lv_bipush (v := 24) hx hb dX0_init_16 (by decide) ?_
  refine gx_newI E hw (Nat.le_of_ble_eq_true rfl) kAC_I (Nat.le_of_ble_eq_true rfl) (Nat.le_of_ble_eq_true rfl) dX0_init_18 (fun z3 H _ _ hw => ?_)
  refine W.widen (k := 2) (n := 27) (Nat.le_of_ble_eq_true rfl) (Nat.le_of_ble_eq_true rfl) ?_
  refine gx_putFR E hw kF_Lands_18_0 kT_0_3 hnm ⟨_, _, _, rfl, rfl⟩ rfl rfl (by decide) dX0_init_20 (fun M4 H locs _ hw => ?_)
  refine lv_aload_n hx hb dX0_init_23 rfl (lv_at hl 0 rfl) ?_
  refine lv_bipush (v := 24) hx hb dX0_init_24 (by decide) ?_
  refine gx_newI E hw (Nat.le_of_ble_eq_true rfl) kAC_I (Nat.le_of_ble_eq_true rfl) (Nat.le_of_ble_eq_true rfl) dX0_init_26 (fun z5 H _ _ hw => ?_)
  refine W.widen (k := 3) (n := 51) (Nat.le_of_ble_eq_true rfl) (Nat.le_of_ble_eq_true rfl) ?_
  refine gx_putFR E hw kF_Lands_22_0 kT_0_4 hnm ⟨_, _, _, rfl, rfl⟩ rfl rfl (by decide) dX0_init_28 (fun M6 H locs _ hw => ?_)
  refine lv_aload_n hx hb dX0_init_31 rfl (lv_at hl 0 rfl) ?_
  refine lv_bipush (v := 24) hx hb dX0_init_32 (by decide) ?_
  refine gx_newI E hw (Nat.le_of_ble_eq_true rfl) kAC_I (Nat.le_of_ble_eq_true rfl) (Nat.le_of_ble_eq_true rfl) dX0_init_34 (fun z7 H _ _ hw => ?_)
  refine W.widen (k := 4) (n := 75) (Nat.le_of_ble_eq_true rfl) (Nat.le_of_ble_eq_true rfl) ?_
  refine gx_putFR E hw kF_Lands_25_0 kT_0_5 hnm ⟨_, _, _, rfl, rfl⟩ rfl rfl (by decide) dX0_init_36 (fun M8 H locs _ hw => ?_)
  exact p_vret E hw hr (Nat.le_of_ble_eq_true rfl) (Nat.le_of_ble_eq_true rfl) rfl dX0_init_39
set_option maxHeartbeats 4000000 in
set_option maxRecDepth 100000 in
theorem t_Log_init (l : Launch) (hfl : l.stackTraces = false) (G : wG) (this : Nat) (M : Mem) (r : Rho) : Ctr l yX3_init (wWs yX3_init cX3_init 1 none) rm_Log_init rm_Log_init.cells rm_Log_init.slots G [.ref this] M r ((f_Log_init this M).map (fun z => (.inl none, z, r))) := by
  refine Ctr.ofF (own := "CheekTown$Log") (by decide +kernel) hfl rfl (Nat.le_of_ble_eq_true rfl) (fun p e s m args below meth c E hno hr hnm hw ls hl => ?_)
  obtain ⟨hx, hb, hts, hown, hml, hTT, -⟩ := id E
  have hl : lv_has ls 1 [(0, .ref this)] := hl
  obtain ⟨H, hH⟩ : ∃ H, H = s.heap := ⟨_, rfl⟩
  obtain ⟨locs, hlo⟩ : ∃ L : List Loc, L = [] := ⟨_, rfl⟩
  rw [← hH, ← hlo]
  rw [← hlo] at hw
  replace hw : w_W G M r s H locs := by rw [hH]; exact hw
  unfold f_Log_init
  refine lv_aload_n hx hb dX3_init_0 rfl (lv_at hl 0 rfl) ?_
  refine W.objInit hx hb hown (hts _ kO_Log) (hts _ kO_i) (hts _ kO_c) rfl (by rw [hml]; exact hl.1) rfl dX3_init_1 (Nat.le_of_ble_eq_true rfl) (Nat.le_of_ble_eq_true rfl) ?_
  refine W.eq (g2 := F0 m 4 ls []) rfl ?_
  refine lv_aload_n hx hb dX3_init_4 rfl (lv_at hl 0 rfl) ?_
  refine lv_sipush (v := 480) hx hb dX3_init_5 (by decide) ?_
  refine gx_newI E hw (Nat.le_of_ble_eq_true rfl) kAC_I (Nat.le_of_ble_eq_true rfl) (Nat.le_of_ble_eq_true rfl) dX3_init_8 (fun z1 H _ _ hw => ?_)
  refine W.widen (k := 1) (n := 480) (Nat.le_of_ble_eq_true rfl) (Nat.le_of_ble_eq_true rfl) ?_
  refine gx_putFR E hw kF_Log_11_3 kT_3_2 hnm ⟨_, _, _, rfl, rfl⟩ rfl rfl (by decide) dX3_init_10 (fun M2 H locs _ hw => ?_)
  exact p_vret E hw hr (Nat.le_of_ble_eq_true rfl) (Nat.le_of_ble_eq_true rfl) rfl dX3_init_13
set_option maxHeartbeats 4000000 in
set_option maxRecDepth 100000 in
theorem t_Arrays_fill (l : Launch) (hfl : l.stackTraces = false) (G : wG) (N : Nat) (a0 : Nat) (a1 : Int32) (M : Mem) (r : Rho) : Ctr l yJ7_fill_53178 (wWs yJ7_fill_53178 cJ7_fill_53178 4 none) rm_Arrays_fill rm_Arrays_fill.cells rm_Arrays_fill.slots G [.ref a0, .int a1] M r ((f_Arrays_fill N a0 a1 M).map (fun z => (.inl none, z, r))) := by
  refine Ctr.ofF (own := "java/util/Arrays") (by decide +kernel) hfl rfl (Nat.le_of_ble_eq_true rfl) (fun p e s m args below meth c E hno hr hnm hw ls hl => ?_)
  obtain ⟨hx, hb, hts, hown, hml, hTT, -⟩ := id E
  have hl : lv_has ls 4 [(0, .ref a0), (1, .int a1)] := hl
  obtain ⟨H, hH⟩ : ∃ H, H = s.heap := ⟨_, rfl⟩
  obtain ⟨locs, hlo⟩ : ∃ L : List Loc, L = [] := ⟨_, rfl⟩
  rw [← hH, ← hlo]
  rw [← hlo] at hw
  replace hw : w_W G M r s H locs := by rw [hH]; exact hw
  have w5 : ∀ (n : Nat) (x2 : Int32) (x3 : Int32) (M : Mem) (H : Heap) (locs : List Loc) (ls : Array Slot), w_W G M r s H locs → lv_has ls 4 [(0, .ref a0), (1, .int a1), (2, .int x2), (3, .int x3)] → W p l e rm_Arrays_fill s m args below meth c H locs 0 0 (PQ G below args s rm_Arrays_fill.cells rm_Arrays_fill.slots (fun z => (.inl none, z, r)) (f_Arrays_fill_5 N a0 a1 n x2 x3 M)) (F0 m 5 ls []) := by
    intro n
    induction n with
    | zero => intros; exact W_none
    | succ n ih =>
      intro x2 x3 M H locs ls hw hl
      rw [f_Arrays_fill_5]
      refine lv_iload_n hx hb dJ7_fill_53178_5 rfl (lv_at hl 2 rfl) ?_
      refine lv_iload_n hx hb dJ7_fill_53178_6 rfl (lv_at hl 3 rfl) ?_
      refine cx_icmp_ge (tgt := 20) E dJ7_fill_53178_7 (by decide) (fun _ => ?_) (fun _ => ?_)
      · exact p_vret E hw hr (Nat.le_of_ble_eq_true rfl) (Nat.le_of_ble_eq_true rfl) rfl dJ7_fill_53178_20
      · refine lv_aload_n hx hb dJ7_fill_53178_10 rfl (lv_at hl 0 rfl) ?_
        refine lv_iload_n hx hb dJ7_fill_53178_11 rfl (lv_at hl 2 rfl) ?_
        refine lv_iload_n hx hb dJ7_fill_53178_12 rfl (lv_at hl 1 rfl) ?_
        refine gx_iast E hw dJ7_fill_53178_13 (fun M2 H locs _ hw => ?_)
        refine lv_iinc (v := x2 + 1) (lv' := [(2, .int (x2 + 1)), (0, .ref a0), (1, .int a1), (3, .int x3)]) hx hb dJ7_fill_53178_14 hl (k := 2) rfl rfl (by decide) rfl (fun ls hl => ?_)
        refine lv_goto (tgt := 5) hx hb dJ7_fill_53178_17 (by decide) ?_
        exact ih (x2 + 1) x3 M2 _ _ _ hw (lv_sub hl [1, 2, 0, 3] rfl)
  unfold f_Arrays_fill
  refine lv_iconst (v := 0) hx hb dJ7_fill_53178_0 (by decide) ?_
  refine lv_istore_n (lv' := [(2, .int 0), (0, .ref a0), (1, .int a1)]) hx hb dJ7_fill_53178_1 rfl hl (by decide) rfl (fun ls hl => ?_)
  refine lv_aload_n hx hb dJ7_fill_53178_2 rfl (lv_at hl 1 rfl) ?_
  refine gx_alen E hw dJ7_fill_53178_3 (fun v1 _ => ?_)
  refine lv_istore_n (lv' := [(3, .int v1), (2, .int 0), (0, .ref a0), (1, .int a1)]) hx hb dJ7_fill_53178_4 rfl hl (by decide) rfl (fun ls hl => ?_)
  exact w5  N 0 v1 M _ _ _ hw (lv_sub hl [2, 3, 1, 0] rfl)
set_option maxHeartbeats 4000000 in
set_option maxRecDepth 100000 in
theorem t_Person_init (l : Launch) (hfl : l.stackTraces = false) (G : wG) (N : Nat) (this : Nat) (M : Mem) (r : Rho) : Ctr l yX5_init (wWs yX5_init cX5_init 1 none) rm_Person_init rm_Person_init.cells rm_Person_init.slots G [.ref this] M r ((f_Person_init N this M).map (fun z => (.inl none, z, r))) := by
  refine Ctr.ofF (own := "CheekTown$Person") (by decide +kernel) hfl rfl (Nat.le_of_ble_eq_true rfl) (fun p e s m args below meth c E hno hr hnm hw ls hl => ?_)
  obtain ⟨hx, hb, hts, hown, hml, hTT, -⟩ := id E
  have hl : lv_has ls 1 [(0, .ref this)] := hl
  obtain ⟨H, hH⟩ : ∃ H, H = s.heap := ⟨_, rfl⟩
  obtain ⟨locs, hlo⟩ : ∃ L : List Loc, L = [] := ⟨_, rfl⟩
  rw [← hH, ← hlo]
  rw [← hlo] at hw
  replace hw : w_W G M r s H locs := by rw [hH]; exact hw
  unfold f_Person_init
  refine lv_aload_n hx hb dX5_init_0 rfl (lv_at hl 0 rfl) ?_
  refine W.objInit hx hb hown (hts _ kO_Person) (hts _ kO_i) (hts _ kO_c) rfl (by rw [hml]; exact hl.1) rfl dX5_init_1 (Nat.le_of_ble_eq_true rfl) (Nat.le_of_ble_eq_true rfl) ?_
  refine W.eq (g2 := F0 m 4 ls []) rfl ?_
  refine lv_aload_n hx hb dX5_init_4 rfl (lv_at hl 0 rfl) ?_
  refine lv_iconst (v := (-1)) hx hb dX5_init_5 (by decide) ?_
  refine gx_putI E hw kF_Person_9_5 kT_5_6 (by decide) dX5_init_6 (fun M1 H locs _ hw => ?_)
  refine lv_aload_n hx hb dX5_init_9 rfl (lv_at hl 0 rfl) ?_
  refine lv_iconst (v := (-1)) hx hb dX5_init_10 (by decide) ?_
  refine gx_putI E hw kF_Person_15_5 kT_5_7 (by decide) dX5_init_11 (fun M2 H locs _ hw => ?_)
  refine lv_aload_n hx hb dX5_init_14 rfl (lv_at hl 0 rfl) ?_
  refine lv_bipush (v := 10) hx hb dX5_init_15 (by decide) ?_
  refine gx_newI E hw (Nat.le_of_ble_eq_true rfl) kAC_I (Nat.le_of_ble_eq_true rfl) (Nat.le_of_ble_eq_true rfl) dX5_init_17 (fun z3 H _ _ hw => ?_)
  refine W.widen (k := 1) (n := 10) (Nat.le_of_ble_eq_true rfl) (Nat.le_of_ble_eq_true rfl) ?_
  refine gx_putFR E hw kF_Person_18_5 kT_5_8 hnm ⟨_, _, _, rfl, rfl⟩ rfl rfl (by decide) dX5_init_19 (fun M4 H locs _ hw => ?_)
  refine lv_aload_n hx hb dX5_init_22 rfl (lv_at hl 0 rfl) ?_
  refine lv_bipush (v := 10) hx hb dX5_init_23 (by decide) ?_
  refine gx_newI E hw (Nat.le_of_ble_eq_true rfl) kAC_I (Nat.le_of_ble_eq_true rfl) (Nat.le_of_ble_eq_true rfl) dX5_init_25 (fun z5 H _ _ hw => ?_)
  refine W.widen (k := 2) (n := 20) (Nat.le_of_ble_eq_true rfl) (Nat.le_of_ble_eq_true rfl) ?_
  refine gx_putFR E hw kF_Person_22_5 kT_5_9 hnm ⟨_, _, _, rfl, rfl⟩ rfl rfl (by decide) dX5_init_27 (fun M6 H locs _ hw => ?_)
  refine lv_aload_n hx hb dX5_init_30 rfl (lv_at hl 0 rfl) ?_
  refine gx_getR E hw kF_Person_22_5 (by decide) dX5_init_31 (fun v7 _ => ?_)
  refine lv_iconst (v := (-1)) hx hb dX5_init_34 (by decide) ?_
  refine W_bind fun z8 hz => ?_
  refine w_after (cells1 := 2) (slots1 := 20) (w_runS E kS_Person_25 kc_J7_fill_53178 (t_Arrays_fill l hfl G N v7 (-1) M6 r ((fun z => (.inl none, z, r)) z8) (by rw [hz]; rfl)) ⟨Nat.le_of_ble_eq_true rfl, Nat.le_of_ble_eq_true rfl⟩ hw rfl hl.1 rfl (Nat.le_of_ble_eq_true rfl) dX5_init_35 ⟨Nat.le_of_ble_eq_true rfl, Nat.le_of_ble_eq_true rfl⟩) hw rfl (Nat.le_of_ble_eq_true rfl) (Nat.le_of_ble_eq_true rfl) (fun H locs hw => ?_)
  refine W.eq (g2 := F0 m 38 ls []) rfl ?_
  have hw : w_W G z8 r s H locs := hw
  exact p_vret E hw hr (Nat.le_of_ble_eq_true rfl) (Nat.le_of_ble_eq_true rfl) rfl dX5_init_38
set_option maxHeartbeats 4000000 in
set_option maxRecDepth 100000 in
theorem t_Town_init (l : Launch) (hfl : l.stackTraces = false) (G : wG) (N : Nat) (this : Nat) (M : Mem) (r : Rho) : Ctr l yX8_init (wWs yX8_init cX8_init 2 none) rm_Town_init rm_Town_init.cells rm_Town_init.slots G [.ref this] M r ((f_Town_init N this M).map (fun z => (.inl none, z, r))) := by
  refine Ctr.ofF (own := "CheekTown$Town") (by decide +kernel) hfl rfl (Nat.le_of_ble_eq_true rfl) (fun p e s m args below meth c E hno hr hnm hw ls hl => ?_)
  obtain ⟨hx, hb, hts, hown, hml, hTT, -⟩ := id E
  have hl : lv_has ls 2 [(0, .ref this)] := hl
  obtain ⟨H, hH⟩ : ∃ H, H = s.heap := ⟨_, rfl⟩
  obtain ⟨locs, hlo⟩ : ∃ L : List Loc, L = [] := ⟨_, rfl⟩
  rw [← hH, ← hlo]
  rw [← hlo] at hw
  replace hw : w_W G M r s H locs := by rw [hH]; exact hw
  unfold f_Town_init
  refine lv_aload_n hx hb dX8_init_0 rfl (lv_at hl 0 rfl) ?_
  refine W.objInit hx hb hown (hts _ kO_Town) (hts _ kO_i) (hts _ kO_c) rfl (by rw [hml]; exact hl.1) rfl dX8_init_1 (Nat.le_of_ble_eq_true rfl) (Nat.le_of_ble_eq_true rfl) ?_
  refine W.eq (g2 := F0 m 4 ls []) rfl ?_
  refine lv_aload_n hx hb dX8_init_4 rfl (lv_at hl 0 rfl) ?_
  refine gx_new E hw kN_Town_9 (Nat.le_of_ble_eq_true rfl) (Nat.le_of_ble_eq_true rfl) dX8_init_5 (fun H hw => ?_)
  refine W.widen (k := 1) (n := 6) (Nat.le_of_ble_eq_true rfl) (Nat.le_of_ble_eq_true rfl) ?_
  refine lv_dup hx hb dX8_init_8 rfl ?_
  refine W_bind fun z1 hz => ?_
  refine w_after (cells1 := 5) (slots1 := 81) (w_runIN E kIN_Town_11 kc_X0_init (t_Lands_init l hfl G (m_sz M) (m_new M (10, 0)) r ((fun z => (.inl none, z, r)) z1) (by rw [hz]; rfl)) ⟨Nat.le_of_ble_eq_true rfl, Nat.le_of_ble_eq_true rfl⟩ hw rfl hl.1 rfl (Nat.le_of_ble_eq_true rfl) dX8_init_9 ⟨Nat.le_of_ble_eq_true rfl, Nat.le_of_ble_eq_true rfl⟩) hw rfl (Nat.le_of_ble_eq_true rfl) (Nat.le_of_ble_eq_true rfl) (fun H locs hw => ?_)
  refine W.eq (g2 := F0 m 12 ls [.ref (m_sz M), .ref this]) rfl ?_
  have hw : w_W G z1 r s H locs := hw
  refine gx_putFR E hw kF_Town_12_7 kT_7_0 hnm ⟨_, _, _, rfl, rfl⟩ rfl rfl (by decide) dX8_init_12 (fun M2 H locs _ hw => ?_)
  refine lv_aload_n hx hb dX8_init_15 rfl (lv_at hl 0 rfl) ?_
  refine lv_bipush (v := 10) hx hb dX8_init_16 (by decide) ?_
  refine gx_newR E hw (Or.inl ⟨rfl, rfl⟩) (Nat.le_of_ble_eq_true rfl) kCL_Town_18 (Nat.le_of_ble_eq_true rfl) (Nat.le_of_ble_eq_true rfl) dX8_init_18 (fun z3 H _ _ hw => ?_)
  refine W.widen (k := 6) (n := 91) (Nat.le_of_ble_eq_true rfl) (Nat.le_of_ble_eq_true rfl) ?_
  refine gx_putFR E hw kF_Town_20_7 kT_7_1 hnm ⟨_, _, _, rfl, rfl⟩ rfl rfl (by decide) dX8_init_21 (fun M4 H locs _ hw => ?_)
  refine lv_aload_n hx hb dX8_init_24 rfl (lv_at hl 0 rfl) ?_
  refine lv_bipush (v := 24) hx hb dX8_init_25 (by decide) ?_
  refine gx_newI E hw (Nat.le_of_ble_eq_true rfl) kAC_I (Nat.le_of_ble_eq_true rfl) (Nat.le_of_ble_eq_true rfl) dX8_init_27 (fun z5 H _ _ hw => ?_)
  refine W.widen (k := 7) (n := 115) (Nat.le_of_ble_eq_true rfl) (Nat.le_of_ble_eq_true rfl) ?_
  refine gx_putFR E hw kF_Town_24_7 kT_7_3 hnm ⟨_, _, _, rfl, rfl⟩ rfl rfl (by decide) dX8_init_29 (fun M6 H locs _ hw => ?_)
  refine lv_aload_n hx hb dX8_init_32 rfl (lv_at hl 0 rfl) ?_
  refine lv_bipush (v := 24) hx hb dX8_init_33 (by decide) ?_
  refine gx_newI E hw (Nat.le_of_ble_eq_true rfl) kAC_I (Nat.le_of_ble_eq_true rfl) (Nat.le_of_ble_eq_true rfl) dX8_init_35 (fun z7 H _ _ hw => ?_)
  refine W.widen (k := 8) (n := 139) (Nat.le_of_ble_eq_true rfl) (Nat.le_of_ble_eq_true rfl) ?_
  refine gx_putFR E hw kF_Town_28_7 kT_7_4 hnm ⟨_, _, _, rfl, rfl⟩ rfl rfl (by decide) dX8_init_37 (fun M8 H locs _ hw => ?_)
  refine lv_aload_n hx hb dX8_init_40 rfl (lv_at hl 0 rfl) ?_
  refine lv_iconst (v := 1) hx hb dX8_init_41 (by decide) ?_
  refine gx_putI E hw kF_Town_31_7 kT_7_8 (by decide) dX8_init_42 (fun M9 H locs _ hw => ?_)
  refine lv_aload_n hx hb dX8_init_45 rfl (lv_at hl 0 rfl) ?_
  refine gx_new E hw kN_Town_35 (Nat.le_of_ble_eq_true rfl) (Nat.le_of_ble_eq_true rfl) dX8_init_46 (fun H hw => ?_)
  refine W.widen (k := 9) (n := 142) (Nat.le_of_ble_eq_true rfl) (Nat.le_of_ble_eq_true rfl) ?_
  refine lv_dup hx hb dX8_init_49 rfl ?_
  refine W_bind fun z10 hz => ?_
  refine w_after (cells1 := 10) (slots1 := 622) (w_runIN E kIN_Town_37 kc_X3_init (t_Log_init l hfl G (m_sz M9) (m_new M9 (13, 0)) r ((fun z => (.inl none, z, r)) z10) (by rw [hz]; rfl)) ⟨Nat.le_of_ble_eq_true rfl, Nat.le_of_ble_eq_true rfl⟩ hw rfl hl.1 rfl (Nat.le_of_ble_eq_true rfl) dX8_init_50 ⟨Nat.le_of_ble_eq_true rfl, Nat.le_of_ble_eq_true rfl⟩) hw rfl (Nat.le_of_ble_eq_true rfl) (Nat.le_of_ble_eq_true rfl) (fun H locs hw => ?_)
  refine W.eq (g2 := F0 m 53 ls [.ref (m_sz M9), .ref this]) rfl ?_
  have hw : w_W G z10 r s H locs := hw
  refine gx_putFR E hw kF_Town_38_7 kT_7_14 hnm ⟨_, _, _, rfl, rfl⟩ rfl rfl (by decide) dX8_init_53 (fun M11 H locs _ hw => ?_)
  refine lv_iconst (v := 0) hx hb dX8_init_56 (by decide) ?_
  refine lv_istore_n (lv' := [(1, .int 0), (0, .ref this)]) hx hb dX8_init_57 rfl hl (by decide) rfl (fun ls hl => ?_)
  refine lv_iload_n hx hb dX8_init_58 rfl (lv_at hl 0 rfl) ?_
  refine lv_bipush (v := 10) hx hb dX8_init_59 (by decide) ?_
  refine lv_icmp_ge (tgt := 83) hx hb dX8_init_61 (by decide) (fun h9 => absurd h9 (by decide)) (fun _ => ?_)
  refine lv_aload_n hx hb dX8_init_64 rfl (lv_at hl 1 rfl) ?_
  refine gx_getR E hw kF_Town_20_7 (by decide) dX8_init_65 (fun v12 _ => ?_)
  refine lv_iload_n hx hb dX8_init_68 rfl (lv_at hl 0 rfl) ?_
  refine gx_new E hw kN_Town_18 (Nat.le_of_ble_eq_true rfl) (Nat.le_of_ble_eq_true rfl) dX8_init_69 (fun H hw => ?_)
  refine W.widen (k := 11) (n := 632) (Nat.le_of_ble_eq_true rfl) (Nat.le_of_ble_eq_true rfl) ?_
  refine lv_dup hx hb dX8_init_72 rfl ?_
  refine W_bind fun z13 hz => ?_
  refine w_after (cells1 := 13) (slots1 := 652) (w_runI E kI_Town_42 kc_X5_init (t_Person_init l hfl G N (m_sz M11) (m_new M11 (15, 0)) r ((fun z => (.inl none, z, r)) z13) (by rw [hz]; rfl)) ⟨Nat.le_of_ble_eq_true rfl, Nat.le_of_ble_eq_true rfl⟩ hw rfl hl.1 rfl (Nat.le_of_ble_eq_true rfl) dX8_init_73 ⟨Nat.le_of_ble_eq_true rfl, Nat.le_of_ble_eq_true rfl⟩) hw rfl (Nat.le_of_ble_eq_true rfl) (Nat.le_of_ble_eq_true rfl) (fun H locs hw => ?_)
  refine W.eq (g2 := F0 m 76 ls [.ref (m_sz M11), .int 0, .ref v12]) rfl ?_
  have hw : w_W G z13 r s H locs := hw
  refine gx_aast E hw (by decide) dX8_init_76 (fun M14 H locs _ hw => ?_)
  refine lv_iinc (v := 1) (lv' := [(1, .int 1), (0, .ref this)]) hx hb dX8_init_77 hl (k := 0) rfl rfl (by decide) rfl (fun ls hl => ?_)
  refine lv_goto (tgt := 58) hx hb dX8_init_80 (by decide) ?_
  refine lv_iload_n hx hb dX8_init_58 rfl (lv_at hl 0 rfl) ?_
  refine lv_bipush (v := 10) hx hb dX8_init_59 (by decide) ?_
  refine lv_icmp_ge (tgt := 83) hx hb dX8_init_61 (by decide) (fun h9 => absurd h9 (by decide)) (fun _ => ?_)
  refine lv_aload_n hx hb dX8_init_64 rfl (lv_at hl 1 rfl) ?_
  refine gx_getR E hw kF_Town_20_7 (by decide) dX8_init_65 (fun v15 _ => ?_)
  refine lv_iload_n hx hb dX8_init_68 rfl (lv_at hl 0 rfl) ?_
  refine gx_new E hw kN_Town_18 (Nat.le_of_ble_eq_true rfl) (Nat.le_of_ble_eq_true rfl) dX8_init_69 (fun H hw => ?_)
  refine W.widen (k := 14) (n := 662) (Nat.le_of_ble_eq_true rfl) (Nat.le_of_ble_eq_true rfl) ?_
  refine lv_dup hx hb dX8_init_72 rfl ?_
  refine W_bind fun z16 hz => ?_
  refine w_after (cells1 := 16) (slots1 := 682) (w_runI E kI_Town_42 kc_X5_init (t_Person_init l hfl G N (m_sz M14) (m_new M14 (15, 0)) r ((fun z => (.inl none, z, r)) z16) (by rw [hz]; rfl)) ⟨Nat.le_of_ble_eq_true rfl, Nat.le_of_ble_eq_true rfl⟩ hw rfl hl.1 rfl (Nat.le_of_ble_eq_true rfl) dX8_init_73 ⟨Nat.le_of_ble_eq_true rfl, Nat.le_of_ble_eq_true rfl⟩) hw rfl (Nat.le_of_ble_eq_true rfl) (Nat.le_of_ble_eq_true rfl) (fun H locs hw => ?_)
  refine W.eq (g2 := F0 m 76 ls [.ref (m_sz M14), .int 1, .ref v15]) rfl ?_
  have hw : w_W G z16 r s H locs := hw
  refine gx_aast E hw (by decide) dX8_init_76 (fun M17 H locs _ hw => ?_)
  refine lv_iinc (v := 2) (lv' := [(1, .int 2), (0, .ref this)]) hx hb dX8_init_77 hl (k := 0) rfl rfl (by decide) rfl (fun ls hl => ?_)
  refine lv_goto (tgt := 58) hx hb dX8_init_80 (by decide) ?_
  refine lv_iload_n hx hb dX8_init_58 rfl (lv_at hl 0 rfl) ?_
  refine lv_bipush (v := 10) hx hb dX8_init_59 (by decide) ?_
  refine lv_icmp_ge (tgt := 83) hx hb dX8_init_61 (by decide) (fun h9 => absurd h9 (by decide)) (fun _ => ?_)
  refine lv_aload_n hx hb dX8_init_64 rfl (lv_at hl 1 rfl) ?_
  refine gx_getR E hw kF_Town_20_7 (by decide) dX8_init_65 (fun v18 _ => ?_)
  refine lv_iload_n hx hb dX8_init_68 rfl (lv_at hl 0 rfl) ?_
  refine gx_new E hw kN_Town_18 (Nat.le_of_ble_eq_true rfl) (Nat.le_of_ble_eq_true rfl) dX8_init_69 (fun H hw => ?_)
  refine W.widen (k := 17) (n := 692) (Nat.le_of_ble_eq_true rfl) (Nat.le_of_ble_eq_true rfl) ?_
  refine lv_dup hx hb dX8_init_72 rfl ?_
  refine W_bind fun z19 hz => ?_
  refine w_after (cells1 := 19) (slots1 := 712) (w_runI E kI_Town_42 kc_X5_init (t_Person_init l hfl G N (m_sz M17) (m_new M17 (15, 0)) r ((fun z => (.inl none, z, r)) z19) (by rw [hz]; rfl)) ⟨Nat.le_of_ble_eq_true rfl, Nat.le_of_ble_eq_true rfl⟩ hw rfl hl.1 rfl (Nat.le_of_ble_eq_true rfl) dX8_init_73 ⟨Nat.le_of_ble_eq_true rfl, Nat.le_of_ble_eq_true rfl⟩) hw rfl (Nat.le_of_ble_eq_true rfl) (Nat.le_of_ble_eq_true rfl) (fun H locs hw => ?_)
  refine W.eq (g2 := F0 m 76 ls [.ref (m_sz M17), .int 2, .ref v18]) rfl ?_
  have hw : w_W G z19 r s H locs := hw
  refine gx_aast E hw (by decide) dX8_init_76 (fun M20 H locs _ hw => ?_)
  refine lv_iinc (v := 3) (lv' := [(1, .int 3), (0, .ref this)]) hx hb dX8_init_77 hl (k := 0) rfl rfl (by decide) rfl (fun ls hl => ?_)
  refine lv_goto (tgt := 58) hx hb dX8_init_80 (by decide) ?_
  refine lv_iload_n hx hb dX8_init_58 rfl (lv_at hl 0 rfl) ?_
  refine lv_bipush (v := 10) hx hb dX8_init_59 (by decide) ?_
  refine lv_icmp_ge (tgt := 83) hx hb dX8_init_61 (by decide) (fun h9 => absurd h9 (by decide)) (fun _ => ?_)
  refine lv_aload_n hx hb dX8_init_64 rfl (lv_at hl 1 rfl) ?_
  refine gx_getR E hw kF_Town_20_7 (by decide) dX8_init_65 (fun v21 _ => ?_)
  refine lv_iload_n hx hb dX8_init_68 rfl (lv_at hl 0 rfl) ?_
  refine gx_new E hw kN_Town_18 (Nat.le_of_ble_eq_true rfl) (Nat.le_of_ble_eq_true rfl) dX8_init_69 (fun H hw => ?_)
  refine W.widen (k := 20) (n := 722) (Nat.le_of_ble_eq_true rfl) (Nat.le_of_ble_eq_true rfl) ?_
  refine lv_dup hx hb dX8_init_72 rfl ?_
  refine W_bind fun z22 hz => ?_
  refine w_after (cells1 := 22) (slots1 := 742) (w_runI E kI_Town_42 kc_X5_init (t_Person_init l hfl G N (m_sz M20) (m_new M20 (15, 0)) r ((fun z => (.inl none, z, r)) z22) (by rw [hz]; rfl)) ⟨Nat.le_of_ble_eq_true rfl, Nat.le_of_ble_eq_true rfl⟩ hw rfl hl.1 rfl (Nat.le_of_ble_eq_true rfl) dX8_init_73 ⟨Nat.le_of_ble_eq_true rfl, Nat.le_of_ble_eq_true rfl⟩) hw rfl (Nat.le_of_ble_eq_true rfl) (Nat.le_of_ble_eq_true rfl) (fun H locs hw => ?_)
  refine W.eq (g2 := F0 m 76 ls [.ref (m_sz M20), .int 3, .ref v21]) rfl ?_
  have hw : w_W G z22 r s H locs := hw
  refine gx_aast E hw (by decide) dX8_init_76 (fun M23 H locs _ hw => ?_)
  refine lv_iinc (v := 4) (lv' := [(1, .int 4), (0, .ref this)]) hx hb dX8_init_77 hl (k := 0) rfl rfl (by decide) rfl (fun ls hl => ?_)
  refine lv_goto (tgt := 58) hx hb dX8_init_80 (by decide) ?_
  refine lv_iload_n hx hb dX8_init_58 rfl (lv_at hl 0 rfl) ?_
  refine lv_bipush (v := 10) hx hb dX8_init_59 (by decide) ?_
  refine lv_icmp_ge (tgt := 83) hx hb dX8_init_61 (by decide) (fun h9 => absurd h9 (by decide)) (fun _ => ?_)
  refine lv_aload_n hx hb dX8_init_64 rfl (lv_at hl 1 rfl) ?_
  refine gx_getR E hw kF_Town_20_7 (by decide) dX8_init_65 (fun v24 _ => ?_)
  refine lv_iload_n hx hb dX8_init_68 rfl (lv_at hl 0 rfl) ?_
  refine gx_new E hw kN_Town_18 (Nat.le_of_ble_eq_true rfl) (Nat.le_of_ble_eq_true rfl) dX8_init_69 (fun H hw => ?_)
  refine W.widen (k := 23) (n := 752) (Nat.le_of_ble_eq_true rfl) (Nat.le_of_ble_eq_true rfl) ?_
  refine lv_dup hx hb dX8_init_72 rfl ?_
  refine W_bind fun z25 hz => ?_
  refine w_after (cells1 := 25) (slots1 := 772) (w_runI E kI_Town_42 kc_X5_init (t_Person_init l hfl G N (m_sz M23) (m_new M23 (15, 0)) r ((fun z => (.inl none, z, r)) z25) (by rw [hz]; rfl)) ⟨Nat.le_of_ble_eq_true rfl, Nat.le_of_ble_eq_true rfl⟩ hw rfl hl.1 rfl (Nat.le_of_ble_eq_true rfl) dX8_init_73 ⟨Nat.le_of_ble_eq_true rfl, Nat.le_of_ble_eq_true rfl⟩) hw rfl (Nat.le_of_ble_eq_true rfl) (Nat.le_of_ble_eq_true rfl) (fun H locs hw => ?_)
  refine W.eq (g2 := F0 m 76 ls [.ref (m_sz M23), .int 4, .ref v24]) rfl ?_
  have hw : w_W G z25 r s H locs := hw
  refine gx_aast E hw (by decide) dX8_init_76 (fun M26 H locs _ hw => ?_)
  refine lv_iinc (v := 5) (lv' := [(1, .int 5), (0, .ref this)]) hx hb dX8_init_77 hl (k := 0) rfl rfl (by decide) rfl (fun ls hl => ?_)
  refine lv_goto (tgt := 58) hx hb dX8_init_80 (by decide) ?_
  refine lv_iload_n hx hb dX8_init_58 rfl (lv_at hl 0 rfl) ?_
  refine lv_bipush (v := 10) hx hb dX8_init_59 (by decide) ?_
  refine lv_icmp_ge (tgt := 83) hx hb dX8_init_61 (by decide) (fun h9 => absurd h9 (by decide)) (fun _ => ?_)
  refine lv_aload_n hx hb dX8_init_64 rfl (lv_at hl 1 rfl) ?_
  refine gx_getR E hw kF_Town_20_7 (by decide) dX8_init_65 (fun v27 _ => ?_)
  refine lv_iload_n hx hb dX8_init_68 rfl (lv_at hl 0 rfl) ?_
  refine gx_new E hw kN_Town_18 (Nat.le_of_ble_eq_true rfl) (Nat.le_of_ble_eq_true rfl) dX8_init_69 (fun H hw => ?_)
  refine W.widen (k := 26) (n := 782) (Nat.le_of_ble_eq_true rfl) (Nat.le_of_ble_eq_true rfl) ?_
  refine lv_dup hx hb dX8_init_72 rfl ?_
  refine W_bind fun z28 hz => ?_
  refine w_after (cells1 := 28) (slots1 := 802) (w_runI E kI_Town_42 kc_X5_init (t_Person_init l hfl G N (m_sz M26) (m_new M26 (15, 0)) r ((fun z => (.inl none, z, r)) z28) (by rw [hz]; rfl)) ⟨Nat.le_of_ble_eq_true rfl, Nat.le_of_ble_eq_true rfl⟩ hw rfl hl.1 rfl (Nat.le_of_ble_eq_true rfl) dX8_init_73 ⟨Nat.le_of_ble_eq_true rfl, Nat.le_of_ble_eq_true rfl⟩) hw rfl (Nat.le_of_ble_eq_true rfl) (Nat.le_of_ble_eq_true rfl) (fun H locs hw => ?_)
  refine W.eq (g2 := F0 m 76 ls [.ref (m_sz M26), .int 5, .ref v27]) rfl ?_
  have hw : w_W G z28 r s H locs := hw
  refine gx_aast E hw (by decide) dX8_init_76 (fun M29 H locs _ hw => ?_)
  refine lv_iinc (v := 6) (lv' := [(1, .int 6), (0, .ref this)]) hx hb dX8_init_77 hl (k := 0) rfl rfl (by decide) rfl (fun ls hl => ?_)
  refine lv_goto (tgt := 58) hx hb dX8_init_80 (by decide) ?_
  refine lv_iload_n hx hb dX8_init_58 rfl (lv_at hl 0 rfl) ?_
  refine lv_bipush (v := 10) hx hb dX8_init_59 (by decide) ?_
  refine lv_icmp_ge (tgt := 83) hx hb dX8_init_61 (by decide) (fun h9 => absurd h9 (by decide)) (fun _ => ?_)
  refine lv_aload_n hx hb dX8_init_64 rfl (lv_at hl 1 rfl) ?_
  refine gx_getR E hw kF_Town_20_7 (by decide) dX8_init_65 (fun v30 _ => ?_)
  refine lv_iload_n hx hb dX8_init_68 rfl (lv_at hl 0 rfl) ?_
  refine gx_new E hw kN_Town_18 (Nat.le_of_ble_eq_true rfl) (Nat.le_of_ble_eq_true rfl) dX8_init_69 (fun H hw => ?_)
  refine W.widen (k := 29) (n := 812) (Nat.le_of_ble_eq_true rfl) (Nat.le_of_ble_eq_true rfl) ?_
  refine lv_dup hx hb dX8_init_72 rfl ?_
  refine W_bind fun z31 hz => ?_
  refine w_after (cells1 := 31) (slots1 := 832) (w_runI E kI_Town_42 kc_X5_init (t_Person_init l hfl G N (m_sz M29) (m_new M29 (15, 0)) r ((fun z => (.inl none, z, r)) z31) (by rw [hz]; rfl)) ⟨Nat.le_of_ble_eq_true rfl, Nat.le_of_ble_eq_true rfl⟩ hw rfl hl.1 rfl (Nat.le_of_ble_eq_true rfl) dX8_init_73 ⟨Nat.le_of_ble_eq_true rfl, Nat.le_of_ble_eq_true rfl⟩) hw rfl (Nat.le_of_ble_eq_true rfl) (Nat.le_of_ble_eq_true rfl) (fun H locs hw => ?_)
  refine W.eq (g2 := F0 m 76 ls [.ref (m_sz M29), .int 6, .ref v30]) rfl ?_
  have hw : w_W G z31 r s H locs := hw
  refine gx_aast E hw (by decide) dX8_init_76 (fun M32 H locs _ hw => ?_)
  refine lv_iinc (v := 7) (lv' := [(1, .int 7), (0, .ref this)]) hx hb dX8_init_77 hl (k := 0) rfl rfl (by decide) rfl (fun ls hl => ?_)
  refine lv_goto (tgt := 58) hx hb dX8_init_80 (by decide) ?_
  refine lv_iload_n hx hb dX8_init_58 rfl (lv_at hl 0 rfl) ?_
  refine lv_bipush (v := 10) hx hb dX8_init_59 (by decide) ?_
  refine lv_icmp_ge (tgt := 83) hx hb dX8_init_61 (by decide) (fun h9 => absurd h9 (by decide)) (fun _ => ?_)
  refine lv_aload_n hx hb dX8_init_64 rfl (lv_at hl 1 rfl) ?_
  refine gx_getR E hw kF_Town_20_7 (by decide) dX8_init_65 (fun v33 _ => ?_)
  refine lv_iload_n hx hb dX8_init_68 rfl (lv_at hl 0 rfl) ?_
  refine gx_new E hw kN_Town_18 (Nat.le_of_ble_eq_true rfl) (Nat.le_of_ble_eq_true rfl) dX8_init_69 (fun H hw => ?_)
  refine W.widen (k := 32) (n := 842) (Nat.le_of_ble_eq_true rfl) (Nat.le_of_ble_eq_true rfl) ?_
  refine lv_dup hx hb dX8_init_72 rfl ?_
  refine W_bind fun z34 hz => ?_
  refine w_after (cells1 := 34) (slots1 := 862) (w_runI E kI_Town_42 kc_X5_init (t_Person_init l hfl G N (m_sz M32) (m_new M32 (15, 0)) r ((fun z => (.inl none, z, r)) z34) (by rw [hz]; rfl)) ⟨Nat.le_of_ble_eq_true rfl, Nat.le_of_ble_eq_true rfl⟩ hw rfl hl.1 rfl (Nat.le_of_ble_eq_true rfl) dX8_init_73 ⟨Nat.le_of_ble_eq_true rfl, Nat.le_of_ble_eq_true rfl⟩) hw rfl (Nat.le_of_ble_eq_true rfl) (Nat.le_of_ble_eq_true rfl) (fun H locs hw => ?_)
  refine W.eq (g2 := F0 m 76 ls [.ref (m_sz M32), .int 7, .ref v33]) rfl ?_
  have hw : w_W G z34 r s H locs := hw
  refine gx_aast E hw (by decide) dX8_init_76 (fun M35 H locs _ hw => ?_)
  refine lv_iinc (v := 8) (lv' := [(1, .int 8), (0, .ref this)]) hx hb dX8_init_77 hl (k := 0) rfl rfl (by decide) rfl (fun ls hl => ?_)
  refine lv_goto (tgt := 58) hx hb dX8_init_80 (by decide) ?_
  refine lv_iload_n hx hb dX8_init_58 rfl (lv_at hl 0 rfl) ?_
  refine lv_bipush (v := 10) hx hb dX8_init_59 (by decide) ?_
  refine lv_icmp_ge (tgt := 83) hx hb dX8_init_61 (by decide) (fun h9 => absurd h9 (by decide)) (fun _ => ?_)
  refine lv_aload_n hx hb dX8_init_64 rfl (lv_at hl 1 rfl) ?_
  refine gx_getR E hw kF_Town_20_7 (by decide) dX8_init_65 (fun v36 _ => ?_)
  refine lv_iload_n hx hb dX8_init_68 rfl (lv_at hl 0 rfl) ?_
  refine gx_new E hw kN_Town_18 (Nat.le_of_ble_eq_true rfl) (Nat.le_of_ble_eq_true rfl) dX8_init_69 (fun H hw => ?_)
  refine W.widen (k := 35) (n := 872) (Nat.le_of_ble_eq_true rfl) (Nat.le_of_ble_eq_true rfl) ?_
  refine lv_dup hx hb dX8_init_72 rfl ?_
  refine W_bind fun z37 hz => ?_
  refine w_after (cells1 := 37) (slots1 := 892) (w_runI E kI_Town_42 kc_X5_init (t_Person_init l hfl G N (m_sz M35) (m_new M35 (15, 0)) r ((fun z => (.inl none, z, r)) z37) (by rw [hz]; rfl)) ⟨Nat.le_of_ble_eq_true rfl, Nat.le_of_ble_eq_true rfl⟩ hw rfl hl.1 rfl (Nat.le_of_ble_eq_true rfl) dX8_init_73 ⟨Nat.le_of_ble_eq_true rfl, Nat.le_of_ble_eq_true rfl⟩) hw rfl (Nat.le_of_ble_eq_true rfl) (Nat.le_of_ble_eq_true rfl) (fun H locs hw => ?_)
  refine W.eq (g2 := F0 m 76 ls [.ref (m_sz M35), .int 8, .ref v36]) rfl ?_
  have hw : w_W G z37 r s H locs := hw
  refine gx_aast E hw (by decide) dX8_init_76 (fun M38 H locs _ hw => ?_)
  refine lv_iinc (v := 9) (lv' := [(1, .int 9), (0, .ref this)]) hx hb dX8_init_77 hl (k := 0) rfl rfl (by decide) rfl (fun ls hl => ?_)
  refine lv_goto (tgt := 58) hx hb dX8_init_80 (by decide) ?_
  refine lv_iload_n hx hb dX8_init_58 rfl (lv_at hl 0 rfl) ?_
  refine lv_bipush (v := 10) hx hb dX8_init_59 (by decide) ?_
  refine lv_icmp_ge (tgt := 83) hx hb dX8_init_61 (by decide) (fun h9 => absurd h9 (by decide)) (fun _ => ?_)
  refine lv_aload_n hx hb dX8_init_64 rfl (lv_at hl 1 rfl) ?_
  refine gx_getR E hw kF_Town_20_7 (by decide) dX8_init_65 (fun v39 _ => ?_)
  refine lv_iload_n hx hb dX8_init_68 rfl (lv_at hl 0 rfl) ?_
  refine gx_new E hw kN_Town_18 (Nat.le_of_ble_eq_true rfl) (Nat.le_of_ble_eq_true rfl) dX8_init_69 (fun H hw => ?_)
  refine W.widen (k := 38) (n := 902) (Nat.le_of_ble_eq_true rfl) (Nat.le_of_ble_eq_true rfl) ?_
  refine lv_dup hx hb dX8_init_72 rfl ?_
  refine W_bind fun z40 hz => ?_
  refine w_after (cells1 := 40) (slots1 := 922) (w_runI E kI_Town_42 kc_X5_init (t_Person_init l hfl G N (m_sz M38) (m_new M38 (15, 0)) r ((fun z => (.inl none, z, r)) z40) (by rw [hz]; rfl)) ⟨Nat.le_of_ble_eq_true rfl, Nat.le_of_ble_eq_true rfl⟩ hw rfl hl.1 rfl (Nat.le_of_ble_eq_true rfl) dX8_init_73 ⟨Nat.le_of_ble_eq_true rfl, Nat.le_of_ble_eq_true rfl⟩) hw rfl (Nat.le_of_ble_eq_true rfl) (Nat.le_of_ble_eq_true rfl) (fun H locs hw => ?_)
  refine W.eq (g2 := F0 m 76 ls [.ref (m_sz M38), .int 9, .ref v39]) rfl ?_
  have hw : w_W G z40 r s H locs := hw
  refine gx_aast E hw (by decide) dX8_init_76 (fun M41 H locs _ hw => ?_)
  refine lv_iinc (v := 10) (lv' := [(1, .int 10), (0, .ref this)]) hx hb dX8_init_77 hl (k := 0) rfl rfl (by decide) rfl (fun ls hl => ?_)
  refine lv_goto (tgt := 58) hx hb dX8_init_80 (by decide) ?_
  refine lv_iload_n hx hb dX8_init_58 rfl (lv_at hl 0 rfl) ?_
  refine lv_bipush (v := 10) hx hb dX8_init_59 (by decide) ?_
  refine lv_icmp_ge (tgt := 83) hx hb dX8_init_61 (by decide) (fun _ => ?_) (fun h9 => absurd (by decide) h9)
  exact p_vret E hw hr (Nat.le_of_ble_eq_true rfl) (Nat.le_of_ble_eq_true rfl) rfl dX8_init_83
set_option maxHeartbeats 4000000 in
set_option maxRecDepth 100000 in
theorem t_Years_init (l : Launch) (hfl : l.stackTraces = false) (G : wG) (this : Nat) (M : Mem) (r : Rho) : Ctr l yX10_init (wWs yX10_init cX10_init 1 none) rm_Years_init rm_Years_init.cells rm_Years_init.slots G [.ref this] M r ((f_Years_init this M).map (fun z => (.inl none, z, r))) := by
  refine Ctr.ofF (own := "CheekTown$Years") (by decide +kernel) hfl rfl (Nat.le_of_ble_eq_true rfl) (fun p e s m args below meth c E hno hr hnm hw ls hl => ?_)
  obtain ⟨hx, hb, hts, hown, hml, hTT, -⟩ := id E
  have hl : lv_has ls 1 [(0, .ref this)] := hl
  obtain ⟨H, hH⟩ : ∃ H, H = s.heap := ⟨_, rfl⟩
  obtain ⟨locs, hlo⟩ : ∃ L : List Loc, L = [] := ⟨_, rfl⟩
  rw [← hH, ← hlo]
  rw [← hlo] at hw
  replace hw : w_W G M r s H locs := by rw [hH]; exact hw
  unfold f_Years_init
  refine lv_aload_n hx hb dX10_init_0 rfl (lv_at hl 0 rfl) ?_
  refine W.objInit hx hb hown (hts _ kO_Years) (hts _ kO_i) (hts _ kO_c) rfl (by rw [hml]; exact hl.1) rfl dX10_init_1 (Nat.le_of_ble_eq_true rfl) (Nat.le_of_ble_eq_true rfl) ?_
  refine W.eq (g2 := F0 m 4 ls []) rfl ?_
  refine lv_aload_n hx hb dX10_init_4 rfl (lv_at hl 0 rfl) ?_
  refine lv_bipush (v := 10) hx hb dX10_init_5 (by decide) ?_
  refine gx_newI E hw (Nat.le_of_ble_eq_true rfl) kAC_I (Nat.le_of_ble_eq_true rfl) (Nat.le_of_ble_eq_true rfl) dX10_init_7 (fun z1 H _ _ hw => ?_)
  refine W.widen (k := 1) (n := 10) (Nat.le_of_ble_eq_true rfl) (Nat.le_of_ble_eq_true rfl) ?_
  refine gx_putFR E hw kF_Years_9_9 kT_9_1 hnm ⟨_, _, _, rfl, rfl⟩ rfl rfl (by decide) dX10_init_9 (fun M2 H locs _ hw => ?_)
  refine lv_aload_n hx hb dX10_init_12 rfl (lv_at hl 0 rfl) ?_
  refine lv_bipush (v := 10) hx hb dX10_init_13 (by decide) ?_
  refine gx_newI E hw (Nat.le_of_ble_eq_true rfl) kAC_I (Nat.le_of_ble_eq_true rfl) (Nat.le_of_ble_eq_true rfl) dX10_init_15 (fun z3 H _ _ hw => ?_)
  refine W.widen (k := 2) (n := 20) (Nat.le_of_ble_eq_true rfl) (Nat.le_of_ble_eq_true rfl) ?_
  refine gx_putR E hw kF_Years_15_9 kT_9_2 rfl rfl (by decide) dX10_init_17 (fun M4 H locs _ hw => ?_)
  refine lv_aload_n hx hb dX10_init_20 rfl (lv_at hl 0 rfl) ?_
  refine lv_bipush (v := 10) hx hb dX10_init_21 (by decide) ?_
  refine gx_newI E hw (Nat.le_of_ble_eq_true rfl) kAC_I (Nat.le_of_ble_eq_true rfl) (Nat.le_of_ble_eq_true rfl) dX10_init_23 (fun z5 H _ _ hw => ?_)
  refine W.widen (k := 3) (n := 30) (Nat.le_of_ble_eq_true rfl) (Nat.le_of_ble_eq_true rfl) ?_
  refine gx_putR E hw kF_Years_18_9 kT_9_3 rfl rfl (by decide) dX10_init_25 (fun M6 H locs _ hw => ?_)
  refine lv_aload_n hx hb dX10_init_28 rfl (lv_at hl 0 rfl) ?_
  refine lv_bipush (v := 10) hx hb dX10_init_29 (by decide) ?_
  refine gx_newI E hw (Nat.le_of_ble_eq_true rfl) kAC_I (Nat.le_of_ble_eq_true rfl) (Nat.le_of_ble_eq_true rfl) dX10_init_31 (fun z7 H _ _ hw => ?_)
  refine W.widen (k := 4) (n := 40) (Nat.le_of_ble_eq_true rfl) (Nat.le_of_ble_eq_true rfl) ?_
  refine gx_putR E hw kF_Years_21_9 kT_9_4 rfl rfl (by decide) dX10_init_33 (fun M8 H locs _ hw => ?_)
  refine lv_aload_n hx hb dX10_init_36 rfl (lv_at hl 0 rfl) ?_
  refine lv_bipush (v := 32) hx hb dX10_init_37 (by decide) ?_
  refine gx_newI E hw (Nat.le_of_ble_eq_true rfl) kAC_I (Nat.le_of_ble_eq_true rfl) (Nat.le_of_ble_eq_true rfl) dX10_init_39 (fun z9 H _ _ hw => ?_)
  refine W.widen (k := 5) (n := 72) (Nat.le_of_ble_eq_true rfl) (Nat.le_of_ble_eq_true rfl) ?_
  refine gx_putFR E hw kF_Years_24_9 kT_9_5 hnm ⟨_, _, _, rfl, rfl⟩ rfl rfl (by decide) dX10_init_41 (fun M10 H locs _ hw => ?_)
  exact p_vret E hw hr (Nat.le_of_ble_eq_true rfl) (Nat.le_of_ble_eq_true rfl) rfl dX10_init_44
set_option maxHeartbeats 4000000 in
set_option maxRecDepth 100000 in
theorem t_Seating_init (l : Launch) (hfl : l.stackTraces = false) (G : wG) (this : Nat) (M : Mem) (r : Rho) : Ctr l yX6_init (wWs yX6_init cX6_init 1 none) rm_Seating_init rm_Seating_init.cells rm_Seating_init.slots G [.ref this] M r ((f_Seating_init this M).map (fun z => (.inl none, z, r))) := by
  refine Ctr.ofF (own := "CheekTown$Seating") (by decide +kernel) hfl rfl (Nat.le_of_ble_eq_true rfl) (fun p e s m args below meth c E hno hr hnm hw ls hl => ?_)
  obtain ⟨hx, hb, hts, hown, hml, hTT, -⟩ := id E
  have hl : lv_has ls 1 [(0, .ref this)] := hl
  obtain ⟨H, hH⟩ : ∃ H, H = s.heap := ⟨_, rfl⟩
  obtain ⟨locs, hlo⟩ : ∃ L : List Loc, L = [] := ⟨_, rfl⟩
  rw [← hH, ← hlo]
  rw [← hlo] at hw
  replace hw : w_W G M r s H locs := by rw [hH]; exact hw
  unfold f_Seating_init
  refine lv_aload_n hx hb dX6_init_0 rfl (lv_at hl 0 rfl) ?_
  refine W.objInit hx hb hown (hts _ kO_Seating) (hts _ kO_i) (hts _ kO_c) rfl (by rw [hml]; exact hl.1) rfl dX6_init_1 (Nat.le_of_ble_eq_true rfl) (Nat.le_of_ble_eq_true rfl) ?_
  refine W.eq (g2 := F0 m 4 ls []) rfl ?_
  refine lv_aload_n hx hb dX6_init_4 rfl (lv_at hl 0 rfl) ?_
  refine lv_bipush (v := 8) hx hb dX6_init_5 (by decide) ?_
  refine gx_newI E hw (Nat.le_of_ble_eq_true rfl) kAC_I (Nat.le_of_ble_eq_true rfl) (Nat.le_of_ble_eq_true rfl) dX6_init_7 (fun z1 H _ _ hw => ?_)
  refine W.widen (k := 1) (n := 8) (Nat.le_of_ble_eq_true rfl) (Nat.le_of_ble_eq_true rfl) ?_
  refine gx_putFR E hw kF_Seating_11_6 kT_6_2 hnm ⟨_, _, _, rfl, rfl⟩ rfl rfl (by decide) dX6_init_9 (fun M2 H locs _ hw => ?_)
  refine lv_aload_n hx hb dX6_init_12 rfl (lv_at hl 0 rfl) ?_
  refine lv_bipush (v := 8) hx hb dX6_init_13 (by decide) ?_
  refine gx_newI E hw (Nat.le_of_ble_eq_true rfl) kAC_I (Nat.le_of_ble_eq_true rfl) (Nat.le_of_ble_eq_true rfl) dX6_init_15 (fun z3 H _ _ hw => ?_)
  refine W.widen (k := 2) (n := 16) (Nat.le_of_ble_eq_true rfl) (Nat.le_of_ble_eq_true rfl) ?_
  refine gx_putFR E hw kF_Seating_15_6 kT_6_4 hnm ⟨_, _, _, rfl, rfl⟩ rfl rfl (by decide) dX6_init_17 (fun M4 H locs _ hw => ?_)
  refine lv_aload_n hx hb dX6_init_20 rfl (lv_at hl 0 rfl) ?_
  refine lv_bipush (v := 8) hx hb dX6_init_21 (by decide) ?_
  refine gx_newI E hw (Nat.le_of_ble_eq_true rfl) kAC_I (Nat.le_of_ble_eq_true rfl) (Nat.le_of_ble_eq_true rfl) dX6_init_23 (fun z5 H _ _ hw => ?_)
  refine W.widen (k := 3) (n := 24) (Nat.le_of_ble_eq_true rfl) (Nat.le_of_ble_eq_true rfl) ?_
  refine gx_putFR E hw kF_Seating_18_6 kT_6_5 hnm ⟨_, _, _, rfl, rfl⟩ rfl rfl (by decide) dX6_init_25 (fun M6 H locs _ hw => ?_)
  exact p_vret E hw hr (Nat.le_of_ble_eq_true rfl) (Nat.le_of_ble_eq_true rfl) rfl dX6_init_28
set_option maxHeartbeats 4000000 in
set_option maxRecDepth 100000 in
theorem t_CT_init (l : Launch) (hfl : l.stackTraces = false) (G : wG) (N : Nat) (this : Nat) (M : Mem) (r : Rho) : Ctr l yX11_init (wWs yX11_init cX11_init 2 none) rm_CT_init rm_CT_init.cells rm_CT_init.slots G [.ref this] M r ((f_CT_init N this M).map (fun z => (.inl none, z, r))) := by
  refine Ctr.ofF (own := "CheekTown") (by decide +kernel) hfl rfl (Nat.le_of_ble_eq_true rfl) (fun p e s m args below meth c E hno hr hnm hw ls hl => ?_)
  obtain ⟨hx, hb, hts, hown, hml, hTT, -⟩ := id E
  have hl : lv_has ls 2 [(0, .ref this)] := hl
  obtain ⟨H, hH⟩ : ∃ H, H = s.heap := ⟨_, rfl⟩
  obtain ⟨locs, hlo⟩ : ∃ L : List Loc, L = [] := ⟨_, rfl⟩
  rw [← hH, ← hlo]
  rw [← hlo] at hw
  replace hw : w_W G M r s H locs := by rw [hH]; exact hw
  unfold f_CT_init
  refine lv_aload_n hx hb dX11_init_0 rfl (lv_at hl 0 rfl) ?_
  refine W.objInit hx hb hown (hts _ kO_CT) (hts _ kO_i) (hts _ kO_c) rfl (by rw [hml]; exact hl.1) rfl dX11_init_1 (Nat.le_of_ble_eq_true rfl) (Nat.le_of_ble_eq_true rfl) ?_
  refine W.eq (g2 := F0 m 4 ls []) rfl ?_
  refine lv_aload_n hx hb dX11_init_4 rfl (lv_at hl 0 rfl) ?_
  refine lv_sipush (v := 400) hx hb dX11_init_5 (by decide) ?_
  refine gx_newI E hw (Nat.le_of_ble_eq_true rfl) kAC_I (Nat.le_of_ble_eq_true rfl) (Nat.le_of_ble_eq_true rfl) dX11_init_8 (fun z1 H _ _ hw => ?_)
  refine W.widen (k := 1) (n := 400) (Nat.le_of_ble_eq_true rfl) (Nat.le_of_ble_eq_true rfl) ?_
  refine gx_putFR E hw kF_CT_9_10 kT_10_0 hnm ⟨_, _, _, rfl, rfl⟩ rfl rfl (by decide) dX11_init_10 (fun M2 H locs _ hw => ?_)
  refine lv_aload_n hx hb dX11_init_13 rfl (lv_at hl 0 rfl) ?_
  refine lv_iconst (v := (-1)) hx hb dX11_init_14 (by decide) ?_
  refine gx_putI E hw kF_CT_13_10 kT_10_2 (by decide) dX11_init_15 (fun M3 H locs _ hw => ?_)
  refine lv_aload_n hx hb dX11_init_18 rfl (lv_at hl 0 rfl) ?_
  refine gx_new E hw kN_CT_17 (Nat.le_of_ble_eq_true rfl) (Nat.le_of_ble_eq_true rfl) dX11_init_19 (fun H hw => ?_)
  refine W.widen (k := 2) (n := 415) (Nat.le_of_ble_eq_true rfl) (Nat.le_of_ble_eq_true rfl) ?_
  refine lv_dup hx hb dX11_init_22 rfl ?_
  refine W_bind fun z4 hz => ?_
  refine w_after (cells1 := 42) (slots1 := 1337) (w_runI E kI_CT_19 kc_X8_init (t_Town_init l hfl G N (m_sz M3) (m_new M3 (17, 0)) r ((fun z => (.inl none, z, r)) z4) (by rw [hz]; rfl)) ⟨Nat.le_of_ble_eq_true rfl, Nat.le_of_ble_eq_true rfl⟩ hw rfl hl.1 rfl (Nat.le_of_ble_eq_true rfl) dX11_init_23 ⟨Nat.le_of_ble_eq_true rfl, Nat.le_of_ble_eq_true rfl⟩) hw rfl (Nat.le_of_ble_eq_true rfl) (Nat.le_of_ble_eq_true rfl) (fun H locs hw => ?_)
  refine W.eq (g2 := F0 m 26 ls [.ref (m_sz M3), .ref this]) rfl ?_
  have hw : w_W G z4 r s H locs := hw
  refine gx_putFR E hw kF_CT_20_10 kT_10_3 hnm ⟨_, _, _, rfl, rfl⟩ rfl rfl (by decide) dX11_init_26 (fun M5 H locs _ hw => ?_)
  refine lv_aload_n hx hb dX11_init_29 rfl (lv_at hl 0 rfl) ?_
  refine gx_new E hw kN_CT_17 (Nat.le_of_ble_eq_true rfl) (Nat.le_of_ble_eq_true rfl) dX11_init_30 (fun H hw => ?_)
  refine W.widen (k := 43) (n := 1352) (Nat.le_of_ble_eq_true rfl) (Nat.le_of_ble_eq_true rfl) ?_
  refine lv_dup hx hb dX11_init_33 rfl ?_
  refine W_bind fun z6 hz => ?_
  refine w_after (cells1 := 83) (slots1 := 2274) (w_runI E kI_CT_19 kc_X8_init (t_Town_init l hfl G N (m_sz M5) (m_new M5 (17, 0)) r ((fun z => (.inl none, z, r)) z6) (by rw [hz]; rfl)) ⟨Nat.le_of_ble_eq_true rfl, Nat.le_of_ble_eq_true rfl⟩ hw rfl hl.1 rfl (Nat.le_of_ble_eq_true rfl) dX11_init_34 ⟨Nat.le_of_ble_eq_true rfl, Nat.le_of_ble_eq_true rfl⟩) hw rfl (Nat.le_of_ble_eq_true rfl) (Nat.le_of_ble_eq_true rfl) (fun H locs hw => ?_)
  refine W.eq (g2 := F0 m 37 ls [.ref (m_sz M5), .ref this]) rfl ?_
  have hw : w_W G z6 r s H locs := hw
  refine gx_putFR E hw kF_CT_24_10 kT_10_4 hnm ⟨_, _, _, rfl, rfl⟩ rfl rfl (by decide) dX11_init_37 (fun M7 H locs _ hw => ?_)
  refine lv_aload_n hx hb dX11_init_40 rfl (lv_at hl 0 rfl) ?_
  refine lv_bipush (v := 12) hx hb dX11_init_41 (by decide) ?_
  refine gx_newR E hw (Or.inr ⟨rfl, rfl⟩) (Nat.le_of_ble_eq_true rfl) kCL_CT_17 (Nat.le_of_ble_eq_true rfl) (Nat.le_of_ble_eq_true rfl) dX11_init_43 (fun z8 H _ _ hw => ?_)
  refine W.widen (k := 84) (n := 2286) (Nat.le_of_ble_eq_true rfl) (Nat.le_of_ble_eq_true rfl) ?_
  refine gx_putFR E hw kF_CT_27_10 kT_10_6 hnm ⟨_, _, _, rfl, rfl⟩ rfl rfl (by decide) dX11_init_46 (fun M9 H locs _ hw => ?_)
  refine lv_aload_n hx hb dX11_init_49 rfl (lv_at hl 0 rfl) ?_
  refine gx_new E hw kN_CT_17 (Nat.le_of_ble_eq_true rfl) (Nat.le_of_ble_eq_true rfl) dX11_init_50 (fun H hw => ?_)
  refine W.widen (k := 85) (n := 2301) (Nat.le_of_ble_eq_true rfl) (Nat.le_of_ble_eq_true rfl) ?_
  refine lv_dup hx hb dX11_init_53 rfl ?_
  refine W_bind fun z10 hz => ?_
  refine w_after (cells1 := 125) (slots1 := 3223) (w_runI E kI_CT_19 kc_X8_init (t_Town_init l hfl G N (m_sz M9) (m_new M9 (17, 0)) r ((fun z => (.inl none, z, r)) z10) (by rw [hz]; rfl)) ⟨Nat.le_of_ble_eq_true rfl, Nat.le_of_ble_eq_true rfl⟩ hw rfl hl.1 rfl (Nat.le_of_ble_eq_true rfl) dX11_init_54 ⟨Nat.le_of_ble_eq_true rfl, Nat.le_of_ble_eq_true rfl⟩) hw rfl (Nat.le_of_ble_eq_true rfl) (Nat.le_of_ble_eq_true rfl) (fun H locs hw => ?_)
  refine W.eq (g2 := F0 m 57 ls [.ref (m_sz M9), .ref this]) rfl ?_
  have hw : w_W G z10 r s H locs := hw
  refine gx_putFR E hw kF_CT_31_10 kT_10_8 hnm ⟨_, _, _, rfl, rfl⟩ rfl rfl (by decide) dX11_init_57 (fun M11 H locs _ hw => ?_)
  refine lv_aload_n hx hb dX11_init_60 rfl (lv_at hl 0 rfl) ?_
  refine gx_new E hw kN_CT_34 (Nat.le_of_ble_eq_true rfl) (Nat.le_of_ble_eq_true rfl) dX11_init_61 (fun H hw => ?_)
  refine W.widen (k := 126) (n := 3229) (Nat.le_of_ble_eq_true rfl) (Nat.le_of_ble_eq_true rfl) ?_
  refine lv_dup hx hb dX11_init_64 rfl ?_
  refine W_bind fun z12 hz => ?_
  refine w_after (cells1 := 131) (slots1 := 3301) (w_runIN E kIN_CT_36 kc_X10_init (t_Years_init l hfl G (m_sz M11) (m_new M11 (19, 0)) r ((fun z => (.inl none, z, r)) z12) (by rw [hz]; rfl)) ⟨Nat.le_of_ble_eq_true rfl, Nat.le_of_ble_eq_true rfl⟩ hw rfl hl.1 rfl (Nat.le_of_ble_eq_true rfl) dX11_init_65 ⟨Nat.le_of_ble_eq_true rfl, Nat.le_of_ble_eq_true rfl⟩) hw rfl (Nat.le_of_ble_eq_true rfl) (Nat.le_of_ble_eq_true rfl) (fun H locs hw => ?_)
  refine W.eq (g2 := F0 m 68 ls [.ref (m_sz M11), .ref this]) rfl ?_
  have hw : w_W G z12 r s H locs := hw
  refine gx_putFR E hw kF_CT_37_10 kT_10_9 hnm ⟨_, _, _, rfl, rfl⟩ rfl rfl (by decide) dX11_init_68 (fun M13 H locs _ hw => ?_)
  refine lv_aload_n hx hb dX11_init_71 rfl (lv_at hl 0 rfl) ?_
  refine gx_new E hw kN_CT_41 (Nat.le_of_ble_eq_true rfl) (Nat.le_of_ble_eq_true rfl) dX11_init_72 (fun H hw => ?_)
  refine W.widen (k := 132) (n := 3307) (Nat.le_of_ble_eq_true rfl) (Nat.le_of_ble_eq_true rfl) ?_
  refine lv_dup hx hb dX11_init_75 rfl ?_
  refine W_bind fun z14 hz => ?_
  refine w_after (cells1 := 135) (slots1 := 3331) (w_runIN E kIN_CT_43 kc_X6_init (t_Seating_init l hfl G (m_sz M13) (m_new M13 (16, 0)) r ((fun z => (.inl none, z, r)) z14) (by rw [hz]; rfl)) ⟨Nat.le_of_ble_eq_true rfl, Nat.le_of_ble_eq_true rfl⟩ hw rfl hl.1 rfl (Nat.le_of_ble_eq_true rfl) dX11_init_76 ⟨Nat.le_of_ble_eq_true rfl, Nat.le_of_ble_eq_true rfl⟩) hw rfl (Nat.le_of_ble_eq_true rfl) (Nat.le_of_ble_eq_true rfl) (fun H locs hw => ?_)
  refine W.eq (g2 := F0 m 79 ls [.ref (m_sz M13), .ref this]) rfl ?_
  have hw : w_W G z14 r s H locs := hw
  refine gx_putFR E hw kF_CT_44_10 kT_10_10 hnm ⟨_, _, _, rfl, rfl⟩ rfl rfl (by decide) dX11_init_79 (fun M15 H locs _ hw => ?_)
  refine lv_iconst (v := 0) hx hb dX11_init_82 (by decide) ?_
  refine lv_istore_n (lv' := [(1, .int 0), (0, .ref this)]) hx hb dX11_init_83 rfl hl (by decide) rfl (fun ls hl => ?_)
  refine lv_iload_n hx hb dX11_init_84 rfl (lv_at hl 0 rfl) ?_
  refine lv_bipush (v := 12) hx hb dX11_init_85 (by decide) ?_
  refine lv_icmp_ge (tgt := 109) hx hb dX11_init_87 (by decide) (fun h9 => absurd h9 (by decide)) (fun _ => ?_)
  refine lv_aload_n hx hb dX11_init_90 rfl (lv_at hl 1 rfl) ?_
  refine gx_getR E hw kF_CT_27_10 (by decide) dX11_init_91 (fun v16 _ => ?_)
  refine lv_iload_n hx hb dX11_init_94 rfl (lv_at hl 0 rfl) ?_
  refine gx_new E hw kN_CT_17 (Nat.le_of_ble_eq_true rfl) (Nat.le_of_ble_eq_true rfl) dX11_init_95 (fun H hw => ?_)
  refine W.widen (k := 136) (n := 3346) (Nat.le_of_ble_eq_true rfl) (Nat.le_of_ble_eq_true rfl) ?_
  refine lv_dup hx hb dX11_init_98 rfl ?_
  refine W_bind fun z17 hz => ?_
  refine w_after (cells1 := 176) (slots1 := 4268) (w_runI E kI_CT_19 kc_X8_init (t_Town_init l hfl G N (m_sz M15) (m_new M15 (17, 0)) r ((fun z => (.inl none, z, r)) z17) (by rw [hz]; rfl)) ⟨Nat.le_of_ble_eq_true rfl, Nat.le_of_ble_eq_true rfl⟩ hw rfl hl.1 rfl (Nat.le_of_ble_eq_true rfl) dX11_init_99 ⟨Nat.le_of_ble_eq_true rfl, Nat.le_of_ble_eq_true rfl⟩) hw rfl (Nat.le_of_ble_eq_true rfl) (Nat.le_of_ble_eq_true rfl) (fun H locs hw => ?_)
  refine W.eq (g2 := F0 m 102 ls [.ref (m_sz M15), .int 0, .ref v16]) rfl ?_
  have hw : w_W G z17 r s H locs := hw
  refine gx_aast E hw (by decide) dX11_init_102 (fun M18 H locs _ hw => ?_)
  refine lv_iinc (v := 1) (lv' := [(1, .int 1), (0, .ref this)]) hx hb dX11_init_103 hl (k := 0) rfl rfl (by decide) rfl (fun ls hl => ?_)
  refine lv_goto (tgt := 84) hx hb dX11_init_106 (by decide) ?_
  refine lv_iload_n hx hb dX11_init_84 rfl (lv_at hl 0 rfl) ?_
  refine lv_bipush (v := 12) hx hb dX11_init_85 (by decide) ?_
  refine lv_icmp_ge (tgt := 109) hx hb dX11_init_87 (by decide) (fun h9 => absurd h9 (by decide)) (fun _ => ?_)
  refine lv_aload_n hx hb dX11_init_90 rfl (lv_at hl 1 rfl) ?_
  refine gx_getR E hw kF_CT_27_10 (by decide) dX11_init_91 (fun v19 _ => ?_)
  refine lv_iload_n hx hb dX11_init_94 rfl (lv_at hl 0 rfl) ?_
  refine gx_new E hw kN_CT_17 (Nat.le_of_ble_eq_true rfl) (Nat.le_of_ble_eq_true rfl) dX11_init_95 (fun H hw => ?_)
  refine W.widen (k := 177) (n := 4283) (Nat.le_of_ble_eq_true rfl) (Nat.le_of_ble_eq_true rfl) ?_
  refine lv_dup hx hb dX11_init_98 rfl ?_
  refine W_bind fun z20 hz => ?_
  refine w_after (cells1 := 217) (slots1 := 5205) (w_runI E kI_CT_19 kc_X8_init (t_Town_init l hfl G N (m_sz M18) (m_new M18 (17, 0)) r ((fun z => (.inl none, z, r)) z20) (by rw [hz]; rfl)) ⟨Nat.le_of_ble_eq_true rfl, Nat.le_of_ble_eq_true rfl⟩ hw rfl hl.1 rfl (Nat.le_of_ble_eq_true rfl) dX11_init_99 ⟨Nat.le_of_ble_eq_true rfl, Nat.le_of_ble_eq_true rfl⟩) hw rfl (Nat.le_of_ble_eq_true rfl) (Nat.le_of_ble_eq_true rfl) (fun H locs hw => ?_)
  refine W.eq (g2 := F0 m 102 ls [.ref (m_sz M18), .int 1, .ref v19]) rfl ?_
  have hw : w_W G z20 r s H locs := hw
  refine gx_aast E hw (by decide) dX11_init_102 (fun M21 H locs _ hw => ?_)
  refine lv_iinc (v := 2) (lv' := [(1, .int 2), (0, .ref this)]) hx hb dX11_init_103 hl (k := 0) rfl rfl (by decide) rfl (fun ls hl => ?_)
  refine lv_goto (tgt := 84) hx hb dX11_init_106 (by decide) ?_
  refine lv_iload_n hx hb dX11_init_84 rfl (lv_at hl 0 rfl) ?_
  refine lv_bipush (v := 12) hx hb dX11_init_85 (by decide) ?_
  refine lv_icmp_ge (tgt := 109) hx hb dX11_init_87 (by decide) (fun h9 => absurd h9 (by decide)) (fun _ => ?_)
  refine lv_aload_n hx hb dX11_init_90 rfl (lv_at hl 1 rfl) ?_
  refine gx_getR E hw kF_CT_27_10 (by decide) dX11_init_91 (fun v22 _ => ?_)
  refine lv_iload_n hx hb dX11_init_94 rfl (lv_at hl 0 rfl) ?_
  refine gx_new E hw kN_CT_17 (Nat.le_of_ble_eq_true rfl) (Nat.le_of_ble_eq_true rfl) dX11_init_95 (fun H hw => ?_)
  refine W.widen (k := 218) (n := 5220) (Nat.le_of_ble_eq_true rfl) (Nat.le_of_ble_eq_true rfl) ?_
  refine lv_dup hx hb dX11_init_98 rfl ?_
  refine W_bind fun z23 hz => ?_
  refine w_after (cells1 := 258) (slots1 := 6142) (w_runI E kI_CT_19 kc_X8_init (t_Town_init l hfl G N (m_sz M21) (m_new M21 (17, 0)) r ((fun z => (.inl none, z, r)) z23) (by rw [hz]; rfl)) ⟨Nat.le_of_ble_eq_true rfl, Nat.le_of_ble_eq_true rfl⟩ hw rfl hl.1 rfl (Nat.le_of_ble_eq_true rfl) dX11_init_99 ⟨Nat.le_of_ble_eq_true rfl, Nat.le_of_ble_eq_true rfl⟩) hw rfl (Nat.le_of_ble_eq_true rfl) (Nat.le_of_ble_eq_true rfl) (fun H locs hw => ?_)
  refine W.eq (g2 := F0 m 102 ls [.ref (m_sz M21), .int 2, .ref v22]) rfl ?_
  have hw : w_W G z23 r s H locs := hw
  refine gx_aast E hw (by decide) dX11_init_102 (fun M24 H locs _ hw => ?_)
  refine lv_iinc (v := 3) (lv' := [(1, .int 3), (0, .ref this)]) hx hb dX11_init_103 hl (k := 0) rfl rfl (by decide) rfl (fun ls hl => ?_)
  refine lv_goto (tgt := 84) hx hb dX11_init_106 (by decide) ?_
  refine lv_iload_n hx hb dX11_init_84 rfl (lv_at hl 0 rfl) ?_
  refine lv_bipush (v := 12) hx hb dX11_init_85 (by decide) ?_
  refine lv_icmp_ge (tgt := 109) hx hb dX11_init_87 (by decide) (fun h9 => absurd h9 (by decide)) (fun _ => ?_)
  refine lv_aload_n hx hb dX11_init_90 rfl (lv_at hl 1 rfl) ?_
  refine gx_getR E hw kF_CT_27_10 (by decide) dX11_init_91 (fun v25 _ => ?_)
  refine lv_iload_n hx hb dX11_init_94 rfl (lv_at hl 0 rfl) ?_
  refine gx_new E hw kN_CT_17 (Nat.le_of_ble_eq_true rfl) (Nat.le_of_ble_eq_true rfl) dX11_init_95 (fun H hw => ?_)
  refine W.widen (k := 259) (n := 6157) (Nat.le_of_ble_eq_true rfl) (Nat.le_of_ble_eq_true rfl) ?_
  refine lv_dup hx hb dX11_init_98 rfl ?_
  refine W_bind fun z26 hz => ?_
  refine w_after (cells1 := 299) (slots1 := 7079) (w_runI E kI_CT_19 kc_X8_init (t_Town_init l hfl G N (m_sz M24) (m_new M24 (17, 0)) r ((fun z => (.inl none, z, r)) z26) (by rw [hz]; rfl)) ⟨Nat.le_of_ble_eq_true rfl, Nat.le_of_ble_eq_true rfl⟩ hw rfl hl.1 rfl (Nat.le_of_ble_eq_true rfl) dX11_init_99 ⟨Nat.le_of_ble_eq_true rfl, Nat.le_of_ble_eq_true rfl⟩) hw rfl (Nat.le_of_ble_eq_true rfl) (Nat.le_of_ble_eq_true rfl) (fun H locs hw => ?_)
  refine W.eq (g2 := F0 m 102 ls [.ref (m_sz M24), .int 3, .ref v25]) rfl ?_
  have hw : w_W G z26 r s H locs := hw
  refine gx_aast E hw (by decide) dX11_init_102 (fun M27 H locs _ hw => ?_)
  refine lv_iinc (v := 4) (lv' := [(1, .int 4), (0, .ref this)]) hx hb dX11_init_103 hl (k := 0) rfl rfl (by decide) rfl (fun ls hl => ?_)
  refine lv_goto (tgt := 84) hx hb dX11_init_106 (by decide) ?_
  refine lv_iload_n hx hb dX11_init_84 rfl (lv_at hl 0 rfl) ?_
  refine lv_bipush (v := 12) hx hb dX11_init_85 (by decide) ?_
  refine lv_icmp_ge (tgt := 109) hx hb dX11_init_87 (by decide) (fun h9 => absurd h9 (by decide)) (fun _ => ?_)
  refine lv_aload_n hx hb dX11_init_90 rfl (lv_at hl 1 rfl) ?_
  refine gx_getR E hw kF_CT_27_10 (by decide) dX11_init_91 (fun v28 _ => ?_)
  refine lv_iload_n hx hb dX11_init_94 rfl (lv_at hl 0 rfl) ?_
  refine gx_new E hw kN_CT_17 (Nat.le_of_ble_eq_true rfl) (Nat.le_of_ble_eq_true rfl) dX11_init_95 (fun H hw => ?_)
  refine W.widen (k := 300) (n := 7094) (Nat.le_of_ble_eq_true rfl) (Nat.le_of_ble_eq_true rfl) ?_
  refine lv_dup hx hb dX11_init_98 rfl ?_
  refine W_bind fun z29 hz => ?_
  refine w_after (cells1 := 340) (slots1 := 8016) (w_runI E kI_CT_19 kc_X8_init (t_Town_init l hfl G N (m_sz M27) (m_new M27 (17, 0)) r ((fun z => (.inl none, z, r)) z29) (by rw [hz]; rfl)) ⟨Nat.le_of_ble_eq_true rfl, Nat.le_of_ble_eq_true rfl⟩ hw rfl hl.1 rfl (Nat.le_of_ble_eq_true rfl) dX11_init_99 ⟨Nat.le_of_ble_eq_true rfl, Nat.le_of_ble_eq_true rfl⟩) hw rfl (Nat.le_of_ble_eq_true rfl) (Nat.le_of_ble_eq_true rfl) (fun H locs hw => ?_)
  refine W.eq (g2 := F0 m 102 ls [.ref (m_sz M27), .int 4, .ref v28]) rfl ?_
  have hw : w_W G z29 r s H locs := hw
  refine gx_aast E hw (by decide) dX11_init_102 (fun M30 H locs _ hw => ?_)
  refine lv_iinc (v := 5) (lv' := [(1, .int 5), (0, .ref this)]) hx hb dX11_init_103 hl (k := 0) rfl rfl (by decide) rfl (fun ls hl => ?_)
  refine lv_goto (tgt := 84) hx hb dX11_init_106 (by decide) ?_
  refine lv_iload_n hx hb dX11_init_84 rfl (lv_at hl 0 rfl) ?_
  refine lv_bipush (v := 12) hx hb dX11_init_85 (by decide) ?_
  refine lv_icmp_ge (tgt := 109) hx hb dX11_init_87 (by decide) (fun h9 => absurd h9 (by decide)) (fun _ => ?_)
  refine lv_aload_n hx hb dX11_init_90 rfl (lv_at hl 1 rfl) ?_
  refine gx_getR E hw kF_CT_27_10 (by decide) dX11_init_91 (fun v31 _ => ?_)
  refine lv_iload_n hx hb dX11_init_94 rfl (lv_at hl 0 rfl) ?_
  refine gx_new E hw kN_CT_17 (Nat.le_of_ble_eq_true rfl) (Nat.le_of_ble_eq_true rfl) dX11_init_95 (fun H hw => ?_)
  refine W.widen (k := 341) (n := 8031) (Nat.le_of_ble_eq_true rfl) (Nat.le_of_ble_eq_true rfl) ?_
  refine lv_dup hx hb dX11_init_98 rfl ?_
  refine W_bind fun z32 hz => ?_
  refine w_after (cells1 := 381) (slots1 := 8953) (w_runI E kI_CT_19 kc_X8_init (t_Town_init l hfl G N (m_sz M30) (m_new M30 (17, 0)) r ((fun z => (.inl none, z, r)) z32) (by rw [hz]; rfl)) ⟨Nat.le_of_ble_eq_true rfl, Nat.le_of_ble_eq_true rfl⟩ hw rfl hl.1 rfl (Nat.le_of_ble_eq_true rfl) dX11_init_99 ⟨Nat.le_of_ble_eq_true rfl, Nat.le_of_ble_eq_true rfl⟩) hw rfl (Nat.le_of_ble_eq_true rfl) (Nat.le_of_ble_eq_true rfl) (fun H locs hw => ?_)
  refine W.eq (g2 := F0 m 102 ls [.ref (m_sz M30), .int 5, .ref v31]) rfl ?_
  have hw : w_W G z32 r s H locs := hw
  refine gx_aast E hw (by decide) dX11_init_102 (fun M33 H locs _ hw => ?_)
  refine lv_iinc (v := 6) (lv' := [(1, .int 6), (0, .ref this)]) hx hb dX11_init_103 hl (k := 0) rfl rfl (by decide) rfl (fun ls hl => ?_)
  refine lv_goto (tgt := 84) hx hb dX11_init_106 (by decide) ?_
  refine lv_iload_n hx hb dX11_init_84 rfl (lv_at hl 0 rfl) ?_
  refine lv_bipush (v := 12) hx hb dX11_init_85 (by decide) ?_
  refine lv_icmp_ge (tgt := 109) hx hb dX11_init_87 (by decide) (fun h9 => absurd h9 (by decide)) (fun _ => ?_)
  refine lv_aload_n hx hb dX11_init_90 rfl (lv_at hl 1 rfl) ?_
  refine gx_getR E hw kF_CT_27_10 (by decide) dX11_init_91 (fun v34 _ => ?_)
  refine lv_iload_n hx hb dX11_init_94 rfl (lv_at hl 0 rfl) ?_
  refine gx_new E hw kN_CT_17 (Nat.le_of_ble_eq_true rfl) (Nat.le_of_ble_eq_true rfl) dX11_init_95 (fun H hw => ?_)
  refine W.widen (k := 382) (n := 8968) (Nat.le_of_ble_eq_true rfl) (Nat.le_of_ble_eq_true rfl) ?_
  refine lv_dup hx hb dX11_init_98 rfl ?_
  refine W_bind fun z35 hz => ?_
  refine w_after (cells1 := 422) (slots1 := 9890) (w_runI E kI_CT_19 kc_X8_init (t_Town_init l hfl G N (m_sz M33) (m_new M33 (17, 0)) r ((fun z => (.inl none, z, r)) z35) (by rw [hz]; rfl)) ⟨Nat.le_of_ble_eq_true rfl, Nat.le_of_ble_eq_true rfl⟩ hw rfl hl.1 rfl (Nat.le_of_ble_eq_true rfl) dX11_init_99 ⟨Nat.le_of_ble_eq_true rfl, Nat.le_of_ble_eq_true rfl⟩) hw rfl (Nat.le_of_ble_eq_true rfl) (Nat.le_of_ble_eq_true rfl) (fun H locs hw => ?_)
  refine W.eq (g2 := F0 m 102 ls [.ref (m_sz M33), .int 6, .ref v34]) rfl ?_
  have hw : w_W G z35 r s H locs := hw
  refine gx_aast E hw (by decide) dX11_init_102 (fun M36 H locs _ hw => ?_)
  refine lv_iinc (v := 7) (lv' := [(1, .int 7), (0, .ref this)]) hx hb dX11_init_103 hl (k := 0) rfl rfl (by decide) rfl (fun ls hl => ?_)
  refine lv_goto (tgt := 84) hx hb dX11_init_106 (by decide) ?_
  refine lv_iload_n hx hb dX11_init_84 rfl (lv_at hl 0 rfl) ?_
  refine lv_bipush (v := 12) hx hb dX11_init_85 (by decide) ?_
  refine lv_icmp_ge (tgt := 109) hx hb dX11_init_87 (by decide) (fun h9 => absurd h9 (by decide)) (fun _ => ?_)
  refine lv_aload_n hx hb dX11_init_90 rfl (lv_at hl 1 rfl) ?_
  refine gx_getR E hw kF_CT_27_10 (by decide) dX11_init_91 (fun v37 _ => ?_)
  refine lv_iload_n hx hb dX11_init_94 rfl (lv_at hl 0 rfl) ?_
  refine gx_new E hw kN_CT_17 (Nat.le_of_ble_eq_true rfl) (Nat.le_of_ble_eq_true rfl) dX11_init_95 (fun H hw => ?_)
  refine W.widen (k := 423) (n := 9905) (Nat.le_of_ble_eq_true rfl) (Nat.le_of_ble_eq_true rfl) ?_
  refine lv_dup hx hb dX11_init_98 rfl ?_
  refine W_bind fun z38 hz => ?_
  refine w_after (cells1 := 463) (slots1 := 10827) (w_runI E kI_CT_19 kc_X8_init (t_Town_init l hfl G N (m_sz M36) (m_new M36 (17, 0)) r ((fun z => (.inl none, z, r)) z38) (by rw [hz]; rfl)) ⟨Nat.le_of_ble_eq_true rfl, Nat.le_of_ble_eq_true rfl⟩ hw rfl hl.1 rfl (Nat.le_of_ble_eq_true rfl) dX11_init_99 ⟨Nat.le_of_ble_eq_true rfl, Nat.le_of_ble_eq_true rfl⟩) hw rfl (Nat.le_of_ble_eq_true rfl) (Nat.le_of_ble_eq_true rfl) (fun H locs hw => ?_)
  refine W.eq (g2 := F0 m 102 ls [.ref (m_sz M36), .int 7, .ref v37]) rfl ?_
  have hw : w_W G z38 r s H locs := hw
  refine gx_aast E hw (by decide) dX11_init_102 (fun M39 H locs _ hw => ?_)
  refine lv_iinc (v := 8) (lv' := [(1, .int 8), (0, .ref this)]) hx hb dX11_init_103 hl (k := 0) rfl rfl (by decide) rfl (fun ls hl => ?_)
  refine lv_goto (tgt := 84) hx hb dX11_init_106 (by decide) ?_
  refine lv_iload_n hx hb dX11_init_84 rfl (lv_at hl 0 rfl) ?_
  refine lv_bipush (v := 12) hx hb dX11_init_85 (by decide) ?_
  refine lv_icmp_ge (tgt := 109) hx hb dX11_init_87 (by decide) (fun h9 => absurd h9 (by decide)) (fun _ => ?_)
  refine lv_aload_n hx hb dX11_init_90 rfl (lv_at hl 1 rfl) ?_
  refine gx_getR E hw kF_CT_27_10 (by decide) dX11_init_91 (fun v40 _ => ?_)
  refine lv_iload_n hx hb dX11_init_94 rfl (lv_at hl 0 rfl) ?_
  refine gx_new E hw kN_CT_17 (Nat.le_of_ble_eq_true rfl) (Nat.le_of_ble_eq_true rfl) dX11_init_95 (fun H hw => ?_)
  refine W.widen (k := 464) (n := 10842) (Nat.le_of_ble_eq_true rfl) (Nat.le_of_ble_eq_true rfl) ?_
  refine lv_dup hx hb dX11_init_98 rfl ?_
  refine W_bind fun z41 hz => ?_
  refine w_after (cells1 := 504) (slots1 := 11764) (w_runI E kI_CT_19 kc_X8_init (t_Town_init l hfl G N (m_sz M39) (m_new M39 (17, 0)) r ((fun z => (.inl none, z, r)) z41) (by rw [hz]; rfl)) ⟨Nat.le_of_ble_eq_true rfl, Nat.le_of_ble_eq_true rfl⟩ hw rfl hl.1 rfl (Nat.le_of_ble_eq_true rfl) dX11_init_99 ⟨Nat.le_of_ble_eq_true rfl, Nat.le_of_ble_eq_true rfl⟩) hw rfl (Nat.le_of_ble_eq_true rfl) (Nat.le_of_ble_eq_true rfl) (fun H locs hw => ?_)
  refine W.eq (g2 := F0 m 102 ls [.ref (m_sz M39), .int 8, .ref v40]) rfl ?_
  have hw : w_W G z41 r s H locs := hw
  refine gx_aast E hw (by decide) dX11_init_102 (fun M42 H locs _ hw => ?_)
  refine lv_iinc (v := 9) (lv' := [(1, .int 9), (0, .ref this)]) hx hb dX11_init_103 hl (k := 0) rfl rfl (by decide) rfl (fun ls hl => ?_)
  refine lv_goto (tgt := 84) hx hb dX11_init_106 (by decide) ?_
  refine lv_iload_n hx hb dX11_init_84 rfl (lv_at hl 0 rfl) ?_
  refine lv_bipush (v := 12) hx hb dX11_init_85 (by decide) ?_
  refine lv_icmp_ge (tgt := 109) hx hb dX11_init_87 (by decide) (fun h9 => absurd h9 (by decide)) (fun _ => ?_)
  refine lv_aload_n hx hb dX11_init_90 rfl (lv_at hl 1 rfl) ?_
  refine gx_getR E hw kF_CT_27_10 (by decide) dX11_init_91 (fun v43 _ => ?_)
  refine lv_iload_n hx hb dX11_init_94 rfl (lv_at hl 0 rfl) ?_
  refine gx_new E hw kN_CT_17 (Nat.le_of_ble_eq_true rfl) (Nat.le_of_ble_eq_true rfl) dX11_init_95 (fun H hw => ?_)
  refine W.widen (k := 505) (n := 11779) (Nat.le_of_ble_eq_true rfl) (Nat.le_of_ble_eq_true rfl) ?_
  refine lv_dup hx hb dX11_init_98 rfl ?_
  refine W_bind fun z44 hz => ?_
  refine w_after (cells1 := 545) (slots1 := 12701) (w_runI E kI_CT_19 kc_X8_init (t_Town_init l hfl G N (m_sz M42) (m_new M42 (17, 0)) r ((fun z => (.inl none, z, r)) z44) (by rw [hz]; rfl)) ⟨Nat.le_of_ble_eq_true rfl, Nat.le_of_ble_eq_true rfl⟩ hw rfl hl.1 rfl (Nat.le_of_ble_eq_true rfl) dX11_init_99 ⟨Nat.le_of_ble_eq_true rfl, Nat.le_of_ble_eq_true rfl⟩) hw rfl (Nat.le_of_ble_eq_true rfl) (Nat.le_of_ble_eq_true rfl) (fun H locs hw => ?_)
  refine W.eq (g2 := F0 m 102 ls [.ref (m_sz M42), .int 9, .ref v43]) rfl ?_
  have hw : w_W G z44 r s H locs := hw
  refine gx_aast E hw (by decide) dX11_init_102 (fun M45 H locs _ hw => ?_)
  refine lv_iinc (v := 10) (lv' := [(1, .int 10), (0, .ref this)]) hx hb dX11_init_103 hl (k := 0) rfl rfl (by decide) rfl (fun ls hl => ?_)
  refine lv_goto (tgt := 84) hx hb dX11_init_106 (by decide) ?_
  refine lv_iload_n hx hb dX11_init_84 rfl (lv_at hl 0 rfl) ?_
  refine lv_bipush (v := 12) hx hb dX11_init_85 (by decide) ?_
  refine lv_icmp_ge (tgt := 109) hx hb dX11_init_87 (by decide) (fun h9 => absurd h9 (by decide)) (fun _ => ?_)
  refine lv_aload_n hx hb dX11_init_90 rfl (lv_at hl 1 rfl) ?_
  refine gx_getR E hw kF_CT_27_10 (by decide) dX11_init_91 (fun v46 _ => ?_)
  refine lv_iload_n hx hb dX11_init_94 rfl (lv_at hl 0 rfl) ?_
  refine gx_new E hw kN_CT_17 (Nat.le_of_ble_eq_true rfl) (Nat.le_of_ble_eq_true rfl) dX11_init_95 (fun H hw => ?_)
  refine W.widen (k := 546) (n := 12716) (Nat.le_of_ble_eq_true rfl) (Nat.le_of_ble_eq_true rfl) ?_
  refine lv_dup hx hb dX11_init_98 rfl ?_
  refine W_bind fun z47 hz => ?_
  refine w_after (cells1 := 586) (slots1 := 13638) (w_runI E kI_CT_19 kc_X8_init (t_Town_init l hfl G N (m_sz M45) (m_new M45 (17, 0)) r ((fun z => (.inl none, z, r)) z47) (by rw [hz]; rfl)) ⟨Nat.le_of_ble_eq_true rfl, Nat.le_of_ble_eq_true rfl⟩ hw rfl hl.1 rfl (Nat.le_of_ble_eq_true rfl) dX11_init_99 ⟨Nat.le_of_ble_eq_true rfl, Nat.le_of_ble_eq_true rfl⟩) hw rfl (Nat.le_of_ble_eq_true rfl) (Nat.le_of_ble_eq_true rfl) (fun H locs hw => ?_)
  refine W.eq (g2 := F0 m 102 ls [.ref (m_sz M45), .int 10, .ref v46]) rfl ?_
  have hw : w_W G z47 r s H locs := hw
  refine gx_aast E hw (by decide) dX11_init_102 (fun M48 H locs _ hw => ?_)
  refine lv_iinc (v := 11) (lv' := [(1, .int 11), (0, .ref this)]) hx hb dX11_init_103 hl (k := 0) rfl rfl (by decide) rfl (fun ls hl => ?_)
  refine lv_goto (tgt := 84) hx hb dX11_init_106 (by decide) ?_
  refine lv_iload_n hx hb dX11_init_84 rfl (lv_at hl 0 rfl) ?_
  refine lv_bipush (v := 12) hx hb dX11_init_85 (by decide) ?_
  refine lv_icmp_ge (tgt := 109) hx hb dX11_init_87 (by decide) (fun h9 => absurd h9 (by decide)) (fun _ => ?_)
  refine lv_aload_n hx hb dX11_init_90 rfl (lv_at hl 1 rfl) ?_
  refine gx_getR E hw kF_CT_27_10 (by decide) dX11_init_91 (fun v49 _ => ?_)
  refine lv_iload_n hx hb dX11_init_94 rfl (lv_at hl 0 rfl) ?_
  refine gx_new E hw kN_CT_17 (Nat.le_of_ble_eq_true rfl) (Nat.le_of_ble_eq_true rfl) dX11_init_95 (fun H hw => ?_)
  refine W.widen (k := 587) (n := 13653) (Nat.le_of_ble_eq_true rfl) (Nat.le_of_ble_eq_true rfl) ?_
  refine lv_dup hx hb dX11_init_98 rfl ?_
  refine W_bind fun z50 hz => ?_
  refine w_after (cells1 := 627) (slots1 := 14575) (w_runI E kI_CT_19 kc_X8_init (t_Town_init l hfl G N (m_sz M48) (m_new M48 (17, 0)) r ((fun z => (.inl none, z, r)) z50) (by rw [hz]; rfl)) ⟨Nat.le_of_ble_eq_true rfl, Nat.le_of_ble_eq_true rfl⟩ hw rfl hl.1 rfl (Nat.le_of_ble_eq_true rfl) dX11_init_99 ⟨Nat.le_of_ble_eq_true rfl, Nat.le_of_ble_eq_true rfl⟩) hw rfl (Nat.le_of_ble_eq_true rfl) (Nat.le_of_ble_eq_true rfl) (fun H locs hw => ?_)
  refine W.eq (g2 := F0 m 102 ls [.ref (m_sz M48), .int 11, .ref v49]) rfl ?_
  have hw : w_W G z50 r s H locs := hw
  refine gx_aast E hw (by decide) dX11_init_102 (fun M51 H locs _ hw => ?_)
  refine lv_iinc (v := 12) (lv' := [(1, .int 12), (0, .ref this)]) hx hb dX11_init_103 hl (k := 0) rfl rfl (by decide) rfl (fun ls hl => ?_)
  refine lv_goto (tgt := 84) hx hb dX11_init_106 (by decide) ?_
  refine lv_iload_n hx hb dX11_init_84 rfl (lv_at hl 0 rfl) ?_
  refine lv_bipush (v := 12) hx hb dX11_init_85 (by decide) ?_
  refine lv_icmp_ge (tgt := 109) hx hb dX11_init_87 (by decide) (fun _ => ?_) (fun h9 => absurd (by decide) h9)
  exact p_vret E hw hr (Nat.le_of_ble_eq_true rfl) (Nat.le_of_ble_eq_true rfl) rfl dX11_init_109
set_option maxHeartbeats 4000000 in
set_option maxRecDepth 100000 in
theorem t_CT_feedNumber (l : Launch) (hfl : l.stackTraces = false) (G : wG) (N : Nat) (this : Nat) (a0 : Int32) (M : Mem) (r : Rho) : Ctr l yX11_feedNumber (wWs yX11_feedNumber cX11_feedNumber 3 none) rm_CT_feedNumber rm_CT_feedNumber.cells rm_CT_feedNumber.slots G [.ref this, .int a0] M r ((f_CT_feedNumber N this a0 M).map (fun z => (.inl none, z, r))) := by
  refine Ctr.ofF (own := "CheekTown") (by decide +kernel) hfl rfl (Nat.le_of_ble_eq_true rfl) (fun p e s m args below meth c E hno hr hnm hw ls hl => ?_)
  obtain ⟨hx, hb, hts, hown, hml, hTT, -⟩ := id E
  have hl : lv_has ls 3 [(0, .ref this), (1, .int a0)] := hl
  obtain ⟨H, hH⟩ : ∃ H, H = s.heap := ⟨_, rfl⟩
  obtain ⟨locs, hlo⟩ : ∃ L : List Loc, L = [] := ⟨_, rfl⟩
  rw [← hH, ← hlo]
  rw [← hlo] at hw
  replace hw : w_W G M r s H locs := by rw [hH]; exact hw
  have w3 : ∀ (n : Nat) (x2 : Int32) (M : Mem) (H : Heap) (locs : List Loc) (ls : Array Slot), w_W G M r s H locs → lv_has ls 3 [(0, .ref this), (1, .int a0), (2, .int x2)] → W p l e rm_CT_feedNumber s m args below meth c H locs 0 0 (PQ G below args s rm_CT_feedNumber.cells rm_CT_feedNumber.slots (fun z => (.inl none, z, r)) (f_CT_feedNumber_3 N this a0 n x2 M)) (F0 m 3 ls []) := by
    intro n
    induction n with
    | zero => intros; exact W_none
    | succ n ih =>
      intro x2 M H locs ls hw hl
      rw [f_CT_feedNumber_3]
      refine lv_iload_n hx hb dX11_feedNumber_3 rfl (lv_at hl 2 rfl) ?_
      refine cx_if_lt (tgt := 49) E dX11_feedNumber_4 (by decide) (fun _ => ?_) (fun _ => ?_)
      · exact p_vret E hw hr (Nat.le_of_ble_eq_true rfl) (Nat.le_of_ble_eq_true rfl) rfl dX11_feedNumber_49
      · refine lv_aload_n hx hb dX11_feedNumber_7 rfl (lv_at hl 0 rfl) ?_
        refine gx_getI E hw kF_CT_48_10 (by decide) dX11_feedNumber_8 (fun v1 _ => ?_)
        refine lv_sipush (v := 400) hx hb dX11_feedNumber_11 (by decide) ?_
        refine cx_icmp_ge (tgt := 49) E dX11_feedNumber_14 (by decide) (fun _ => ?_) (fun _ => ?_)
        · exact p_vret E hw hr (Nat.le_of_ble_eq_true rfl) (Nat.le_of_ble_eq_true rfl) rfl dX11_feedNumber_49
        · refine lv_aload_n hx hb dX11_feedNumber_17 rfl (lv_at hl 0 rfl) ?_
          refine gx_getR E hw kF_CT_9_10 (by decide) dX11_feedNumber_18 (fun v2 _ => ?_)
          refine lv_aload_n hx hb dX11_feedNumber_21 rfl (lv_at hl 0 rfl) ?_
          refine gx_getI E hw kF_CT_48_10 (by decide) dX11_feedNumber_22 (fun v3 _ => ?_)
          refine lv_iload_n hx hb dX11_feedNumber_25 rfl (lv_at hl 1 rfl) ?_
          refine lv_iload_n hx hb dX11_feedNumber_26 rfl (lv_at hl 2 rfl) ?_
          refine lv_iushr (v := ushr a0 x2) hx hb dX11_feedNumber_27 rfl ?_
          refine lv_sipush (v := 255) hx hb dX11_feedNumber_28 (by decide) ?_
          refine lv_iand hx hb dX11_feedNumber_31 ?_
          refine gx_iast E hw dX11_feedNumber_32 (fun M4 H locs _ hw => ?_)
          refine lv_aload_n hx hb dX11_feedNumber_33 rfl (lv_at hl 0 rfl) ?_
          refine lv_dup hx hb dX11_feedNumber_34 rfl ?_
          refine gx_getI E hw kF_CT_48_10 (by decide) dX11_feedNumber_35 (fun v5 _ => ?_)
          refine lv_iconst (v := 1) hx hb dX11_feedNumber_38 (by decide) ?_
          refine lv_iadd hx hb dX11_feedNumber_39 ?_
          refine gx_putI E hw kF_CT_48_10 kT_10_1 (by decide) dX11_feedNumber_40 (fun M6 H locs _ hw => ?_)
          refine lv_iinc (v := x2 + (-8)) (lv' := [(2, .int (x2 + (-8))), (0, .ref this), (1, .int a0)]) hx hb dX11_feedNumber_43 hl (k := 2) rfl rfl (by decide) rfl (fun ls hl => ?_)
          refine lv_goto (tgt := 3) hx hb dX11_feedNumber_46 (by decide) ?_
          exact ih (x2 + (-8)) M6 _ _ _ hw (lv_sub hl [1, 2, 0] rfl)
  unfold f_CT_feedNumber
  refine lv_bipush (v := 24) hx hb dX11_feedNumber_0 (by decide) ?_
  refine lv_istore_n (lv' := [(2, .int 24), (0, .ref this), (1, .int a0)]) hx hb dX11_feedNumber_2 rfl hl (by decide) rfl (fun ls hl => ?_)
  exact w3  N 24 M _ _ _ hw (lv_sub hl [1, 2, 0] rfl)
set_option maxHeartbeats 4000000 in
set_option maxRecDepth 100000 in
theorem t_CT_feed (l : Launch) (hfl : l.stackTraces = false) (G : wG) (N : Nat) (this : Nat) (a0 : Int32) (a1 : Int32) (a2 : Int32) (a3 : Int32) (a4 : Int32) (M : Mem) (r : Rho) : Ctr l yX11_feed (wWs yX11_feed cX11_feed 6 (some .int)) rm_CT_feed rm_CT_feed.cells rm_CT_feed.slots G [.ref this, .int a0, .int a1, .int a2, .int a3, .int a4] M r ((f_CT_feed N this a0 a1 a2 a3 a4 M).map (fun z => (.inl (some (.int z.1)), z.2, r))) := by
  refine Ctr.ofF (own := "CheekTown") (by decide +kernel) hfl rfl (Nat.le_of_ble_eq_true rfl) (fun p e s m args below meth c E hno hr hnm hw ls hl => ?_)
  obtain ⟨hx, hb, hts, hown, hml, hTT, -⟩ := id E
  have hl : lv_has ls 6 [(0, .ref this), (1, .int a0), (2, .int a1), (3, .int a2), (4, .int a3), (5, .int a4)] := hl
  obtain ⟨H, hH⟩ : ∃ H, H = s.heap := ⟨_, rfl⟩
  obtain ⟨locs, hlo⟩ : ∃ L : List Loc, L = [] := ⟨_, rfl⟩
  rw [← hH, ← hlo]
  rw [← hlo] at hw
  replace hw : w_W G M r s H locs := by rw [hH]; exact hw
  unfold f_CT_feed
  refine lv_aload_n hx hb dX11_feed_0 rfl (lv_at hl 0 rfl) ?_
  refine gx_getI E hw kF_CT_48_10 (by decide) dX11_feed_1 (fun v1 _ => ?_)
  refine lv_sipush (v := 380) hx hb dX11_feed_4 (by decide) ?_
  refine cx_icmp_le (tgt := 12) E dX11_feed_7 (by decide) (fun _ => ?_) (fun _ => ?_)
  · refine lv_aload_n hx hb dX11_feed_12 rfl (lv_at hl 0 rfl) ?_
    refine lv_iload_n hx hb dX11_feed_13 rfl (lv_at hl 1 rfl) ?_
    refine W_bind fun _ hck => ?_
    refine W_bind fun z2 hz => ?_
    refine w_after (cells1 := 0) (slots1 := 0) (w_runV E kV_CT_51 kc_X11_feedNumber (t_CT_feedNumber l hfl G N this a0 M r ((fun z => (.inl none, z, r)) z2) (by rw [hz]; rfl)) ⟨Nat.le_of_ble_eq_true rfl, Nat.le_of_ble_eq_true rfl⟩ hw (w_recv E hw (by decide) ⟨_, _, rfl⟩ (ck_ok hck)) rfl hl.1 rfl (Nat.le_of_ble_eq_true rfl) dX11_feed_14 ⟨Nat.le_of_ble_eq_true rfl, Nat.le_of_ble_eq_true rfl⟩) hw rfl (Nat.le_of_ble_eq_true rfl) (Nat.le_of_ble_eq_true rfl) (fun H locs hw => ?_)
    refine W.eq (g2 := F0 m 17 ls []) rfl ?_
    have hw : w_W G z2 r s H locs := hw
    refine lv_aload_n hx hb dX11_feed_17 rfl (lv_at hl 0 rfl) ?_
    refine lv_iload_n hx hb dX11_feed_18 rfl (lv_at hl 2 rfl) ?_
    refine W_bind fun _ hck => ?_
    refine W_bind fun z3 hz => ?_
    refine w_after (cells1 := 0) (slots1 := 0) (w_runV E kV_CT_51 kc_X11_feedNumber (t_CT_feedNumber l hfl G N this a1 z2 r ((fun z => (.inl none, z, r)) z3) (by rw [hz]; rfl)) ⟨Nat.le_of_ble_eq_true rfl, Nat.le_of_ble_eq_true rfl⟩ hw (w_recv E hw (by decide) ⟨_, _, rfl⟩ (ck_ok hck)) rfl hl.1 rfl (Nat.le_of_ble_eq_true rfl) dX11_feed_19 ⟨Nat.le_of_ble_eq_true rfl, Nat.le_of_ble_eq_true rfl⟩) hw rfl (Nat.le_of_ble_eq_true rfl) (Nat.le_of_ble_eq_true rfl) (fun H locs hw => ?_)
    refine W.eq (g2 := F0 m 22 ls []) rfl ?_
    have hw : w_W G z3 r s H locs := hw
    refine lv_aload_n hx hb dX11_feed_22 rfl (lv_at hl 0 rfl) ?_
    refine lv_iload_n hx hb dX11_feed_23 rfl (lv_at hl 3 rfl) ?_
    refine W_bind fun _ hck => ?_
    refine W_bind fun z4 hz => ?_
    refine w_after (cells1 := 0) (slots1 := 0) (w_runV E kV_CT_51 kc_X11_feedNumber (t_CT_feedNumber l hfl G N this a2 z3 r ((fun z => (.inl none, z, r)) z4) (by rw [hz]; rfl)) ⟨Nat.le_of_ble_eq_true rfl, Nat.le_of_ble_eq_true rfl⟩ hw (w_recv E hw (by decide) ⟨_, _, rfl⟩ (ck_ok hck)) rfl hl.1 rfl (Nat.le_of_ble_eq_true rfl) dX11_feed_24 ⟨Nat.le_of_ble_eq_true rfl, Nat.le_of_ble_eq_true rfl⟩) hw rfl (Nat.le_of_ble_eq_true rfl) (Nat.le_of_ble_eq_true rfl) (fun H locs hw => ?_)
    refine W.eq (g2 := F0 m 27 ls []) rfl ?_
    have hw : w_W G z4 r s H locs := hw
    refine lv_aload_n hx hb dX11_feed_27 rfl (lv_at hl 0 rfl) ?_
    refine lv_iload hx hb dX11_feed_28 (lv_at hl 4 rfl) ?_
    refine W_bind fun _ hck => ?_
    refine W_bind fun z5 hz => ?_
    refine w_after (cells1 := 0) (slots1 := 0) (w_runV E kV_CT_51 kc_X11_feedNumber (t_CT_feedNumber l hfl G N this a3 z4 r ((fun z => (.inl none, z, r)) z5) (by rw [hz]; rfl)) ⟨Nat.le_of_ble_eq_true rfl, Nat.le_of_ble_eq_true rfl⟩ hw (w_recv E hw (by decide) ⟨_, _, rfl⟩ (ck_ok hck)) rfl hl.1 rfl (Nat.le_of_ble_eq_true rfl) dX11_feed_30 ⟨Nat.le_of_ble_eq_true rfl, Nat.le_of_ble_eq_true rfl⟩) hw rfl (Nat.le_of_ble_eq_true rfl) (Nat.le_of_ble_eq_true rfl) (fun H locs hw => ?_)
    refine W.eq (g2 := F0 m 33 ls []) rfl ?_
    have hw : w_W G z5 r s H locs := hw
    refine lv_aload_n hx hb dX11_feed_33 rfl (lv_at hl 0 rfl) ?_
    refine lv_iload hx hb dX11_feed_34 (lv_at hl 5 rfl) ?_
    refine W_bind fun _ hck => ?_
    refine W_bind fun z6 hz => ?_
    refine w_after (cells1 := 0) (slots1 := 0) (w_runV E kV_CT_51 kc_X11_feedNumber (t_CT_feedNumber l hfl G N this a4 z5 r ((fun z => (.inl none, z, r)) z6) (by rw [hz]; rfl)) ⟨Nat.le_of_ble_eq_true rfl, Nat.le_of_ble_eq_true rfl⟩ hw (w_recv E hw (by decide) ⟨_, _, rfl⟩ (ck_ok hck)) rfl hl.1 rfl (Nat.le_of_ble_eq_true rfl) dX11_feed_36 ⟨Nat.le_of_ble_eq_true rfl, Nat.le_of_ble_eq_true rfl⟩) hw rfl (Nat.le_of_ble_eq_true rfl) (Nat.le_of_ble_eq_true rfl) (fun H locs hw => ?_)
    refine W.eq (g2 := F0 m 39 ls []) rfl ?_
    have hw : w_W G z6 r s H locs := hw
    refine lv_aload_n hx hb dX11_feed_39 rfl (lv_at hl 0 rfl) ?_
    refine gx_getI E hw kF_CT_48_10 (by decide) dX11_feed_40 (fun v7 _ => ?_)
    exact p_iret E hw hr (Nat.le_of_ble_eq_true rfl) (Nat.le_of_ble_eq_true rfl) rfl dX11_feed_43
  · refine lv_iconst (v := (-1)) hx hb dX11_feed_10 (by decide) ?_
    exact p_iret E hw hr (Nat.le_of_ble_eq_true rfl) (Nat.le_of_ble_eq_true rfl) rfl dX11_feed_11
set_option maxHeartbeats 4000000 in
set_option maxRecDepth 100000 in
theorem t_CT_end (l : Launch) (hfl : l.stackTraces = false) (G : wG) (this : Nat) (a0 : Int32) (M : Mem) (r : Rho) : Ctr l yX11_end (wWs yX11_end cX11_end 2 (some .boolean)) rm_CT_end rm_CT_end.cells rm_CT_end.slots G [.ref this, .int a0] M r ((f_CT_end this a0 M).map (fun z => (.inl (some (.int z.1)), z.2, r))) := by
  refine Ctr.ofF (own := "CheekTown") (by decide +kernel) hfl rfl (Nat.le_of_ble_eq_true rfl) (fun p e s m args below meth c E hno hr hnm hw ls hl => ?_)
  obtain ⟨hx, hb, hts, hown, hml, hTT, -⟩ := id E
  have hl : lv_has ls 2 [(0, .ref this), (1, .int a0)] := hl
  obtain ⟨H, hH⟩ : ∃ H, H = s.heap := ⟨_, rfl⟩
  obtain ⟨locs, hlo⟩ : ∃ L : List Loc, L = [] := ⟨_, rfl⟩
  rw [← hH, ← hlo]
  rw [← hlo] at hw
  replace hw : w_W G M r s H locs := by rw [hH]; exact hw
  unfold f_CT_end
  refine lv_iload_n hx hb dX11_end_0 rfl (lv_at hl 1 rfl) ?_
  refine cx_if_lt (tgt := 12) E dX11_end_1 (by decide) (fun _ => ?_) (fun _ => ?_)
  · refine lv_iconst (v := 0) hx hb dX11_end_12 (by decide) ?_
    exact p_zret E hw hr (by decide) (Nat.le_of_ble_eq_true rfl) (Nat.le_of_ble_eq_true rfl) rfl dX11_end_13
  · refine lv_iload_n hx hb dX11_end_4 rfl (lv_at hl 1 rfl) ?_
    refine lv_aload_n hx hb dX11_end_5 rfl (lv_at hl 0 rfl) ?_
    refine gx_getI E hw kF_CT_48_10 (by decide) dX11_end_6 (fun v1 _ => ?_)
    refine cx_icmp_le (tgt := 14) E dX11_end_9 (by decide) (fun _ => ?_) (fun _ => ?_)
    · refine lv_aload_n hx hb dX11_end_14 rfl (lv_at hl 0 rfl) ?_
      refine lv_iload_n hx hb dX11_end_15 rfl (lv_at hl 1 rfl) ?_
      refine gx_putI E hw kF_CT_48_10 kT_10_1 (by decide) dX11_end_16 (fun M2 H locs _ hw => ?_)
      refine lv_iconst (v := 1) hx hb dX11_end_19 (by decide) ?_
      exact p_zret E hw hr (by decide) (Nat.le_of_ble_eq_true rfl) (Nat.le_of_ble_eq_true rfl) rfl dX11_end_20
    · refine lv_iconst (v := 0) hx hb dX11_end_12 (by decide) ?_
      exact p_zret E hw hr (by decide) (Nat.le_of_ble_eq_true rfl) (Nat.le_of_ble_eq_true rfl) rfl dX11_end_13
set_option maxHeartbeats 4000000 in
set_option maxRecDepth 100000 in
theorem t_CT_fault (l : Launch) (hfl : l.stackTraces = false) (G : wG) (this : Nat) (M : Mem) (r : Rho) : Ctr l yX11_fault (wWs yX11_fault cX11_fault 1 (some .int)) rm_CT_fault rm_CT_fault.cells rm_CT_fault.slots G [.ref this] M r ((f_CT_fault this M).map (fun z => (.inl (some (.int z)), M, r))) := by
  refine Ctr.ofF (own := "CheekTown") (by decide +kernel) hfl rfl (Nat.le_of_ble_eq_true rfl) (fun p e s m args below meth c E hno hr hnm hw ls hl => ?_)
  obtain ⟨hx, hb, hts, hown, hml, hTT, -⟩ := id E
  have hl : lv_has ls 1 [(0, .ref this)] := hl
  obtain ⟨H, hH⟩ : ∃ H, H = s.heap := ⟨_, rfl⟩
  obtain ⟨locs, hlo⟩ : ∃ L : List Loc, L = [] := ⟨_, rfl⟩
  rw [← hH, ← hlo]
  rw [← hlo] at hw
  replace hw : w_W G M r s H locs := by rw [hH]; exact hw
  unfold f_CT_fault
  refine lv_aload_n hx hb dX11_fault_0 rfl (lv_at hl 0 rfl) ?_
  refine gx_getI E hw kF_CT_13_10 (by decide) dX11_fault_1 (fun v1 _ => ?_)
  exact p_iret E hw hr (Nat.le_of_ble_eq_true rfl) (Nat.le_of_ble_eq_true rfl) rfl dX11_fault_4
set_option maxHeartbeats 4000000 in
set_option maxRecDepth 100000 in
theorem t_Manners_kindOf (l : Launch) (hfl : l.stackTraces = false) (G : wG) (a0 : Int32) (M : Mem) (r : Rho) : Ctr l yX4_kindOf (wWs yX4_kindOf cX4_kindOf 1 (some .int)) rm_Manners_kindOf rm_Manners_kindOf.cells rm_Manners_kindOf.slots G [.int a0] M r ((f_Manners_kindOf a0).map (fun z => (.inl (some (.int z)), M, r))) := by
  refine Ctr.ofF (own := "CheekTown$Manners") (by decide +kernel) hfl rfl (Nat.le_of_ble_eq_true rfl) (fun p e s m args below meth c E hno hr hnm hw ls hl => ?_)
  obtain ⟨hx, hb, hts, hown, hml, hTT, -⟩ := id E
  have hl : lv_has ls 1 [(0, .int a0)] := hl
  obtain ⟨H, hH⟩ : ∃ H, H = s.heap := ⟨_, rfl⟩
  obtain ⟨locs, hlo⟩ : ∃ L : List Loc, L = [] := ⟨_, rfl⟩
  rw [← hH, ← hlo]
  rw [← hlo] at hw
  replace hw : w_W G M r s H locs := by rw [hH]; exact hw
  unfold f_Manners_kindOf
  refine lv_iload_n hx hb dX4_kindOf_0 rfl (lv_at hl 0 rfl) ?_
  refine lv_iconst (v := 3) hx hb dX4_kindOf_1 (by decide) ?_
  refine lv_ishr hx hb dX4_kindOf_2 ?_
  exact p_iret E hw hr (Nat.le_of_ble_eq_true rfl) (Nat.le_of_ble_eq_true rfl) rfl dX4_kindOf_3
set_option maxHeartbeats 4000000 in
set_option maxRecDepth 100000 in
theorem t_Manners_countOf (l : Launch) (hfl : l.stackTraces = false) (G : wG) (a0 : Int32) (M : Mem) (r : Rho) : Ctr l yX4_countOf (wWs yX4_countOf cX4_countOf 1 (some .int)) rm_Manners_countOf rm_Manners_countOf.cells rm_Manners_countOf.slots G [.int a0] M r ((f_Manners_countOf a0).map (fun z => (.inl (some (.int z)), M, r))) := by
  refine Ctr.ofF (own := "CheekTown$Manners") (by decide +kernel) hfl rfl (Nat.le_of_ble_eq_true rfl) (fun p e s m args below meth c E hno hr hnm hw ls hl => ?_)
  obtain ⟨hx, hb, hts, hown, hml, hTT, -⟩ := id E
  have hl : lv_has ls 1 [(0, .int a0)] := hl
  obtain ⟨H, hH⟩ : ∃ H, H = s.heap := ⟨_, rfl⟩
  obtain ⟨locs, hlo⟩ : ∃ L : List Loc, L = [] := ⟨_, rfl⟩
  rw [← hH, ← hlo]
  rw [← hlo] at hw
  replace hw : w_W G M r s H locs := by rw [hH]; exact hw
  unfold f_Manners_countOf
  refine lv_iload_n hx hb dX4_countOf_0 rfl (lv_at hl 0 rfl) ?_
  refine lv_iconst (v := 1) hx hb dX4_countOf_1 (by decide) ?_
  refine lv_ishr hx hb dX4_countOf_2 ?_
  refine lv_iconst (v := 3) hx hb dX4_countOf_3 (by decide) ?_
  refine lv_iand hx hb dX4_countOf_4 ?_
  refine lv_iconst (v := 1) hx hb dX4_countOf_5 (by decide) ?_
  refine lv_iadd hx hb dX4_countOf_6 ?_
  exact p_iret E hw hr (Nat.le_of_ble_eq_true rfl) (Nat.le_of_ble_eq_true rfl) rfl dX4_countOf_7
set_option maxHeartbeats 4000000 in
set_option maxRecDepth 100000 in
theorem t_Math_abs (l : Launch) (hfl : l.stackTraces = false) (G : wG) (a0 : Int32) (M : Mem) (r : Rho) : Ctr l yJ9_abs_0f7a4 (wWs yJ9_abs_0f7a4 cJ9_abs_0f7a4 1 (some .int)) rm_Math_abs rm_Math_abs.cells rm_Math_abs.slots G [.int a0] M r ((f_Math_abs a0).map (fun z => (.inl (some (.int z)), M, r))) := by
  refine Ctr.ofF (own := "java/lang/Math") (by decide +kernel) hfl rfl (Nat.le_of_ble_eq_true rfl) (fun p e s m args below meth c E hno hr hnm hw ls hl => ?_)
  obtain ⟨hx, hb, hts, hown, hml, hTT, -⟩ := id E
  have hl : lv_has ls 1 [(0, .int a0)] := hl
  obtain ⟨H, hH⟩ : ∃ H, H = s.heap := ⟨_, rfl⟩
  obtain ⟨locs, hlo⟩ : ∃ L : List Loc, L = [] := ⟨_, rfl⟩
  rw [← hH, ← hlo]
  rw [← hlo] at hw
  replace hw : w_W G M r s H locs := by rw [hH]; exact hw
  unfold f_Math_abs
  refine lv_iload_n hx hb dJ9_abs_0f7a4_0 rfl (lv_at hl 0 rfl) ?_
  refine cx_if_ge (tgt := 9) E dJ9_abs_0f7a4_1 (by decide) (fun _ => ?_) (fun _ => ?_)
  · refine lv_iload_n hx hb dJ9_abs_0f7a4_9 rfl (lv_at hl 0 rfl) ?_
    exact p_iret E hw hr (Nat.le_of_ble_eq_true rfl) (Nat.le_of_ble_eq_true rfl) rfl dJ9_abs_0f7a4_10
  · refine lv_iload_n hx hb dJ9_abs_0f7a4_4 rfl (lv_at hl 0 rfl) ?_
    refine lv_ineg hx hb dJ9_abs_0f7a4_5 ?_
    refine lv_goto (tgt := 10) hx hb dJ9_abs_0f7a4_6 (by decide) ?_
    exact p_iret E hw hr (Nat.le_of_ble_eq_true rfl) (Nat.le_of_ble_eq_true rfl) rfl dJ9_abs_0f7a4_10
set_option maxHeartbeats 4000000 in
set_option maxRecDepth 100000 in
theorem t_Manners_sideOf (l : Launch) (hfl : l.stackTraces = false) (G : wG) (a0 : Int32) (M : Mem) (r : Rho) : Ctr l yX4_sideOf (wWs yX4_sideOf cX4_sideOf 1 (some .int)) rm_Manners_sideOf rm_Manners_sideOf.cells rm_Manners_sideOf.slots G [.int a0] M r ((f_Manners_sideOf a0).map (fun z => (.inl (some (.int z)), M, r))) := by
  refine Ctr.ofF (own := "CheekTown$Manners") (by decide +kernel) hfl rfl (Nat.le_of_ble_eq_true rfl) (fun p e s m args below meth c E hno hr hnm hw ls hl => ?_)
  obtain ⟨hx, hb, hts, hown, hml, hTT, -⟩ := id E
  have hl : lv_has ls 1 [(0, .int a0)] := hl
  obtain ⟨H, hH⟩ : ∃ H, H = s.heap := ⟨_, rfl⟩
  obtain ⟨locs, hlo⟩ : ∃ L : List Loc, L = [] := ⟨_, rfl⟩
  rw [← hH, ← hlo]
  rw [← hlo] at hw
  replace hw : w_W G M r s H locs := by rw [hH]; exact hw
  unfold f_Manners_sideOf
  refine lv_iload_n hx hb dX4_sideOf_0 rfl (lv_at hl 0 rfl) ?_
  refine lv_iconst (v := 1) hx hb dX4_sideOf_1 (by decide) ?_
  refine lv_iand hx hb dX4_sideOf_2 ?_
  exact p_iret E hw hr (Nat.le_of_ble_eq_true rfl) (Nat.le_of_ble_eq_true rfl) rfl dX4_sideOf_3
set_option maxHeartbeats 4000000 in
set_option maxRecDepth 100000 in
theorem t_Manners_costOf (l : Launch) (hfl : l.stackTraces = false) (G : wG) (this : Nat) (a0 : Int32) (a1 : Int32) (M : Mem) (r : Rho) : Ctr l yX4_costOf (wWs yX4_costOf cX4_costOf 4 (some .int)) rm_Manners_costOf rm_Manners_costOf.cells rm_Manners_costOf.slots G [.ref this, .int a0, .int a1] M r ((f_Manners_costOf this a0 a1 M).map (fun z => (.inl (some (.int z)), M, r))) := by
  refine Ctr.ofF (own := "CheekTown$Manners") (by decide +kernel) hfl rfl (Nat.le_of_ble_eq_true rfl) (fun p e s m args below meth c E hno hr hnm hw ls hl => ?_)
  obtain ⟨hx, hb, hts, hown, hml, hTT, -⟩ := id E
  have hl : lv_has ls 4 [(0, .ref this), (1, .int a0), (2, .int a1)] := hl
  obtain ⟨H, hH⟩ : ∃ H, H = s.heap := ⟨_, rfl⟩
  obtain ⟨locs, hlo⟩ : ∃ L : List Loc, L = [] := ⟨_, rfl⟩
  rw [← hH, ← hlo]
  rw [← hlo] at hw
  replace hw : w_W G M r s H locs := by rw [hH]; exact hw
  have w64 : ∀ (y0 : Int32) (y1 : Int32) (H : Heap) (locs : List Loc) (ls : Array Slot), w_W G M r s H locs → lv_has ls 4 [] → W p l e rm_Manners_costOf s m args below meth c H locs 0 0 (PQ G below args s rm_Manners_costOf.cells rm_Manners_costOf.slots (fun z => (.inl (some (.int z)), M, r)) (f_Manners_costOf_64 this a0 a1 M y0 y1)) (F0 m 64 ls [.int y1, .int y0]) := by
    intro y0 y1 H locs ls hw hl
    unfold f_Manners_costOf_64
    refine lv_iadd hx hb dX4_costOf_64 ?_
    exact p_iret E hw hr (Nat.le_of_ble_eq_true rfl) (Nat.le_of_ble_eq_true rfl) rfl dX4_costOf_65
  unfold f_Manners_costOf
  refine lv_iload_n hx hb dX4_costOf_0 rfl (lv_at hl 1 rfl) ?_
  refine W_bind fun z1 hz => ?_
  refine w_after (cells1 := 0) (slots1 := 0) (w_runS E kS_Manners_19 kc_X4_kindOf (t_Manners_kindOf l hfl G a0 M r ((fun z => (.inl (some (.int z)), M, r)) z1) (by rw [hz]; rfl)) ⟨Nat.le_of_ble_eq_true rfl, Nat.le_of_ble_eq_true rfl⟩ hw rfl hl.1 rfl (Nat.le_of_ble_eq_true rfl) dX4_costOf_1 ⟨Nat.le_of_ble_eq_true rfl, Nat.le_of_ble_eq_true rfl⟩) hw rfl (Nat.le_of_ble_eq_true rfl) (Nat.le_of_ble_eq_true rfl) (fun H locs hw => ?_)
  refine W.eq (g2 := F0 m 4 ls [.int z1]) rfl ?_
  have hw : w_W G M r s H locs := hw
  refine lv_iload_n hx hb dX4_costOf_4 rfl (lv_at hl 2 rfl) ?_
  refine W_bind fun z2 hz => ?_
  refine w_after (cells1 := 0) (slots1 := 0) (w_runS E kS_Manners_19 kc_X4_kindOf (t_Manners_kindOf l hfl G a1 M r ((fun z => (.inl (some (.int z)), M, r)) z2) (by rw [hz]; rfl)) ⟨Nat.le_of_ble_eq_true rfl, Nat.le_of_ble_eq_true rfl⟩ hw rfl hl.1 rfl (Nat.le_of_ble_eq_true rfl) dX4_costOf_5 ⟨Nat.le_of_ble_eq_true rfl, Nat.le_of_ble_eq_true rfl⟩) hw rfl (Nat.le_of_ble_eq_true rfl) (Nat.le_of_ble_eq_true rfl) (fun H locs hw => ?_)
  refine W.eq (g2 := F0 m 8 ls [.int z2, .int z1]) rfl ?_
  have hw : w_W G M r s H locs := hw
  refine cx_icmp_eq (tgt := 16) E dX4_costOf_8 (by decide) (fun _ => ?_) (fun _ => ?_)
  · refine lv_iload_n hx hb dX4_costOf_16 rfl (lv_at hl 1 rfl) ?_
    refine W_bind fun z3 hz => ?_
    refine w_after (cells1 := 0) (slots1 := 0) (w_runS E kS_Manners_19 kc_X4_kindOf (t_Manners_kindOf l hfl G a0 M r ((fun z => (.inl (some (.int z)), M, r)) z3) (by rw [hz]; rfl)) ⟨Nat.le_of_ble_eq_true rfl, Nat.le_of_ble_eq_true rfl⟩ hw rfl hl.1 rfl (Nat.le_of_ble_eq_true rfl) dX4_costOf_17 ⟨Nat.le_of_ble_eq_true rfl, Nat.le_of_ble_eq_true rfl⟩) hw rfl (Nat.le_of_ble_eq_true rfl) (Nat.le_of_ble_eq_true rfl) (fun H locs hw => ?_)
    refine W.eq (g2 := F0 m 20 ls [.int z3]) rfl ?_
    have hw : w_W G M r s H locs := hw
    refine lv_iconst (v := 2) hx hb dX4_costOf_20 (by decide) ?_
    refine cx_icmp_eq (tgt := 26) E dX4_costOf_21 (by decide) (fun _ => ?_) (fun _ => ?_)
    · refine lv_iload_n hx hb dX4_costOf_26 rfl (lv_at hl 1 rfl) ?_
      refine W_bind fun z4 hz => ?_
      refine w_after (cells1 := 0) (slots1 := 0) (w_runS E kS_Manners_23 kc_X4_countOf (t_Manners_countOf l hfl G a0 M r ((fun z => (.inl (some (.int z)), M, r)) z4) (by rw [hz]; rfl)) ⟨Nat.le_of_ble_eq_true rfl, Nat.le_of_ble_eq_true rfl⟩ hw rfl hl.1 rfl (Nat.le_of_ble_eq_true rfl) dX4_costOf_27 ⟨Nat.le_of_ble_eq_true rfl, Nat.le_of_ble_eq_true rfl⟩) hw rfl (Nat.le_of_ble_eq_true rfl) (Nat.le_of_ble_eq_true rfl) (fun H locs hw => ?_)
      refine W.eq (g2 := F0 m 30 ls [.int z4]) rfl ?_
      have hw : w_W G M r s H locs := hw
      refine lv_iload_n hx hb dX4_costOf_30 rfl (lv_at hl 2 rfl) ?_
      refine W_bind fun z5 hz => ?_
      refine w_after (cells1 := 0) (slots1 := 0) (w_runS E kS_Manners_23 kc_X4_countOf (t_Manners_countOf l hfl G a1 M r ((fun z => (.inl (some (.int z)), M, r)) z5) (by rw [hz]; rfl)) ⟨Nat.le_of_ble_eq_true rfl, Nat.le_of_ble_eq_true rfl⟩ hw rfl hl.1 rfl (Nat.le_of_ble_eq_true rfl) dX4_costOf_31 ⟨Nat.le_of_ble_eq_true rfl, Nat.le_of_ble_eq_true rfl⟩) hw rfl (Nat.le_of_ble_eq_true rfl) (Nat.le_of_ble_eq_true rfl) (fun H locs hw => ?_)
      refine W.eq (g2 := F0 m 34 ls [.int z5, .int z4]) rfl ?_
      have hw : w_W G M r s H locs := hw
      refine lv_isub hx hb dX4_costOf_34 ?_
      refine W_bind fun z6 hz => ?_
      refine w_after (cells1 := 0) (slots1 := 0) (w_runS E kS_Manners_26 kc_J9_abs_0f7a4 (t_Math_abs l hfl G (z4 - z5) M r ((fun z => (.inl (some (.int z)), M, r)) z6) (by rw [hz]; rfl)) ⟨Nat.le_of_ble_eq_true rfl, Nat.le_of_ble_eq_true rfl⟩ hw rfl hl.1 rfl (Nat.le_of_ble_eq_true rfl) dX4_costOf_35 ⟨Nat.le_of_ble_eq_true rfl, Nat.le_of_ble_eq_true rfl⟩) hw rfl (Nat.le_of_ble_eq_true rfl) (Nat.le_of_ble_eq_true rfl) (fun H locs hw => ?_)
      refine W.eq (g2 := F0 m 38 ls [.int z6]) rfl ?_
      have hw : w_W G M r s H locs := hw
      refine lv_istore_n (lv' := [(3, .int z6), (0, .ref this), (1, .int a0), (2, .int a1)]) hx hb dX4_costOf_38 rfl hl (by decide) rfl (fun ls hl => ?_)
      refine lv_aload_n hx hb dX4_costOf_39 rfl (lv_at hl 1 rfl) ?_
      refine gx_getI E hw kF_Manners_13_4 (by decide) dX4_costOf_40 (fun v7 _ => ?_)
      refine lv_iload_n hx hb dX4_costOf_43 rfl (lv_at hl 0 rfl) ?_
      refine lv_imul hx hb dX4_costOf_44 ?_
      refine lv_iload_n hx hb dX4_costOf_45 rfl (lv_at hl 2 rfl) ?_
      refine W_bind fun z8 hz => ?_
      refine w_after (cells1 := 0) (slots1 := 0) (w_runS E kS_Manners_31 kc_X4_sideOf (t_Manners_sideOf l hfl G a0 M r ((fun z => (.inl (some (.int z)), M, r)) z8) (by rw [hz]; rfl)) ⟨Nat.le_of_ble_eq_true rfl, Nat.le_of_ble_eq_true rfl⟩ hw rfl hl.1 rfl (Nat.le_of_ble_eq_true rfl) dX4_costOf_46 ⟨Nat.le_of_ble_eq_true rfl, Nat.le_of_ble_eq_true rfl⟩) hw rfl (Nat.le_of_ble_eq_true rfl) (Nat.le_of_ble_eq_true rfl) (fun H locs hw => ?_)
      refine W.eq (g2 := F0 m 49 ls [.int z8, .int (v7 * z6)]) rfl ?_
      have hw : w_W G M r s H locs := hw
      refine lv_iload_n hx hb dX4_costOf_49 rfl (lv_at hl 3 rfl) ?_
      refine W_bind fun z9 hz => ?_
      refine w_after (cells1 := 0) (slots1 := 0) (w_runS E kS_Manners_31 kc_X4_sideOf (t_Manners_sideOf l hfl G a1 M r ((fun z => (.inl (some (.int z)), M, r)) z9) (by rw [hz]; rfl)) ⟨Nat.le_of_ble_eq_true rfl, Nat.le_of_ble_eq_true rfl⟩ hw rfl hl.1 rfl (Nat.le_of_ble_eq_true rfl) dX4_costOf_50 ⟨Nat.le_of_ble_eq_true rfl, Nat.le_of_ble_eq_true rfl⟩) hw rfl (Nat.le_of_ble_eq_true rfl) (Nat.le_of_ble_eq_true rfl) (fun H locs hw => ?_)
      refine W.eq (g2 := F0 m 53 ls [.int z9, .int z8, .int (v7 * z6)]) rfl ?_
      have hw : w_W G M r s H locs := hw
      refine cx_icmp_ne (tgt := 60) E dX4_costOf_53 (by decide) (fun _ => ?_) (fun _ => ?_)
      · refine lv_aload_n hx hb dX4_costOf_60 rfl (lv_at hl 1 rfl) ?_
        refine gx_getI E hw kF_Manners_16_4 (by decide) dX4_costOf_61 (fun v10 _ => ?_)
        exact w64  (v7 * z6) v10 _ _ _ hw (lv_sub hl [] rfl)
      · refine lv_iconst (v := 0) hx hb dX4_costOf_56 (by decide) ?_
        refine lv_goto (tgt := 64) hx hb dX4_costOf_57 (by decide) ?_
        exact w64  (v7 * z6) 0 _ _ _ hw (lv_sub hl [] rfl)
    · refine lv_iconst (v := 0) hx hb dX4_costOf_24 (by decide) ?_
      exact p_iret E hw hr (Nat.le_of_ble_eq_true rfl) (Nat.le_of_ble_eq_true rfl) rfl dX4_costOf_25
  · refine lv_aload_n hx hb dX4_costOf_11 rfl (lv_at hl 0 rfl) ?_
    refine gx_getI E hw kF_Manners_7_4 (by decide) dX4_costOf_12 (fun v11 _ => ?_)
    exact p_iret E hw hr (Nat.le_of_ble_eq_true rfl) (Nat.le_of_ble_eq_true rfl) rfl dX4_costOf_15
set_option maxHeartbeats 4000000 in
set_option maxRecDepth 100000 in
theorem t_Math_max (l : Launch) (hfl : l.stackTraces = false) (G : wG) (a0 : Int32) (a1 : Int32) (M : Mem) (r : Rho) : Ctr l yJ9_max_7cf53 (wWs yJ9_max_7cf53 cJ9_max_7cf53 2 (some .int)) rm_Math_max rm_Math_max.cells rm_Math_max.slots G [.int a0, .int a1] M r ((f_Math_max a0 a1).map (fun z => (.inl (some (.int z)), M, r))) := by
  refine Ctr.ofF (own := "java/lang/Math") (by decide +kernel) hfl rfl (Nat.le_of_ble_eq_true rfl) (fun p e s m args below meth c E hno hr hnm hw ls hl => ?_)
  obtain ⟨hx, hb, hts, hown, hml, hTT, -⟩ := id E
  have hl : lv_has ls 2 [(0, .int a0), (1, .int a1)] := hl
  obtain ⟨H, hH⟩ : ∃ H, H = s.heap := ⟨_, rfl⟩
  obtain ⟨locs, hlo⟩ : ∃ L : List Loc, L = [] := ⟨_, rfl⟩
  rw [← hH, ← hlo]
  rw [← hlo] at hw
  replace hw : w_W G M r s H locs := by rw [hH]; exact hw
  unfold f_Math_max
  refine lv_iload_n hx hb dJ9_max_7cf53_0 rfl (lv_at hl 0 rfl) ?_
  refine lv_iload_n hx hb dJ9_max_7cf53_1 rfl (lv_at hl 1 rfl) ?_
  refine cx_icmp_lt (tgt := 9) E dJ9_max_7cf53_2 (by decide) (fun _ => ?_) (fun _ => ?_)
  · refine lv_iload_n hx hb dJ9_max_7cf53_9 rfl (lv_at hl 1 rfl) ?_
    exact p_iret E hw hr (Nat.le_of_ble_eq_true rfl) (Nat.le_of_ble_eq_true rfl) rfl dJ9_max_7cf53_10
  · refine lv_iload_n hx hb dJ9_max_7cf53_5 rfl (lv_at hl 0 rfl) ?_
    refine lv_goto (tgt := 10) hx hb dJ9_max_7cf53_6 (by decide) ?_
    exact p_iret E hw hr (Nat.le_of_ble_eq_true rfl) (Nat.le_of_ble_eq_true rfl) rfl dJ9_max_7cf53_10
set_option maxHeartbeats 4000000 in
set_option maxRecDepth 100000 in
theorem t_Lands_greatestCostOf (l : Launch) (hfl : l.stackTraces = false) (G : wG) (N : Nat) (this : Nat) (a0 : Int32) (M : Mem) (r : Rho) : Ctr l yX0_greatestCostOf (wWs yX0_greatestCostOf cX0_greatestCostOf 4 (some .int)) rm_Lands_greatestCostOf rm_Lands_greatestCostOf.cells rm_Lands_greatestCostOf.slots G [.ref this, .int a0] M r ((f_Lands_greatestCostOf N this a0 M).map (fun z => (.inl (some (.int z)), M, r))) := by
  refine Ctr.ofF (own := "CheekTown$Lands") (by decide +kernel) hfl rfl (Nat.le_of_ble_eq_true rfl) (fun p e s m args below meth c E hno hr hnm hw ls hl => ?_)
  obtain ⟨hx, hb, hts, hown, hml, hTT, -⟩ := id E
  have hl : lv_has ls 4 [(0, .ref this), (1, .int a0)] := hl
  obtain ⟨H, hH⟩ : ∃ H, H = s.heap := ⟨_, rfl⟩
  obtain ⟨locs, hlo⟩ : ∃ L : List Loc, L = [] := ⟨_, rfl⟩
  rw [← hH, ← hlo]
  rw [← hlo] at hw
  replace hw : w_W G M r s H locs := by rw [hH]; exact hw
  have w4 : ∀ (n : Nat) (x2 : Int32) (x3 : Int32) (H : Heap) (locs : List Loc) (ls : Array Slot), w_W G M r s H locs → lv_has ls 4 [(0, .ref this), (1, .int a0), (2, .int x2), (3, .int x3)] → W p l e rm_Lands_greatestCostOf s m args below meth c H locs 0 0 (PQ G below args s rm_Lands_greatestCostOf.cells rm_Lands_greatestCostOf.slots (fun z => (.inl (some (.int z)), M, r)) (f_Lands_greatestCostOf_4 N this a0 M n x2 x3)) (F0 m 4 ls []) := by
    intro n
    induction n with
    | zero => intros; exact W_none
    | succ n ih =>
      intro x2 x3 H locs ls hw hl
      rw [f_Lands_greatestCostOf_4]
      refine lv_iload_n hx hb dX0_greatestCostOf_4 rfl (lv_at hl 3 rfl) ?_
      refine lv_aload_n hx hb dX0_greatestCostOf_5 rfl (lv_at hl 0 rfl) ?_
      refine gx_getI E hw kF_Lands_36_0 (by decide) dX0_greatestCostOf_6 (fun v1 _ => ?_)
      refine cx_icmp_ge (tgt := 43) E dX0_greatestCostOf_9 (by decide) (fun _ => ?_) (fun _ => ?_)
      · refine lv_iload_n hx hb dX0_greatestCostOf_43 rfl (lv_at hl 2 rfl) ?_
        exact p_iret E hw hr (Nat.le_of_ble_eq_true rfl) (Nat.le_of_ble_eq_true rfl) rfl dX0_greatestCostOf_44
      · refine lv_iload_n hx hb dX0_greatestCostOf_12 rfl (lv_at hl 3 rfl) ?_
        refine lv_bipush (v := 24) hx hb dX0_greatestCostOf_13 (by decide) ?_
        refine cx_icmp_ge (tgt := 43) E dX0_greatestCostOf_15 (by decide) (fun _ => ?_) (fun _ => ?_)
        · refine lv_iload_n hx hb dX0_greatestCostOf_43 rfl (lv_at hl 2 rfl) ?_
          exact p_iret E hw hr (Nat.le_of_ble_eq_true rfl) (Nat.le_of_ble_eq_true rfl) rfl dX0_greatestCostOf_44
        · refine lv_iload_n hx hb dX0_greatestCostOf_18 rfl (lv_at hl 2 rfl) ?_
          refine lv_aload_n hx hb dX0_greatestCostOf_19 rfl (lv_at hl 0 rfl) ?_
          refine gx_getR E hw kF_Lands_12_0 (by decide) dX0_greatestCostOf_20 (fun v2 _ => ?_)
          refine lv_iload_n hx hb dX0_greatestCostOf_23 rfl (lv_at hl 1 rfl) ?_
          refine lv_aload_n hx hb dX0_greatestCostOf_24 rfl (lv_at hl 0 rfl) ?_
          refine gx_getR E hw kF_Lands_22_0 (by decide) dX0_greatestCostOf_25 (fun v3 _ => ?_)
          refine lv_iload_n hx hb dX0_greatestCostOf_28 rfl (lv_at hl 3 rfl) ?_
          refine gx_iald E hw dX0_greatestCostOf_29 (fun v4 _ => ?_)
          refine W_bind fun _ hck => ?_
          refine W_bind fun z5 hz => ?_
          refine w_after (cells1 := 0) (slots1 := 0) (w_runV E kV_Lands_45 kc_X4_costOf (t_Manners_costOf l hfl G v2 a0 v4 M r ((fun z => (.inl (some (.int z)), M, r)) z5) (by rw [hz]; rfl)) ⟨Nat.le_of_ble_eq_true rfl, Nat.le_of_ble_eq_true rfl⟩ hw (w_recv E hw (by decide) ⟨_, _, rfl⟩ (ck_ok hck)) rfl hl.1 rfl (Nat.le_of_ble_eq_true rfl) dX0_greatestCostOf_30 ⟨Nat.le_of_ble_eq_true rfl, Nat.le_of_ble_eq_true rfl⟩) hw rfl (Nat.le_of_ble_eq_true rfl) (Nat.le_of_ble_eq_true rfl) (fun H locs hw => ?_)
          refine W.eq (g2 := F0 m 33 ls [.int z5, .int x2]) rfl ?_
          have hw : w_W G M r s H locs := hw
          refine W_bind fun z6 hz => ?_
          refine w_after (cells1 := 0) (slots1 := 0) (w_runS E kS_Lands_52 kc_J9_max_7cf53 (t_Math_max l hfl G x2 z5 M r ((fun z => (.inl (some (.int z)), M, r)) z6) (by rw [hz]; rfl)) ⟨Nat.le_of_ble_eq_true rfl, Nat.le_of_ble_eq_true rfl⟩ hw rfl hl.1 rfl (Nat.le_of_ble_eq_true rfl) dX0_greatestCostOf_33 ⟨Nat.le_of_ble_eq_true rfl, Nat.le_of_ble_eq_true rfl⟩) hw rfl (Nat.le_of_ble_eq_true rfl) (Nat.le_of_ble_eq_true rfl) (fun H locs hw => ?_)
          refine W.eq (g2 := F0 m 36 ls [.int z6]) rfl ?_
          have hw : w_W G M r s H locs := hw
          refine lv_istore_n (lv' := [(2, .int z6), (0, .ref this), (1, .int a0), (3, .int x3)]) hx hb dX0_greatestCostOf_36 rfl hl (by decide) rfl (fun ls hl => ?_)
          refine lv_iinc (v := x3 + 1) (lv' := [(3, .int (x3 + 1)), (2, .int z6), (0, .ref this), (1, .int a0)]) hx hb dX0_greatestCostOf_37 hl (k := 3) rfl rfl (by decide) rfl (fun ls hl => ?_)
          refine lv_goto (tgt := 4) hx hb dX0_greatestCostOf_40 (by decide) ?_
          exact ih z6 (x3 + 1) _ _ _ hw (lv_sub hl [2, 3, 1, 0] rfl)
  unfold f_Lands_greatestCostOf
  refine lv_iconst (v := 0) hx hb dX0_greatestCostOf_0 (by decide) ?_
  refine lv_istore_n (lv' := [(2, .int 0), (0, .ref this), (1, .int a0)]) hx hb dX0_greatestCostOf_1 rfl hl (by decide) rfl (fun ls hl => ?_)
  refine lv_iconst (v := 0) hx hb dX0_greatestCostOf_2 (by decide) ?_
  refine lv_istore_n (lv' := [(3, .int 0), (2, .int 0), (0, .ref this), (1, .int a0)]) hx hb dX0_greatestCostOf_3 rfl hl (by decide) rfl (fun ls hl => ?_)
  exact w4  N 0 0 _ _ _ hw (lv_sub hl [2, 3, 1, 0] rfl)

