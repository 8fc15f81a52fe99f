set_option maxHeartbeats 4000000 in
set_option maxRecDepth 100000 in
theorem t_R_still (l : Launch) (hfl : l.stackTraces = false) (G : wG) (on : g_on G = true) (N : Nat) (M : Mem) (r : Rho) : Ctr l yX12_still (wWs yX12_still cX12_still 2 (some .int)) rm_R_still rm_R_still.cells rm_R_still.slots G [.ref (g_r G)] M r ((f_R_still N r).map (fun z => (.inl (some (.int z.1)), M, z.2))) := by
  refine Ctr.ofF (own := "CheekTownModel") (by decide +kernel) hfl rfl (Nat.le_of_ble_eq_true rfl) (fun p e s m args below meth c E hno hr hnm hw ls hl => ?_)
  obtain ⟨hx, hb, hts, hown, hml, hTT, -⟩ := id E
  have hl : lv_has ls 2 [(0, .ref (g_r G))] := hl
  obtain ⟨H, hH⟩ : ∃ H, H = s.heap := ⟨_, rfl⟩
  obtain ⟨locs, hlo⟩ : ∃ L : List Loc, L = [] := ⟨_, rfl⟩
  rw [← hH, ← hlo]
  rw [← hlo] at hw
  replace hw : w_W G M r s H locs := by rw [hH]; exact hw
  have w13 : ∀ (n : Nat) (x1 : Int32) (r : Rho) (H : Heap) (locs : List Loc) (ls : Array Slot), w_W G M r s H locs → lv_has ls 2 [(0, .ref (g_r G)), (1, .int x1)] → W p l e rm_R_still s m args below meth c H locs 0 0 (PQ G below args s rm_R_still.cells rm_R_still.slots (fun z => (.inl (some (.int z.1)), M, z.2)) (f_R_still_13 N n x1 r)) (F0 m 13 ls []) := by
    intro n
    induction n with
    | zero => intros; exact W_none
    | succ n ih =>
      intro x1 r H locs ls hw hl
      rw [f_R_still_13]
      refine lv_iload_n hx hb dX12_still_13 rfl (lv_at hl 1 rfl) ?_
      refine lv_bipush (v := 60) hx hb dX12_still_14 (by decide) ?_
      refine cx_icmp_gt (tgt := 34) E dX12_still_16 (by decide) (fun _ => ?_) (fun _ => ?_)
      · refine lv_iconst (v := (-1)) hx hb dX12_still_34 (by decide) ?_
        exact p_iret E hw hr (Nat.le_of_ble_eq_true rfl) (Nat.le_of_ble_eq_true rfl) rfl dX12_still_35
      · refine lv_aload_n hx hb dX12_still_19 rfl (lv_at hl 0 rfl) ?_
        refine W_bind fun z2 hz => ?_
        refine w_after (cells1 := 0) (slots1 := 0) (w_runV E kV_R_357 kc_X12_year (t_R_year l hfl G on N M r ((fun z => (.inl (some (.int z.1)), M, z.2)) z2) (by rw [hz]; rfl)) ⟨Nat.le_of_ble_eq_true rfl, Nat.le_of_ble_eq_true rfl⟩ hw (w_recvR E hw on) rfl hl.1 rfl (Nat.le_of_ble_eq_true rfl) dX12_still_20 ⟨Nat.le_of_ble_eq_true rfl, Nat.le_of_ble_eq_true rfl⟩) hw rfl (Nat.le_of_ble_eq_true rfl) (Nat.le_of_ble_eq_true rfl) (fun H locs hw => ?_)
        refine W.eq (g2 := F0 m 23 ls [.int z2.1]) rfl ?_
        have hw : w_W G M z2.2 s H locs := hw
        refine cx_if_ne (tgt := 28) E dX12_still_23 (by decide) (fun _ => ?_) (fun _ => ?_)
        · refine lv_iinc (v := x1 + 1) (lv' := [(1, .int (x1 + 1)), (0, .ref (g_r G))]) hx hb dX12_still_28 hl (k := 1) rfl rfl (by decide) rfl (fun ls hl => ?_)
          refine lv_goto (tgt := 13) hx hb dX12_still_31 (by decide) ?_
          exact ih (x1 + 1) z2.2 _ _ _ hw (lv_sub hl [1, 0] rfl)
        · refine lv_iload_n hx hb dX12_still_26 rfl (lv_at hl 1 rfl) ?_
          exact p_iret E hw hr (Nat.le_of_ble_eq_true rfl) (Nat.le_of_ble_eq_true rfl) rfl dX12_still_27
  unfold f_R_still
  refine lv_aload_n hx hb dX12_still_0 rfl (lv_at hl 0 rfl) ?_
  refine lv_iconst (v := 0) hx hb dX12_still_1 (by decide) ?_
  refine rx_putI E hw on kF_R_56_11 (by decide) kT_11_0 dX12_still_2 (fun H locs hw => ?_)
  refine lv_aload_n hx hb dX12_still_5 rfl (lv_at hl 0 rfl) ?_
  refine lv_iconst (v := 0) hx hb dX12_still_6 (by decide) ?_
  refine lv_iconst (v := 0) hx hb dX12_still_7 (by decide) ?_
  refine W_bind fun z1 hz => ?_
  refine w_after (cells1 := 0) (slots1 := 0) (w_runV E kV_R_360 kc_X12_starts (t_R_starts l hfl G on N 0 0 M (r_set r 0 0) ((fun z => (.inl none, M, z)) z1) (by rw [hz]; rfl)) ⟨Nat.le_of_ble_eq_true rfl, Nat.le_of_ble_eq_true rfl⟩ hw (w_recvR E hw on) rfl hl.1 rfl (Nat.le_of_ble_eq_true rfl) dX12_still_8 ⟨Nat.le_of_ble_eq_true rfl, Nat.le_of_ble_eq_true rfl⟩) hw rfl (Nat.le_of_ble_eq_true rfl) (Nat.le_of_ble_eq_true rfl) (fun H locs hw => ?_)
  refine W.eq (g2 := F0 m 11 ls []) rfl ?_
  have hw : w_W G M z1 s H locs := hw
  refine lv_iconst (v := 0) hx hb dX12_still_11 (by decide) ?_
  refine lv_istore_n (lv' := [(1, .int 0), (0, .ref (g_r G))]) hx hb dX12_still_12 rfl hl (by decide) rfl (fun ls hl => ?_)
  exact w13  N 0 z1 _ _ _ hw (lv_sub hl [1, 0] rfl)
set_option maxHeartbeats 4000000 in
set_option maxRecDepth 100000 in
theorem t_R_wins (l : Launch) (hfl : l.stackTraces = false) (G : wG) (on : g_on G = true) (N : Nat) (a0 : Int32) (a1 : Int32) (a2 : Int32) (M : Mem) (r : Rho) : Ctr l yX12_wins (wWs yX12_wins cX12_wins 5 (some .boolean)) rm_R_wins rm_R_wins.cells rm_R_wins.slots G [.ref (g_r G), .int a0, .int a1, .int a2] M r ((f_R_wins N a0 a1 a2 r).map (fun z => (.inl (some (.int z.1)), M, z.2))) := by
  refine Ctr.ofF (own := "CheekTownModel") (by decide +kernel) hfl rfl (Nat.le_of_ble_eq_true rfl) (fun p e s m args below meth c E hno hr hnm hw ls hl => ?_)
  obtain ⟨hx, hb, hts, hown, hml, hTT, -⟩ := id E
  have hl : lv_has ls 5 [(0, .ref (g_r G)), (1, .int a0), (2, .int a1), (3, .int a2)] := hl
  obtain ⟨H, hH⟩ : ∃ H, H = s.heap := ⟨_, rfl⟩
  obtain ⟨locs, hlo⟩ : ∃ L : List Loc, L = [] := ⟨_, rfl⟩
  rw [← hH, ← hlo]
  rw [← hlo] at hw
  replace hw : w_W G M r s H locs := by rw [hH]; exact hw
  have w14 : ∀ (n : Nat) (x4 : Int32) (r : Rho) (H : Heap) (locs : List Loc) (ls : Array Slot), w_W G M r s H locs → lv_has ls 5 [(0, .ref (g_r G)), (2, .int a1), (4, .int x4)] → W p l e rm_R_wins s m args below meth c H locs 0 0 (PQ G below args s rm_R_wins.cells rm_R_wins.slots (fun z => (.inl (some (.int z.1)), M, z.2)) (f_R_wins_14 N a0 a1 a2 n x4 r)) (F0 m 14 ls []) := by
    intro n
    induction n with
    | zero => intros; exact W_none
    | succ n ih =>
      intro x4 r H locs ls hw hl
      rw [f_R_wins_14]
      refine lv_iload hx hb dX12_wins_14 (lv_at hl 2 rfl) ?_
      refine lv_aload_n hx hb dX12_wins_16 rfl (lv_at hl 0 rfl) ?_
      refine rx_getA E hw on kF_R_7_11 (by decide) dX12_wins_17 ?_
      refine lv_iconst (v := 5) hx hb dX12_wins_20 (by decide) ?_
      refine rx_iald E hw on (by decide) dX12_wins_21 (fun v3 => ?_)
      refine cx_icmp_ge (tgt := 44) E dX12_wins_22 (by decide) (fun _ => ?_) (fun _ => ?_)
      · refine lv_iconst (v := 1) hx hb dX12_wins_44 (by decide) ?_
        exact p_zret E hw hr (by decide) (Nat.le_of_ble_eq_true rfl) (Nat.le_of_ble_eq_true rfl) rfl dX12_wins_45
      · refine lv_aload_n hx hb dX12_wins_25 rfl (lv_at hl 0 rfl) ?_
        refine rx_getA E hw on kF_R_32_11 (by decide) dX12_wins_26 ?_
        refine lv_iload hx hb dX12_wins_29 (lv_at hl 2 rfl) ?_
        refine rx_iald E hw on (by decide) dX12_wins_31 (fun v4 => ?_)
        refine lv_iload_n hx hb dX12_wins_32 rfl (lv_at hl 1 rfl) ?_
        refine cx_icmp_eq (tgt := 38) E dX12_wins_33 (by decide) (fun _ => ?_) (fun _ => ?_)
        · refine lv_iinc (v := x4 + 1) (lv' := [(4, .int (x4 + 1)), (0, .ref (g_r G)), (2, .int a1)]) hx hb dX12_wins_38 hl (k := 2) rfl rfl (by decide) rfl (fun ls hl => ?_)
          refine lv_goto (tgt := 14) hx hb dX12_wins_41 (by decide) ?_
          exact ih (x4 + 1) r _ _ _ hw (lv_sub hl [1, 2, 0] rfl)
        · refine lv_iconst (v := 0) hx hb dX12_wins_36 (by decide) ?_
          exact p_zret E hw hr (by decide) (Nat.le_of_ble_eq_true rfl) (Nat.le_of_ble_eq_true rfl) rfl dX12_wins_37
  unfold f_R_wins
  refine lv_aload_n hx hb dX12_wins_0 rfl (lv_at hl 0 rfl) ?_
  refine lv_iload_n hx hb dX12_wins_1 rfl (lv_at hl 1 rfl) ?_
  refine lv_iload_n hx hb dX12_wins_2 rfl (lv_at hl 2 rfl) ?_
  refine W_bind fun z1 hz => ?_
  refine w_after (cells1 := 0) (slots1 := 0) (w_runV E kV_R_360 kc_X12_starts (t_R_starts l hfl G on N a0 a1 M r ((fun z => (.inl none, M, z)) z1) (by rw [hz]; rfl)) ⟨Nat.le_of_ble_eq_true rfl, Nat.le_of_ble_eq_true rfl⟩ hw (w_recvR E hw on) rfl hl.1 rfl (Nat.le_of_ble_eq_true rfl) dX12_wins_3 ⟨Nat.le_of_ble_eq_true rfl, Nat.le_of_ble_eq_true rfl⟩) hw rfl (Nat.le_of_ble_eq_true rfl) (Nat.le_of_ble_eq_true rfl) (fun H locs hw => ?_)
  refine W.eq (g2 := F0 m 6 ls []) rfl ?_
  have hw : w_W G M z1 s H locs := hw
  refine lv_aload_n hx hb dX12_wins_6 rfl (lv_at hl 0 rfl) ?_
  refine lv_iload_n hx hb dX12_wins_7 rfl (lv_at hl 3 rfl) ?_
  refine W_bind fun z2 hz => ?_
  refine w_after (cells1 := 0) (slots1 := 0) (w_runV E kV_R_363 kc_X12_years (t_R_years l hfl G on N a2 M z1 ((fun z => (.inl none, M, z)) z2) (by rw [hz]; rfl)) ⟨Nat.le_of_ble_eq_true rfl, Nat.le_of_ble_eq_true rfl⟩ hw (w_recvR E hw on) rfl hl.1 rfl (Nat.le_of_ble_eq_true rfl) dX12_wins_8 ⟨Nat.le_of_ble_eq_true rfl, Nat.le_of_ble_eq_true rfl⟩) hw rfl (Nat.le_of_ble_eq_true rfl) (Nat.le_of_ble_eq_true rfl) (fun H locs hw => ?_)
  refine W.eq (g2 := F0 m 11 ls []) rfl ?_
  have hw : w_W G M z2 s H locs := hw
  refine lv_iconst (v := 0) hx hb dX12_wins_11 (by decide) ?_
  refine lv_istore (lv' := [(4, .int 0), (0, .ref (g_r G)), (1, .int a0), (2, .int a1), (3, .int a2)]) hx hb dX12_wins_12 hl (by decide) rfl (fun ls hl => ?_)
  exact w14  N 0 z2 _ _ _ hw (lv_sub hl [1, 3, 0] rfl)
set_option maxHeartbeats 4000000 in
set_option maxRecDepth 100000 in
theorem t_R_told (l : Launch) (hfl : l.stackTraces = false) (G : wG) (on : g_on G = true) (N : Nat) (a0 : Int32) (a1 : Int32) (M : Mem) (r : Rho) : Ctr l yX12_told (wWs yX12_told cX12_told 5 (some .int)) rm_R_told rm_R_told.cells rm_R_told.slots G [.ref (g_r G), .int a0, .int a1] M r ((f_R_told N a0 a1 r).map (fun z => (.inl (some (.int z.1)), M, z.2))) := by
  refine Ctr.ofF (own := "CheekTownModel") (by decide +kernel) hfl rfl (Nat.le_of_ble_eq_true rfl) (fun p e s m args below meth c E hno hr hnm hw ls hl => ?_)
  obtain ⟨hx, hb, hts, hown, hml, hTT, -⟩ := id E
  have hl : lv_has ls 5 [(0, .ref (g_r G)), (1, .int a0), (2, .int a1)] := hl
  obtain ⟨H, hH⟩ : ∃ H, H = s.heap := ⟨_, rfl⟩
  obtain ⟨locs, hlo⟩ : ∃ L : List Loc, L = [] := ⟨_, rfl⟩
  rw [← hH, ← hlo]
  rw [← hlo] at hw
  replace hw : w_W G M r s H locs := by rw [hH]; exact hw
  have w77 : ∀ (k44 : Int32 → Int32 → Rho → Option (Int32 × Rho)) (hk44 : ∀ (x3 : Int32) (x4 : Int32) (r : Rho) (H : Heap) (locs : List Loc) (ls : Array Slot), w_W G M r s H locs → lv_has ls 5 [(0, .ref (g_r G)), (1, .int a0), (2, .int a1), (3, .int x3), (4, .int x4)] → W p l e rm_R_told s m args below meth c H locs 0 0 (PQ G below args s rm_R_told.cells rm_R_told.slots (fun z => (.inl (some (.int z.1)), M, z.2)) (k44 x3 x4 r)) (F0 m 44 ls [])) (x3 : Int32) (x4 : Int32) (r : Rho) (H : Heap) (locs : List Loc) (ls : Array Slot), w_W G M r s H locs → lv_has ls 5 [(0, .ref (g_r G)), (1, .int a0), (2, .int a1), (3, .int x3), (4, .int x4)] → W p l e rm_R_told s m args below meth c H locs 0 0 (PQ G below args s rm_R_told.cells rm_R_told.slots (fun z => (.inl (some (.int z.1)), M, z.2)) (f_R_told_77 N a0 a1 k44 x3 x4 r)) (F0 m 77 ls []) := by
    intro k44 hk44 x3 x4 r H locs ls hw hl
    unfold f_R_told_77
    refine lv_aload_n hx hb dX12_told_77 rfl (lv_at hl 0 rfl) ?_
    refine lv_iload hx hb dX12_told_78 (lv_at hl 4 rfl) ?_
    refine lv_iload_n hx hb dX12_told_80 rfl (lv_at hl 1 rfl) ?_
    refine lv_iload_n hx hb dX12_told_81 rfl (lv_at hl 2 rfl) ?_
    refine W_bind fun z6 hz => ?_
    refine w_after (cells1 := 0) (slots1 := 0) (w_runV E kV_R_369 kc_X12_wins (t_R_wins l hfl G on N x4 a0 a1 M r ((fun z => (.inl (some (.int z.1)), M, z.2)) z6) (by rw [hz]; rfl)) ⟨Nat.le_of_ble_eq_true rfl, Nat.le_of_ble_eq_true rfl⟩ hw (w_recvR E hw on) rfl hl.1 rfl (Nat.le_of_ble_eq_true rfl) dX12_told_82 ⟨Nat.le_of_ble_eq_true rfl, Nat.le_of_ble_eq_true rfl⟩) hw rfl (Nat.le_of_ble_eq_true rfl) (Nat.le_of_ble_eq_true rfl) (fun H locs hw => ?_)
    refine W.eq (g2 := F0 m 85 ls [.int z6.1]) rfl ?_
    have hw : w_W G M z6.2 s H locs := hw
    refine cx_if_eq (tgt := 91) E dX12_told_85 (by decide) (fun _ => ?_) (fun _ => ?_)
    · refine lv_iinc (v := x4 + 1) (lv' := [(4, .int (x4 + 1)), (0, .ref (g_r G)), (1, .int a0), (2, .int a1), (3, .int x3)]) hx hb dX12_told_91 hl (k := 4) rfl rfl (by decide) rfl (fun ls hl => ?_)
      refine lv_goto (tgt := 44) hx hb dX12_told_94 (by decide) ?_
      exact hk44 x3 (x4 + 1) z6.2 _ _ _ hw (lv_sub hl [1, 2, 3, 4, 0] rfl)
    · refine lv_iload hx hb dX12_told_88 (lv_at hl 4 rfl) ?_
      refine lv_istore_n (lv' := [(3, .int x4), (0, .ref (g_r G)), (1, .int a0), (2, .int a1), (4, .int x4)]) hx hb dX12_told_90 rfl hl (by decide) rfl (fun ls hl => ?_)
      refine lv_iinc (v := x4 + 1) (lv' := [(4, .int (x4 + 1)), (3, .int x4), (0, .ref (g_r G)), (1, .int a0), (2, .int a1)]) hx hb dX12_told_91 hl (k := 4) rfl rfl (by decide) rfl (fun ls hl => ?_)
      refine lv_goto (tgt := 44) hx hb dX12_told_94 (by decide) ?_
      exact hk44 x4 (x4 + 1) z6.2 _ _ _ hw (lv_sub hl [2, 3, 4, 1, 0] rfl)
  have w44 : ∀ (n : Nat) (x3 : Int32) (x4 : Int32) (r : Rho) (H : Heap) (locs : List Loc) (ls : Array Slot), w_W G M r s H locs → lv_has ls 5 [(0, .ref (g_r G)), (1, .int a0), (2, .int a1), (3, .int x3), (4, .int x4)] → W p l e rm_R_told s m args below meth c H locs 0 0 (PQ G below args s rm_R_told.cells rm_R_told.slots (fun z => (.inl (some (.int z.1)), M, z.2)) (f_R_told_44 N a0 a1 n x3 x4 r)) (F0 m 44 ls []) := by
    intro n
    induction n with
    | zero => intros; exact W_none
    | succ n ih =>
      intro x3 x4 r H locs ls hw hl
      rw [f_R_told_44]
      refine lv_iload hx hb dX12_told_44 (lv_at hl 4 rfl) ?_
      refine lv_iconst (v := 1) hx hb dX12_told_46 (by decide) ?_
      refine lv_aload_n hx hb dX12_told_47 rfl (lv_at hl 0 rfl) ?_
      refine rx_getA E hw on kF_R_7_11 (by decide) dX12_told_48 ?_
      refine lv_iconst (v := 5) hx hb dX12_told_51 (by decide) ?_
      refine rx_iald E hw on (by decide) dX12_told_52 (fun v3 => ?_)
      refine lv_ishl hx hb dX12_told_53 ?_
      refine cx_icmp_ge (tgt := 97) E dX12_told_54 (by decide) (fun _ => ?_) (fun _ => ?_)
      · refine lv_iload_n hx hb dX12_told_97 rfl (lv_at hl 3 rfl) ?_
        exact p_iret E hw hr (Nat.le_of_ble_eq_true rfl) (Nat.le_of_ble_eq_true rfl) rfl dX12_told_98
      · refine lv_iload_n hx hb dX12_told_57 rfl (lv_at hl 3 rfl) ?_
        refine lv_iconst (v := (-1)) hx hb dX12_told_58 (by decide) ?_
        refine cx_icmp_eq (tgt := 77) E dX12_told_59 (by decide) (fun _ => ?_) (fun _ => ?_)
        · exact w77 (f_R_told_44 N a0 a1 n) ih x3 x4 r _ _ _ hw (lv_sub hl [0, 1, 2, 3, 4] rfl)
        · refine lv_iload hx hb dX12_told_62 (lv_at hl 4 rfl) ?_
          refine W_bind fun z4 hz => ?_
          refine w_after (cells1 := 0) (slots1 := 0) (w_runS E kS_R_340 kc_X12_bits (t_R_bits l hfl G N x4 M r ((fun z => (.inl (some (.int z)), M, r)) z4) (by rw [hz]; rfl)) ⟨Nat.le_of_ble_eq_true rfl, Nat.le_of_ble_eq_true rfl⟩ hw rfl hl.1 rfl (Nat.le_of_ble_eq_true rfl) dX12_told_64 ⟨Nat.le_of_ble_eq_true rfl, Nat.le_of_ble_eq_true rfl⟩) hw rfl (Nat.le_of_ble_eq_true rfl) (Nat.le_of_ble_eq_true rfl) (fun H locs hw => ?_)
          refine W.eq (g2 := F0 m 67 ls [.int z4]) rfl ?_
          have hw : w_W G M r s H locs := hw
          refine lv_iload_n hx hb dX12_told_67 rfl (lv_at hl 3 rfl) ?_
          refine W_bind fun z5 hz => ?_
          refine w_after (cells1 := 0) (slots1 := 0) (w_runS E kS_R_340 kc_X12_bits (t_R_bits l hfl G N x3 M r ((fun z => (.inl (some (.int z)), M, r)) z5) (by rw [hz]; rfl)) ⟨Nat.le_of_ble_eq_true rfl, Nat.le_of_ble_eq_true rfl⟩ hw rfl hl.1 rfl (Nat.le_of_ble_eq_true rfl) dX12_told_68 ⟨Nat.le_of_ble_eq_true rfl, Nat.le_of_ble_eq_true rfl⟩) hw rfl (Nat.le_of_ble_eq_true rfl) (Nat.le_of_ble_eq_true rfl) (fun H locs hw => ?_)
          refine W.eq (g2 := F0 m 71 ls [.int z5, .int z4]) rfl ?_
          have hw : w_W G M r s H locs := hw
          refine cx_icmp_lt (tgt := 77) E dX12_told_71 (by decide) (fun _ => ?_) (fun _ => ?_)
          · exact w77 (f_R_told_44 N a0 a1 n) ih x3 x4 r _ _ _ hw (lv_sub hl [0, 1, 2, 3, 4] rfl)
          · refine lv_goto (tgt := 91) hx hb dX12_told_74 (by decide) ?_
            refine lv_iinc (v := x4 + 1) (lv' := [(4, .int (x4 + 1)), (0, .ref (g_r G)), (1, .int a0), (2, .int a1), (3, .int x3)]) hx hb dX12_told_91 hl (k := 4) rfl rfl (by decide) rfl (fun ls hl => ?_)
            refine lv_goto (tgt := 44) hx hb dX12_told_94 (by decide) ?_
            exact ih x3 (x4 + 1) r _ _ _ hw (lv_sub hl [1, 2, 3, 4, 0] rfl)
  have w27 : ∀ (y1 : Int32) (r : Rho) (H : Heap) (locs : List Loc) (ls : Array Slot), w_W G M r s H locs → lv_has ls 5 [(0, .ref (g_r G)), (1, .int a0), (2, .int a1)] → W p l e rm_R_told s m args below meth c H locs 0 0 (PQ G below args s rm_R_told.cells rm_R_told.slots (fun z => (.inl (some (.int z.1)), M, z.2)) (f_R_told_27 N a0 a1 y1 r)) (F0 m 27 ls [.int y1, .ref (g_r G)]) := by
    intro y1 r H locs ls hw hl
    unfold f_R_told_27
    refine rx_putI E hw on kF_R_56_11 (by decide) kT_11_0 dX12_told_27 (fun H locs hw => ?_)
    refine lv_aload_n hx hb dX12_told_30 rfl (lv_at hl 0 rfl) ?_
    refine rx_getI E hw on kF_R_56_11 (by decide) dX12_told_31 ?_
    refine cx_if_le (tgt := 39) E dX12_told_34 (by decide) (fun _ => ?_) (fun _ => ?_)
    · refine lv_iconst (v := (-1)) hx hb dX12_told_39 (by decide) ?_
      refine lv_istore_n (lv' := [(3, .int (-1)), (0, .ref (g_r G)), (1, .int a0), (2, .int a1)]) hx hb dX12_told_40 rfl hl (by decide) rfl (fun ls hl => ?_)
      refine lv_iconst (v := 0) hx hb dX12_told_41 (by decide) ?_
      refine lv_istore (lv' := [(4, .int 0), (3, .int (-1)), (0, .ref (g_r G)), (1, .int a0), (2, .int a1)]) hx hb dX12_told_42 hl (by decide) rfl (fun ls hl => ?_)
      exact w44  N (-1) 0 (r_set r 0 y1) _ _ _ hw (lv_sub hl [2, 3, 4, 1, 0] rfl)
    · refine lv_iconst (v := 0) hx hb dX12_told_37 (by decide) ?_
      exact p_iret E hw hr (Nat.le_of_ble_eq_true rfl) (Nat.le_of_ble_eq_true rfl) rfl dX12_told_38
  unfold f_R_told
  refine lv_aload_n hx hb dX12_told_0 rfl (lv_at hl 0 rfl) ?_
  refine lv_iload_n hx hb dX12_told_1 rfl (lv_at hl 1 rfl) ?_
  refine W_bind fun z1 hz => ?_
  refine w_after (cells1 := 0) (slots1 := 0) (w_runS E kS_R_260 kc_X12_isCode (t_R_isCode l hfl G a0 M r ((fun z => (.inl (some (.int z)), M, r)) z1) (by rw [hz]; rfl)) ⟨Nat.le_of_ble_eq_true rfl, Nat.le_of_ble_eq_true rfl⟩ hw rfl hl.1 rfl (Nat.le_of_ble_eq_true rfl) dX12_told_2 ⟨Nat.le_of_ble_eq_true rfl, Nat.le_of_ble_eq_true rfl⟩) hw rfl (Nat.le_of_ble_eq_true rfl) (Nat.le_of_ble_eq_true rfl) (fun H locs hw => ?_)
  refine W.eq (g2 := F0 m 5 ls [.int z1, .ref (g_r G)]) rfl ?_
  have hw : w_W G M r s H locs := hw
  refine cx_if_ne (tgt := 12) E dX12_told_5 (by decide) (fun _ => ?_) (fun _ => ?_)
  · refine lv_iload_n hx hb dX12_told_12 rfl (lv_at hl 2 rfl) ?_
    refine lv_iconst (v := 0) hx hb dX12_told_13 (by decide) ?_
    refine lv_bipush (v := 60) hx hb dX12_told_14 (by decide) ?_
    refine W_bind fun z2 hz => ?_
    refine w_after (cells1 := 0) (slots1 := 0) (w_runS E kS_R_59 kc_X12_isIn (t_R_isIn l hfl G a1 0 60 M r ((fun z => (.inl (some (.int z)), M, r)) z2) (by rw [hz]; rfl)) ⟨Nat.le_of_ble_eq_true rfl, Nat.le_of_ble_eq_true rfl⟩ hw rfl hl.1 rfl (Nat.le_of_ble_eq_true rfl) dX12_told_16 ⟨Nat.le_of_ble_eq_true rfl, Nat.le_of_ble_eq_true rfl⟩) hw rfl (Nat.le_of_ble_eq_true rfl) (Nat.le_of_ble_eq_true rfl) (fun H locs hw => ?_)
    refine W.eq (g2 := F0 m 19 ls [.int z2, .ref (g_r G)]) rfl ?_
    have hw : w_W G M r s H locs := hw
    refine cx_if_ne (tgt := 26) E dX12_told_19 (by decide) (fun _ => ?_) (fun _ => ?_)
    · refine lv_iconst (v := 0) hx hb dX12_told_26 (by decide) ?_
      exact w27  0 r _ _ _ hw (lv_sub hl [0, 1, 2] rfl)
    · refine lv_iconst (v := 2) hx hb dX12_told_22 (by decide) ?_
      refine lv_goto (tgt := 27) hx hb dX12_told_23 (by decide) ?_
      exact w27  2 r _ _ _ hw (lv_sub hl [0, 1, 2] rfl)
  · refine lv_iconst (v := 1) hx hb dX12_told_8 (by decide) ?_
    refine lv_goto (tgt := 27) hx hb dX12_told_9 (by decide) ?_
    exact w27  1 r _ _ _ hw (lv_sub hl [0, 1, 2] rfl)
set_option maxHeartbeats 4000000 in
set_option maxRecDepth 100000 in
theorem t_R_coldsNow (l : Launch) (hfl : l.stackTraces = false) (G : wG) (on : g_on G = true) (N : Nat) (M : Mem) (r : Rho) : Ctr l yX12_coldsNow (wWs yX12_coldsNow cX12_coldsNow 3 (some .int)) rm_R_coldsNow rm_R_coldsNow.cells rm_R_coldsNow.slots G [.ref (g_r G)] M r ((f_R_coldsNow N r).map (fun z => (.inl (some (.int z)), M, r))) := by
  refine Ctr.ofF (own := "CheekTownModel") (by decide +kernel) hfl rfl (Nat.le_of_ble_eq_true rfl) (fun p e s m args below meth c E hno hr hnm hw ls hl => ?_)
  obtain ⟨hx, hb, hts, hown, hml, hTT, -⟩ := id E
  have hl : lv_has ls 3 [(0, .ref (g_r G))] := hl
  obtain ⟨H, hH⟩ : ∃ H, H = s.heap := ⟨_, rfl⟩
  obtain ⟨locs, hlo⟩ : ∃ L : List Loc, L = [] := ⟨_, rfl⟩
  rw [← hH, ← hlo]
  rw [← hlo] at hw
  replace hw : w_W G M r s H locs := by rw [hH]; exact hw
  have w4 : ∀ (n : Nat) (x1 : Int32) (x2 : Int32) (H : Heap) (locs : List Loc) (ls : Array Slot), w_W G M r s H locs → lv_has ls 3 [(0, .ref (g_r G)), (1, .int x1), (2, .int x2)] → W p l e rm_R_coldsNow s m args below meth c H locs 0 0 (PQ G below args s rm_R_coldsNow.cells rm_R_coldsNow.slots (fun z => (.inl (some (.int z)), M, r)) (f_R_coldsNow_4 N r n x1 x2)) (F0 m 4 ls []) := by
    intro n
    induction n with
    | zero => intros; exact W_none
    | succ n ih =>
      intro x1 x2 H locs ls hw hl
      rw [f_R_coldsNow_4]
      refine lv_iload_n hx hb dX12_coldsNow_4 rfl (lv_at hl 2 rfl) ?_
      refine lv_aload_n hx hb dX12_coldsNow_5 rfl (lv_at hl 0 rfl) ?_
      refine rx_getA E hw on kF_R_7_11 (by decide) dX12_coldsNow_6 ?_
      refine lv_iconst (v := 5) hx hb dX12_coldsNow_9 (by decide) ?_
      refine rx_iald E hw on (by decide) dX12_coldsNow_10 (fun v1 => ?_)
      refine cx_icmp_ge (tgt := 31) E dX12_coldsNow_11 (by decide) (fun _ => ?_) (fun _ => ?_)
      · refine lv_iload_n hx hb dX12_coldsNow_31 rfl (lv_at hl 1 rfl) ?_
        exact p_iret E hw hr (Nat.le_of_ble_eq_true rfl) (Nat.le_of_ble_eq_true rfl) rfl dX12_coldsNow_32
      · refine lv_iload_n hx hb dX12_coldsNow_14 rfl (lv_at hl 1 rfl) ?_
        refine lv_aload_n hx hb dX12_coldsNow_15 rfl (lv_at hl 0 rfl) ?_
        refine lv_iload_n hx hb dX12_coldsNow_16 rfl (lv_at hl 2 rfl) ?_
        refine lv_iconst (v := 4) hx hb dX12_coldsNow_17 (by decide) ?_
        refine W_bind fun z2 hz => ?_
        refine w_after (cells1 := 0) (slots1 := 0) (w_runV E kV_R_257 kc_X12_of (t_R_of l hfl G on x2 4 M r ((fun z => (.inl (some (.int z)), M, r)) z2) (by rw [hz]; rfl)) ⟨Nat.le_of_ble_eq_true rfl, Nat.le_of_ble_eq_true rfl⟩ hw (w_recvR E hw on) rfl hl.1 rfl (Nat.le_of_ble_eq_true rfl) dX12_coldsNow_18 ⟨Nat.le_of_ble_eq_true rfl, Nat.le_of_ble_eq_true rfl⟩) hw rfl (Nat.le_of_ble_eq_true rfl) (Nat.le_of_ble_eq_true rfl) (fun H locs hw => ?_)
        refine W.eq (g2 := F0 m 21 ls [.int z2, .int x1]) rfl ?_
        have hw : w_W G M r s H locs := hw
        refine lv_iload_n hx hb dX12_coldsNow_21 rfl (lv_at hl 2 rfl) ?_
        refine lv_ishl hx hb dX12_coldsNow_22 ?_
        refine lv_ior hx hb dX12_coldsNow_23 ?_
        refine lv_istore_n (lv' := [(1, .int (x1 ||| (z2 <<< (x2 &&& 31)))), (0, .ref (g_r G)), (2, .int x2)]) hx hb dX12_coldsNow_24 rfl hl (by decide) rfl (fun ls hl => ?_)
        refine lv_iinc (v := x2 + 1) (lv' := [(2, .int (x2 + 1)), (1, .int (x1 ||| (z2 <<< (x2 &&& 31)))), (0, .ref (g_r G))]) hx hb dX12_coldsNow_25 hl (k := 2) rfl rfl (by decide) rfl (fun ls hl => ?_)
        refine lv_goto (tgt := 4) hx hb dX12_coldsNow_28 (by decide) ?_
        exact ih (x1 ||| (z2 <<< (x2 &&& 31))) (x2 + 1) _ _ _ hw (lv_sub hl [2, 1, 0] rfl)
  unfold f_R_coldsNow
  refine lv_iconst (v := 0) hx hb dX12_coldsNow_0 (by decide) ?_
  refine lv_istore_n (lv' := [(1, .int 0), (0, .ref (g_r G))]) hx hb dX12_coldsNow_1 rfl hl (by decide) rfl (fun ls hl => ?_)
  refine lv_iconst (v := 0) hx hb dX12_coldsNow_2 (by decide) ?_
  refine lv_istore_n (lv' := [(2, .int 0), (1, .int 0), (0, .ref (g_r G))]) hx hb dX12_coldsNow_3 rfl hl (by decide) rfl (fun ls hl => ?_)
  exact w4  N 0 0 _ _ _ hw (lv_sub hl [2, 1, 0] rfl)
set_option maxHeartbeats 4000000 in
set_option maxRecDepth 100000 in
theorem t_R_passes (l : Launch) (hfl : l.stackTraces = false) (G : wG) (on : g_on G = true) (N : Nat) (a0 : Int32) (a1 : Int32) (M : Mem) (r : Rho) : Ctr l yX12_passes (wWs yX12_passes cX12_passes 7 (some .int)) rm_R_passes rm_R_passes.cells rm_R_passes.slots G [.ref (g_r G), .int a0, .int a1] M r ((f_R_passes N a0 a1 r).map (fun z => (.inl (some (.int z)), M, r))) := by
  refine Ctr.ofF (own := "CheekTownModel") (by decide +kernel) hfl rfl (Nat.le_of_ble_eq_true rfl) (fun p e s m args below meth c E hno hr hnm hw ls hl => ?_)
  obtain ⟨hx, hb, hts, hown, hml, hTT, -⟩ := id E
  have hl : lv_has ls 7 [(0, .ref (g_r G)), (1, .int a0), (2, .int a1)] := hl
  obtain ⟨H, hH⟩ : ∃ H, H = s.heap := ⟨_, rfl⟩
  obtain ⟨locs, hlo⟩ : ∃ L : List Loc, L = [] := ⟨_, rfl⟩
  rw [← hH, ← hlo]
  rw [← hlo] at hw
  replace hw : w_W G M r s H locs := by rw [hH]; exact hw
  have w17 : ∀ (k8 : Int32 → Int32 → Option (Int32)) (hk8 : ∀ (x3 : Int32) (x4 : Int32) (H : Heap) (locs : List Loc) (ls : Array Slot), w_W G M r s H locs → lv_has ls 7 [(0, .ref (g_r G)), (1, .int a0), (2, .int a1), (3, .int x3), (4, .int x4)] → W p l e rm_R_passes s m args below meth c H locs 0 0 (PQ G below args s rm_R_passes.cells rm_R_passes.slots (fun z => (.inl (some (.int z)), M, r)) (k8 x3 x4)) (F0 m 8 ls [])) (n : Nat) (x3 : Int32) (x4 : Int32) (x5 : Int32) (H : Heap) (locs : List Loc) (ls : Array Slot), w_W G M r s H locs → lv_has ls 7 [(0, .ref (g_r G)), (1, .int a0), (2, .int a1), (3, .int x3), (4, .int x4), (5, .int x5)] → W p l e rm_R_passes s m args below meth c H locs 0 0 (PQ G below args s rm_R_passes.cells rm_R_passes.slots (fun z => (.inl (some (.int z)), M, r)) (f_R_passes_17 N a0 a1 r k8 n x3 x4 x5)) (F0 m 17 ls []) := by
    intro k8 hk8 n
    induction n with
    | zero => intros; exact W_none
    | succ n ih =>
      intro x3 x4 x5 H locs ls hw hl
      rw [f_R_passes_17]
      refine lv_iload hx hb dX12_passes_17 (lv_at hl 5 rfl) ?_
      refine lv_aload_n hx hb dX12_passes_19 rfl (lv_at hl 0 rfl) ?_
      refine rx_getA E hw on kF_R_7_11 (by decide) dX12_passes_20 ?_
      refine lv_bipush (v := 6) hx hb dX12_passes_23 (by decide) ?_
      refine rx_iald E hw on (by decide) dX12_passes_25 (fun v2 => ?_)
      refine cx_icmp_ge (tgt := 73) E dX12_passes_26 (by decide) (fun _ => ?_) (fun _ => ?_)
      · refine lv_iinc (v := x4 + 1) (lv' := [(4, .int (x4 + 1)), (0, .ref (g_r G)), (1, .int a0), (2, .int a1), (3, .int x3), (5, .int x5)]) hx hb dX12_passes_73 hl (k := 4) rfl rfl (by decide) rfl (fun ls hl => ?_)
        refine lv_goto (tgt := 8) hx hb dX12_passes_76 (by decide) ?_
        exact hk8 x3 (x4 + 1) _ _ _ hw (lv_sub hl [1, 2, 3, 4, 0] rfl)
      · refine lv_iconst (v := 1) hx hb dX12_passes_29 (by decide) ?_
        refine lv_aload_n hx hb dX12_passes_30 rfl (lv_at hl 0 rfl) ?_
        refine lv_iload hx hb dX12_passes_31 (lv_at hl 5 rfl) ?_
        refine W_bind fun z3 hz => ?_
        refine w_after (cells1 := 0) (slots1 := 0) (w_runV E kV_R_63 kc_X12_who (t_R_who l hfl G on x5 M r ((fun z => (.inl (some (.int z)), M, r)) z3) (by rw [hz]; rfl)) ⟨Nat.le_of_ble_eq_true rfl, Nat.le_of_ble_eq_true rfl⟩ hw (w_recvR E hw on) rfl hl.1 rfl (Nat.le_of_ble_eq_true rfl) dX12_passes_33 ⟨Nat.le_of_ble_eq_true rfl, Nat.le_of_ble_eq_true rfl⟩) hw rfl (Nat.le_of_ble_eq_true rfl) (Nat.le_of_ble_eq_true rfl) (fun H locs hw => ?_)
        refine W.eq (g2 := F0 m 36 ls [.int z3, .int 1]) rfl ?_
        have hw : w_W G M r s H locs := hw
        refine lv_ishl hx hb dX12_passes_36 ?_
        refine lv_iconst (v := 1) hx hb dX12_passes_37 (by decide) ?_
        refine lv_aload_n hx hb dX12_passes_38 rfl (lv_at hl 0 rfl) ?_
        refine lv_iload hx hb dX12_passes_39 (lv_at hl 5 rfl) ?_
        refine W_bind fun z4 hz => ?_
        refine w_after (cells1 := 0) (slots1 := 0) (w_runV E kV_R_67 kc_X12_whom (t_R_whom l hfl G on x5 M r ((fun z => (.inl (some (.int z)), M, r)) z4) (by rw [hz]; rfl)) ⟨Nat.le_of_ble_eq_true rfl, Nat.le_of_ble_eq_true rfl⟩ hw (w_recvR E hw on) rfl hl.1 rfl (Nat.le_of_ble_eq_true rfl) dX12_passes_41 ⟨Nat.le_of_ble_eq_true rfl, Nat.le_of_ble_eq_true rfl⟩) hw rfl (Nat.le_of_ble_eq_true rfl) (Nat.le_of_ble_eq_true rfl) (fun H locs hw => ?_)
        refine W.eq (g2 := F0 m 44 ls [.int z4, .int 1, .int (1 <<< (z3 &&& 31))]) rfl ?_
        have hw : w_W G M r s H locs := hw
        refine lv_ishl hx hb dX12_passes_44 ?_
        refine lv_ior hx hb dX12_passes_45 ?_
        refine lv_istore (lv' := [(6, .int ((1 <<< (z3 &&& 31)) ||| (1 <<< (z4 &&& 31)))), (0, .ref (g_r G)), (1, .int a0), (2, .int a1), (3, .int x3), (4, .int x4), (5, .int x5)]) hx hb dX12_passes_46 hl (by decide) rfl (fun ls hl => ?_)
        refine lv_iload_n hx hb dX12_passes_48 rfl (lv_at hl 2 rfl) ?_
        refine lv_iload hx hb dX12_passes_49 (lv_at hl 0 rfl) ?_
        refine lv_iand hx hb dX12_passes_51 ?_
        refine cx_if_ne (tgt := 67) E dX12_passes_52 (by decide) (fun _ => ?_) (fun _ => ?_)
        · refine lv_iinc (v := x5 + 1) (lv' := [(5, .int (x5 + 1)), (6, .int ((1 <<< (z3 &&& 31)) ||| (1 <<< (z4 &&& 31)))), (0, .ref (g_r G)), (1, .int a0), (2, .int a1), (3, .int x3), (4, .int x4)]) hx hb dX12_passes_67 hl (k := 6) rfl rfl (by decide) rfl (fun ls hl => ?_)
          refine lv_goto (tgt := 17) hx hb dX12_passes_70 (by decide) ?_
          exact ih x3 x4 (x5 + 1) _ _ _ hw (lv_sub hl [2, 3, 4, 5, 6, 0] rfl)
        · refine lv_iload_n hx hb dX12_passes_55 rfl (lv_at hl 4 rfl) ?_
          refine lv_iload hx hb dX12_passes_56 (lv_at hl 0 rfl) ?_
          refine lv_iand hx hb dX12_passes_58 ?_
          refine cx_if_eq (tgt := 67) E dX12_passes_59 (by decide) (fun _ => ?_) (fun _ => ?_)
          · refine lv_iinc (v := x5 + 1) (lv' := [(5, .int (x5 + 1)), (6, .int ((1 <<< (z3 &&& 31)) ||| (1 <<< (z4 &&& 31)))), (0, .ref (g_r G)), (1, .int a0), (2, .int a1), (3, .int x3), (4, .int x4)]) hx hb dX12_passes_67 hl (k := 6) rfl rfl (by decide) rfl (fun ls hl => ?_)
            refine lv_goto (tgt := 17) hx hb dX12_passes_70 (by decide) ?_
            exact ih x3 x4 (x5 + 1) _ _ _ hw (lv_sub hl [2, 3, 4, 5, 6, 0] rfl)
          · refine lv_iload_n hx hb dX12_passes_62 rfl (lv_at hl 4 rfl) ?_
            refine lv_iload hx hb dX12_passes_63 (lv_at hl 0 rfl) ?_
            refine lv_ior hx hb dX12_passes_65 ?_
            refine lv_istore_n (lv' := [(3, .int (x3 ||| ((1 <<< (z3 &&& 31)) ||| (1 <<< (z4 &&& 31))))), (6, .int ((1 <<< (z3 &&& 31)) ||| (1 <<< (z4 &&& 31)))), (0, .ref (g_r G)), (1, .int a0), (2, .int a1), (4, .int x4), (5, .int x5)]) hx hb dX12_passes_66 rfl hl (by decide) rfl (fun ls hl => ?_)
            refine lv_iinc (v := x5 + 1) (lv' := [(5, .int (x5 + 1)), (3, .int (x3 ||| ((1 <<< (z3 &&& 31)) ||| (1 <<< (z4 &&& 31))))), (6, .int ((1 <<< (z3 &&& 31)) ||| (1 <<< (z4 &&& 31)))), (0, .ref (g_r G)), (1, .int a0), (2, .int a1), (4, .int x4)]) hx hb dX12_passes_67 hl (k := 6) rfl rfl (by decide) rfl (fun ls hl => ?_)
            refine lv_goto (tgt := 17) hx hb dX12_passes_70 (by decide) ?_
            exact ih (x3 ||| ((1 <<< (z3 &&& 31)) ||| (1 <<< (z4 &&& 31)))) x4 (x5 + 1) _ _ _ hw (lv_sub hl [3, 4, 5, 1, 6, 0] rfl)
  have w8 : ∀ (n : Nat) (x3 : Int32) (x4 : Int32) (H : Heap) (locs : List Loc) (ls : Array Slot), w_W G M r s H locs → lv_has ls 7 [(0, .ref (g_r G)), (1, .int a0), (2, .int a1), (3, .int x3), (4, .int x4)] → W p l e rm_R_passes s m args below meth c H locs 0 0 (PQ G below args s rm_R_passes.cells rm_R_passes.slots (fun z => (.inl (some (.int z)), M, r)) (f_R_passes_8 N a0 a1 r n x3 x4)) (F0 m 8 ls []) := by
    intro n
    induction n with
    | zero => intros; exact W_none
    | succ n ih =>
      intro x3 x4 H locs ls hw hl
      rw [f_R_passes_8]
      refine lv_iload hx hb dX12_passes_8 (lv_at hl 4 rfl) ?_
      refine lv_iload_n hx hb dX12_passes_10 rfl (lv_at hl 2 rfl) ?_
      refine cx_icmp_ge (tgt := 79) E dX12_passes_11 (by decide) (fun _ => ?_) (fun _ => ?_)
      · refine lv_iload_n hx hb dX12_passes_79 rfl (lv_at hl 3 rfl) ?_
        exact p_iret E hw hr (Nat.le_of_ble_eq_true rfl) (Nat.le_of_ble_eq_true rfl) rfl dX12_passes_80
      · refine lv_iconst (v := 0) hx hb dX12_passes_14 (by decide) ?_
        refine lv_istore (lv' := [(5, .int 0), (0, .ref (g_r G)), (1, .int a0), (2, .int a1), (3, .int x3), (4, .int x4)]) hx hb dX12_passes_15 hl (by decide) rfl (fun ls hl => ?_)
        exact w17 (f_R_passes_8 N a0 a1 r n) ih N x3 x4 0 _ _ _ hw (lv_sub hl [1, 2, 3, 4, 5, 0] rfl)
  unfold f_R_passes
  refine lv_aload_n hx hb dX12_passes_0 rfl (lv_at hl 0 rfl) ?_
  refine W_bind fun z1 hz => ?_
  refine w_after (cells1 := 0) (slots1 := 0) (w_runV E kV_R_372 kc_X12_coldsNow (t_R_coldsNow l hfl G on N M r ((fun z => (.inl (some (.int z)), M, r)) z1) (by rw [hz]; rfl)) ⟨Nat.le_of_ble_eq_true rfl, Nat.le_of_ble_eq_true rfl⟩ hw (w_recvR E hw on) rfl hl.1 rfl (Nat.le_of_ble_eq_true rfl) dX12_passes_1 ⟨Nat.le_of_ble_eq_true rfl, Nat.le_of_ble_eq_true rfl⟩) hw rfl (Nat.le_of_ble_eq_true rfl) (Nat.le_of_ble_eq_true rfl) (fun H locs hw => ?_)
  refine W.eq (g2 := F0 m 4 ls [.int z1]) rfl ?_
  have hw : w_W G M r s H locs := hw
  refine lv_istore_n (lv' := [(3, .int z1), (0, .ref (g_r G)), (1, .int a0), (2, .int a1)]) hx hb dX12_passes_4 rfl hl (by decide) rfl (fun ls hl => ?_)
  refine lv_iconst (v := 0) hx hb dX12_passes_5 (by decide) ?_
  refine lv_istore (lv' := [(4, .int 0), (3, .int z1), (0, .ref (g_r G)), (1, .int a0), (2, .int a1)]) hx hb dX12_passes_6 hl (by decide) rfl (fun ls hl => ?_)
  exact w8  N z1 0 _ _ _ hw (lv_sub hl [2, 3, 4, 1, 0] rfl)
set_option maxHeartbeats 4000000 in
set_option maxRecDepth 100000 in
theorem t_R_colds (l : Launch) (hfl : l.stackTraces = false) (G : wG) (on : g_on G = true) (N : Nat) (a0 : Int32) (a1 : Int32) (M : Mem) (r : Rho) : Ctr l yX12_colds (wWs yX12_colds cX12_colds 3 (some .int)) rm_R_colds rm_R_colds.cells rm_R_colds.slots G [.ref (g_r G), .int a0, .int a1] M r ((f_R_colds N a0 a1 r).map (fun z => (.inl (some (.int z.1)), M, z.2))) := by
  refine Ctr.ofF (own := "CheekTownModel") (by decide +kernel) hfl rfl (Nat.le_of_ble_eq_true rfl) (fun p e s m args below meth c E hno hr hnm hw ls hl => ?_)
  obtain ⟨hx, hb, hts, hown, hml, hTT, -⟩ := id E
  have hl : lv_has ls 3 [(0, .ref (g_r G)), (1, .int a0), (2, .int a1)] := hl
  obtain ⟨H, hH⟩ : ∃ H, H = s.heap := ⟨_, rfl⟩
  obtain ⟨locs, hlo⟩ : ∃ L : List Loc, L = [] := ⟨_, rfl⟩
  rw [← hH, ← hlo]
  rw [← hlo] at hw
  replace hw : w_W G M r s H locs := by rw [hH]; exact hw
  have w16 : ∀ (y1 : Int32) (r : Rho) (H : Heap) (locs : List Loc) (ls : Array Slot), w_W G M r s H locs → lv_has ls 3 [(0, .ref (g_r G)), (1, .int a0), (2, .int a1)] → W p l e rm_R_colds s m args below meth c H locs 0 0 (PQ G below args s rm_R_colds.cells rm_R_colds.slots (fun z => (.inl (some (.int z.1)), M, z.2)) (f_R_colds_16 N a0 a1 y1 r)) (F0 m 16 ls [.int y1, .ref (g_r G)]) := by
    intro y1 r H locs ls hw hl
    unfold f_R_colds_16
    refine rx_putI E hw on kF_R_56_11 (by decide) kT_11_0 dX12_colds_16 (fun H locs hw => ?_)
    refine lv_aload_n hx hb dX12_colds_19 rfl (lv_at hl 0 rfl) ?_
    refine rx_getI E hw on kF_R_56_11 (by decide) dX12_colds_20 ?_
    refine cx_if_le (tgt := 30) E dX12_colds_23 (by decide) (fun _ => ?_) (fun _ => ?_)
    · refine lv_aload_n hx hb dX12_colds_30 rfl (lv_at hl 0 rfl) ?_
      refine lv_iload_n hx hb dX12_colds_31 rfl (lv_at hl 1 rfl) ?_
      refine lv_iload_n hx hb dX12_colds_32 rfl (lv_at hl 2 rfl) ?_
      refine W_bind fun z2 hz => ?_
      refine w_after (cells1 := 0) (slots1 := 0) (w_runV E kV_R_375 kc_X12_passes (t_R_passes l hfl G on N a0 a1 M (r_set r 0 y1) ((fun z => (.inl (some (.int z)), M, (r_set r 0 y1))) z2) (by rw [hz]; rfl)) ⟨Nat.le_of_ble_eq_true rfl, Nat.le_of_ble_eq_true rfl⟩ hw (w_recvR E hw on) rfl hl.1 rfl (Nat.le_of_ble_eq_true rfl) dX12_colds_33 ⟨Nat.le_of_ble_eq_true rfl, Nat.le_of_ble_eq_true rfl⟩) hw rfl (Nat.le_of_ble_eq_true rfl) (Nat.le_of_ble_eq_true rfl) (fun H locs hw => ?_)
      refine W.eq (g2 := F0 m 36 ls [.int z2]) rfl ?_
      have hw : w_W G M (r_set r 0 y1) s H locs := hw
      exact p_iret E hw hr (Nat.le_of_ble_eq_true rfl) (Nat.le_of_ble_eq_true rfl) rfl dX12_colds_36
    · refine lv_iconst (v := 0) hx hb dX12_colds_26 (by decide) ?_
      refine lv_goto (tgt := 36) hx hb dX12_colds_27 (by decide) ?_
      exact p_iret E hw hr (Nat.le_of_ble_eq_true rfl) (Nat.le_of_ble_eq_true rfl) rfl dX12_colds_36
  unfold f_R_colds
  refine lv_aload_n hx hb dX12_colds_0 rfl (lv_at hl 0 rfl) ?_
  refine lv_iload_n hx hb dX12_colds_1 rfl (lv_at hl 2 rfl) ?_
  refine lv_iconst (v := 0) hx hb dX12_colds_2 (by decide) ?_
  refine lv_bipush (v := 20) hx hb dX12_colds_3 (by decide) ?_
  refine W_bind fun z1 hz => ?_
  refine w_after (cells1 := 0) (slots1 := 0) (w_runS E kS_R_59 kc_X12_isIn (t_R_isIn l hfl G a1 0 20 M r ((fun z => (.inl (some (.int z)), M, r)) z1) (by rw [hz]; rfl)) ⟨Nat.le_of_ble_eq_true rfl, Nat.le_of_ble_eq_true rfl⟩ hw rfl hl.1 rfl (Nat.le_of_ble_eq_true rfl) dX12_colds_5 ⟨Nat.le_of_ble_eq_true rfl, Nat.le_of_ble_eq_true rfl⟩) hw rfl (Nat.le_of_ble_eq_true rfl) (Nat.le_of_ble_eq_true rfl) (fun H locs hw => ?_)
  refine W.eq (g2 := F0 m 8 ls [.int z1, .ref (g_r G)]) rfl ?_
  have hw : w_W G M r s H locs := hw
  refine cx_if_ne (tgt := 15) E dX12_colds_8 (by decide) (fun _ => ?_) (fun _ => ?_)
  · refine lv_iconst (v := 0) hx hb dX12_colds_15 (by decide) ?_
    exact w16  0 r _ _ _ hw (lv_sub hl [0, 1, 2] rfl)
  · refine lv_iconst (v := 1) hx hb dX12_colds_11 (by decide) ?_
    refine lv_goto (tgt := 16) hx hb dX12_colds_12 (by decide) ?_
    exact w16  1 r _ _ _ hw (lv_sub hl [0, 1, 2] rfl)
set_option maxHeartbeats 4000000 in
set_option maxRecDepth 100000 in
theorem t_R_spared (l : Launch) (hfl : l.stackTraces = false) (G : wG) (on : g_on G = true) (N : Nat) (a0 : Int32) (a1 : Int32) (M : Mem) (r : Rho) : Ctr l yX12_spared (wWs yX12_spared cX12_spared 5 (some .int)) rm_R_spared rm_R_spared.cells rm_R_spared.slots G [.ref (g_r G), .int a0, .int a1] M r ((f_R_spared N a0 a1 r).map (fun z => (.inl (some (.int z.1)), M, z.2))) := by
  refine Ctr.ofF (own := "CheekTownModel") (by decide +kernel) hfl rfl (Nat.le_of_ble_eq_true rfl) (fun p e s m args below meth c E hno hr hnm hw ls hl => ?_)
  obtain ⟨hx, hb, hts, hown, hml, hTT, -⟩ := id E
  have hl : lv_has ls 5 [(0, .ref (g_r G)), (1, .int a0), (2, .int a1)] := hl
  obtain ⟨H, hH⟩ : ∃ H, H = s.heap := ⟨_, rfl⟩
  obtain ⟨locs, hlo⟩ : ∃ L : List Loc, L = [] := ⟨_, rfl⟩
  rw [← hH, ← hlo]
  rw [← hlo] at hw
  replace hw : w_W G M r s H locs := by rw [hH]; exact hw
  have w102 : ∀ (k59 : Int32 → Int32 → Rho → Option (Int32 × Rho)) (hk59 : ∀ (x3 : Int32) (x4 : Int32) (r : Rho) (H : Heap) (locs : List Loc) (ls : Array Slot), w_W G M r s H locs → lv_has ls 5 [(0, .ref (g_r G)), (1, .int a0), (2, .int a1), (3, .int x3), (4, .int x4)] → W p l e rm_R_spared s m args below meth c H locs 0 0 (PQ G below args s rm_R_spared.cells rm_R_spared.slots (fun z => (.inl (some (.int z.1)), M, z.2)) (k59 x3 x4 r)) (F0 m 59 ls [])) (x3 : Int32) (x4 : Int32) (r : Rho) (H : Heap) (locs : List Loc) (ls : Array Slot), w_W G M r s H locs → lv_has ls 5 [(0, .ref (g_r G)), (1, .int a0), (2, .int a1), (3, .int x3), (4, .int x4)] → W p l e rm_R_spared s m args below meth c H locs 0 0 (PQ G below args s rm_R_spared.cells rm_R_spared.slots (fun z => (.inl (some (.int z.1)), M, z.2)) (f_R_spared_102 N a0 a1 k59 x3 x4 r)) (F0 m 102 ls []) := by
    intro k59 hk59 x3 x4 r H locs ls hw hl
    unfold f_R_spared_102
    refine lv_aload_n hx hb dX12_spared_102 rfl (lv_at hl 0 rfl) ?_
    refine lv_iload hx hb dX12_spared_103 (lv_at hl 4 rfl) ?_
    refine lv_iload_n hx hb dX12_spared_105 rfl (lv_at hl 2 rfl) ?_
    refine W_bind fun z8 hz => ?_
    refine w_after (cells1 := 0) (slots1 := 0) (w_runV E kV_R_375 kc_X12_passes (t_R_passes l hfl G on N x4 a1 M r ((fun z => (.inl (some (.int z)), M, r)) z8) (by rw [hz]; rfl)) ⟨Nat.le_of_ble_eq_true rfl, Nat.le_of_ble_eq_true rfl⟩ hw (w_recvR E hw on) rfl hl.1 rfl (Nat.le_of_ble_eq_true rfl) dX12_spared_106 ⟨Nat.le_of_ble_eq_true rfl, Nat.le_of_ble_eq_true rfl⟩) hw rfl (Nat.le_of_ble_eq_true rfl) (Nat.le_of_ble_eq_true rfl) (fun H locs hw => ?_)
    refine W.eq (g2 := F0 m 109 ls [.int z8]) rfl ?_
    have hw : w_W G M r s H locs := hw
    refine lv_iload_n hx hb dX12_spared_109 rfl (lv_at hl 1 rfl) ?_
    refine W_bind fun z9 hz => ?_
    refine w_after (cells1 := 0) (slots1 := 0) (w_runS E kS_R_305 kc_X12_isOf (t_R_isOf l hfl G z8 a0 M r ((fun z => (.inl (some (.int z)), M, r)) z9) (by rw [hz]; rfl)) ⟨Nat.le_of_ble_eq_true rfl, Nat.le_of_ble_eq_true rfl⟩ hw rfl hl.1 rfl (Nat.le_of_ble_eq_true rfl) dX12_spared_110 ⟨Nat.le_of_ble_eq_true rfl, Nat.le_of_ble_eq_true rfl⟩) hw rfl (Nat.le_of_ble_eq_true rfl) (Nat.le_of_ble_eq_true rfl) (fun H locs hw => ?_)
    refine W.eq (g2 := F0 m 113 ls [.int z9]) rfl ?_
    have hw : w_W G M r s H locs := hw
    refine cx_if_ne (tgt := 119) E dX12_spared_113 (by decide) (fun _ => ?_) (fun _ => ?_)
    · refine lv_iinc (v := x4 + 1) (lv' := [(4, .int (x4 + 1)), (0, .ref (g_r G)), (1, .int a0), (2, .int a1), (3, .int x3)]) hx hb dX12_spared_119 hl (k := 4) rfl rfl (by decide) rfl (fun ls hl => ?_)
      refine lv_goto (tgt := 59) hx hb dX12_spared_122 (by decide) ?_
      exact hk59 x3 (x4 + 1) r _ _ _ hw (lv_sub hl [1, 2, 3, 4, 0] rfl)
    · refine lv_iload hx hb dX12_spared_116 (lv_at hl 4 rfl) ?_
      refine lv_istore_n (lv' := [(3, .int x4), (0, .ref (g_r G)), (1, .int a0), (2, .int a1), (4, .int x4)]) hx hb dX12_spared_118 rfl hl (by decide) rfl (fun ls hl => ?_)
      refine lv_iinc (v := x4 + 1) (lv' := [(4, .int (x4 + 1)), (3, .int x4), (0, .ref (g_r G)), (1, .int a0), (2, .int a1)]) hx hb dX12_spared_119 hl (k := 4) rfl rfl (by decide) rfl (fun ls hl => ?_)
      refine lv_goto (tgt := 59) hx hb dX12_spared_122 (by decide) ?_
      exact hk59 x4 (x4 + 1) r _ _ _ hw (lv_sub hl [2, 3, 4, 1, 0] rfl)
  have w59 : ∀ (n : Nat) (x3 : Int32) (x4 : Int32) (r : Rho) (H : Heap) (locs : List Loc) (ls : Array Slot), w_W G M r s H locs → lv_has ls 5 [(0, .ref (g_r G)), (1, .int a0), (2, .int a1), (3, .int x3), (4, .int x4)] → W p l e rm_R_spared s m args below meth c H locs 0 0 (PQ G below args s rm_R_spared.cells rm_R_spared.slots (fun z => (.inl (some (.int z.1)), M, z.2)) (f_R_spared_59 N a0 a1 n x3 x4 r)) (F0 m 59 ls []) := by
    intro n
    induction n with
    | zero => intros; exact W_none
    | succ n ih =>
      intro x3 x4 r H locs ls hw hl
      rw [f_R_spared_59]
      refine lv_iload hx hb dX12_spared_59 (lv_at hl 4 rfl) ?_
      refine lv_iconst (v := 1) hx hb dX12_spared_61 (by decide) ?_
      refine lv_aload_n hx hb dX12_spared_62 rfl (lv_at hl 0 rfl) ?_
      refine rx_getA E hw on kF_R_7_11 (by decide) dX12_spared_63 ?_
      refine lv_iconst (v := 5) hx hb dX12_spared_66 (by decide) ?_
      refine rx_iald E hw on (by decide) dX12_spared_67 (fun v4 => ?_)
      refine lv_ishl hx hb dX12_spared_68 ?_
      refine cx_icmp_ge (tgt := 125) E dX12_spared_69 (by decide) (fun _ => ?_) (fun _ => ?_)
      · refine lv_iload_n hx hb dX12_spared_125 rfl (lv_at hl 3 rfl) ?_
        exact p_iret E hw hr (Nat.le_of_ble_eq_true rfl) (Nat.le_of_ble_eq_true rfl) rfl dX12_spared_126
      · refine lv_iload hx hb dX12_spared_72 (lv_at hl 4 rfl) ?_
        refine lv_iload_n hx hb dX12_spared_74 rfl (lv_at hl 1 rfl) ?_
        refine W_bind fun z5 hz => ?_
        refine w_after (cells1 := 0) (slots1 := 0) (w_runS E kS_R_305 kc_X12_isOf (t_R_isOf l hfl G x4 a0 M r ((fun z => (.inl (some (.int z)), M, r)) z5) (by rw [hz]; rfl)) ⟨Nat.le_of_ble_eq_true rfl, Nat.le_of_ble_eq_true rfl⟩ hw rfl hl.1 rfl (Nat.le_of_ble_eq_true rfl) dX12_spared_75 ⟨Nat.le_of_ble_eq_true rfl, Nat.le_of_ble_eq_true rfl⟩) hw rfl (Nat.le_of_ble_eq_true rfl) (Nat.le_of_ble_eq_true rfl) (fun H locs hw => ?_)
        refine W.eq (g2 := F0 m 78 ls [.int z5]) rfl ?_
        have hw : w_W G M r s H locs := hw
        refine cx_if_ne (tgt := 119) E dX12_spared_78 (by decide) (fun _ => ?_) (fun _ => ?_)
        · refine lv_iinc (v := x4 + 1) (lv' := [(4, .int (x4 + 1)), (0, .ref (g_r G)), (1, .int a0), (2, .int a1), (3, .int x3)]) hx hb dX12_spared_119 hl (k := 4) rfl rfl (by decide) rfl (fun ls hl => ?_)
          refine lv_goto (tgt := 59) hx hb dX12_spared_122 (by decide) ?_
          exact ih x3 (x4 + 1) r _ _ _ hw (lv_sub hl [1, 2, 3, 4, 0] rfl)
        · refine lv_iload_n hx hb dX12_spared_81 rfl (lv_at hl 3 rfl) ?_
          refine lv_bipush (v := (-2)) hx hb dX12_spared_82 (by decide) ?_
          refine cx_icmp_eq (tgt := 102) E dX12_spared_84 (by decide) (fun _ => ?_) (fun _ => ?_)
          · exact w102 (f_R_spared_59 N a0 a1 n) ih x3 x4 r _ _ _ hw (lv_sub hl [0, 1, 2, 3, 4] rfl)
          · refine lv_iload hx hb dX12_spared_87 (lv_at hl 4 rfl) ?_
            refine W_bind fun z6 hz => ?_
            refine w_after (cells1 := 0) (slots1 := 0) (w_runS E kS_R_340 kc_X12_bits (t_R_bits l hfl G N x4 M r ((fun z => (.inl (some (.int z)), M, r)) z6) (by rw [hz]; rfl)) ⟨Nat.le_of_ble_eq_true rfl, Nat.le_of_ble_eq_true rfl⟩ hw rfl hl.1 rfl (Nat.le_of_ble_eq_true rfl) dX12_spared_89 ⟨Nat.le_of_ble_eq_true rfl, Nat.le_of_ble_eq_true rfl⟩) hw rfl (Nat.le_of_ble_eq_true rfl) (Nat.le_of_ble_eq_true rfl) (fun H locs hw => ?_)
            refine W.eq (g2 := F0 m 92 ls [.int z6]) rfl ?_
            have hw : w_W G M r s H locs := hw
            refine lv_iload_n hx hb dX12_spared_92 rfl (lv_at hl 3 rfl) ?_
            refine W_bind fun z7 hz => ?_
            refine w_after (cells1 := 0) (slots1 := 0) (w_runS E kS_R_340 kc_X12_bits (t_R_bits l hfl G N x3 M r ((fun z => (.inl (some (.int z)), M, r)) z7) (by rw [hz]; rfl)) ⟨Nat.le_of_ble_eq_true rfl, Nat.le_of_ble_eq_true rfl⟩ hw rfl hl.1 rfl (Nat.le_of_ble_eq_true rfl) dX12_spared_93 ⟨Nat.le_of_ble_eq_true rfl, Nat.le_of_ble_eq_true rfl⟩) hw rfl (Nat.le_of_ble_eq_true rfl) (Nat.le_of_ble_eq_true rfl) (fun H locs hw => ?_)
            refine W.eq (g2 := F0 m 96 ls [.int z7, .int z6]) rfl ?_
            have hw : w_W G M r s H locs := hw
            refine cx_icmp_lt (tgt := 102) E dX12_spared_96 (by decide) (fun _ => ?_) (fun _ => ?_)
            · exact w102 (f_R_spared_59 N a0 a1 n) ih x3 x4 r _ _ _ hw (lv_sub hl [0, 1, 2, 3, 4] rfl)
            · refine lv_goto (tgt := 119) hx hb dX12_spared_99 (by decide) ?_
              refine lv_iinc (v := x4 + 1) (lv' := [(4, .int (x4 + 1)), (0, .ref (g_r G)), (1, .int a0), (2, .int a1), (3, .int x3)]) hx hb dX12_spared_119 hl (k := 4) rfl rfl (by decide) rfl (fun ls hl => ?_)
              refine lv_goto (tgt := 59) hx hb dX12_spared_122 (by decide) ?_
              exact ih x3 (x4 + 1) r _ _ _ hw (lv_sub hl [1, 2, 3, 4, 0] rfl)
  have w28 : ∀ (y1 : Int32) (r : Rho) (H : Heap) (locs : List Loc) (ls : Array Slot), w_W G M r s H locs → lv_has ls 5 [(0, .ref (g_r G)), (1, .int a0), (2, .int a1)] → W p l e rm_R_spared s m args below meth c H locs 0 0 (PQ G below args s rm_R_spared.cells rm_R_spared.slots (fun z => (.inl (some (.int z.1)), M, z.2)) (f_R_spared_28 N a0 a1 y1 r)) (F0 m 28 ls [.int y1, .ref (g_r G)]) := by
    intro y1 r H locs ls hw hl
    unfold f_R_spared_28
    refine rx_putI E hw on kF_R_56_11 (by decide) kT_11_0 dX12_spared_28 (fun H locs hw => ?_)
    refine lv_aload_n hx hb dX12_spared_31 rfl (lv_at hl 0 rfl) ?_
    refine rx_getI E hw on kF_R_56_11 (by decide) dX12_spared_32 ?_
    refine cx_if_le (tgt := 40) E dX12_spared_35 (by decide) (fun _ => ?_) (fun _ => ?_)
    · refine lv_aload_n hx hb dX12_spared_40 rfl (lv_at hl 0 rfl) ?_
      refine lv_iload_n hx hb dX12_spared_41 rfl (lv_at hl 1 rfl) ?_
      refine lv_iconst (v := 4) hx hb dX12_spared_42 (by decide) ?_
      refine W_bind fun z3 hz => ?_
      refine w_after (cells1 := 0) (slots1 := 0) (w_runV E kV_R_257 kc_X12_of (t_R_of l hfl G on a0 4 M (r_set r 0 y1) ((fun z => (.inl (some (.int z)), M, (r_set r 0 y1))) z3) (by rw [hz]; rfl)) ⟨Nat.le_of_ble_eq_true rfl, Nat.le_of_ble_eq_true rfl⟩ hw (w_recvR E hw on) rfl hl.1 rfl (Nat.le_of_ble_eq_true rfl) dX12_spared_43 ⟨Nat.le_of_ble_eq_true rfl, Nat.le_of_ble_eq_true rfl⟩) hw rfl (Nat.le_of_ble_eq_true rfl) (Nat.le_of_ble_eq_true rfl) (fun H locs hw => ?_)
      refine W.eq (g2 := F0 m 46 ls [.int z3]) rfl ?_
      have hw : w_W G M (r_set r 0 y1) s H locs := hw
      refine lv_iconst (v := 1) hx hb dX12_spared_46 (by decide) ?_
      refine cx_icmp_ne (tgt := 53) E dX12_spared_47 (by decide) (fun _ => ?_) (fun _ => ?_)
      · refine lv_bipush (v := (-2)) hx hb dX12_spared_53 (by decide) ?_
        refine lv_istore_n (lv' := [(3, .int (-2)), (0, .ref (g_r G)), (1, .int a0), (2, .int a1)]) hx hb dX12_spared_55 rfl hl (by decide) rfl (fun ls hl => ?_)
        refine lv_iconst (v := 0) hx hb dX12_spared_56 (by decide) ?_
        refine lv_istore (lv' := [(4, .int 0), (3, .int (-2)), (0, .ref (g_r G)), (1, .int a0), (2, .int a1)]) hx hb dX12_spared_57 hl (by decide) rfl (fun ls hl => ?_)
        exact w59  N (-2) 0 (r_set r 0 y1) _ _ _ hw (lv_sub hl [2, 3, 4, 1, 0] rfl)
      · refine lv_bipush (v := (-2)) hx hb dX12_spared_50 (by decide) ?_
        exact p_iret E hw hr (Nat.le_of_ble_eq_true rfl) (Nat.le_of_ble_eq_true rfl) rfl dX12_spared_52
    · refine lv_iconst (v := 0) hx hb dX12_spared_38 (by decide) ?_
      exact p_iret E hw hr (Nat.le_of_ble_eq_true rfl) (Nat.le_of_ble_eq_true rfl) rfl dX12_spared_39
  unfold f_R_spared
  refine lv_aload_n hx hb dX12_spared_0 rfl (lv_at hl 0 rfl) ?_
  refine lv_aload_n hx hb dX12_spared_1 rfl (lv_at hl 0 rfl) ?_
  refine lv_iload_n hx hb dX12_spared_2 rfl (lv_at hl 1 rfl) ?_
  refine W_bind fun z1 hz => ?_
  refine w_after (cells1 := 0) (slots1 := 0) (w_runV E kV_R_271 kc_X12_isPerson (t_R_isPerson l hfl G on a0 M r ((fun z => (.inl (some (.int z)), M, r)) z1) (by rw [hz]; rfl)) ⟨Nat.le_of_ble_eq_true rfl, Nat.le_of_ble_eq_true rfl⟩ hw (w_recvR E hw on) rfl hl.1 rfl (Nat.le_of_ble_eq_true rfl) dX12_spared_3 ⟨Nat.le_of_ble_eq_true rfl, Nat.le_of_ble_eq_true rfl⟩) hw rfl (Nat.le_of_ble_eq_true rfl) (Nat.le_of_ble_eq_true rfl) (fun H locs hw => ?_)
  refine W.eq (g2 := F0 m 6 ls [.int z1, .ref (g_r G)]) rfl ?_
  have hw : w_W G M r s H locs := hw
  refine cx_if_ne (tgt := 13) E dX12_spared_6 (by decide) (fun _ => ?_) (fun _ => ?_)
  · refine lv_iload_n hx hb dX12_spared_13 rfl (lv_at hl 2 rfl) ?_
    refine lv_iconst (v := 0) hx hb dX12_spared_14 (by decide) ?_
    refine lv_bipush (v := 20) hx hb dX12_spared_15 (by decide) ?_
    refine W_bind fun z2 hz => ?_
    refine w_after (cells1 := 0) (slots1 := 0) (w_runS E kS_R_59 kc_X12_isIn (t_R_isIn l hfl G a1 0 20 M r ((fun z => (.inl (some (.int z)), M, r)) z2) (by rw [hz]; rfl)) ⟨Nat.le_of_ble_eq_true rfl, Nat.le_of_ble_eq_true rfl⟩ hw rfl hl.1 rfl (Nat.le_of_ble_eq_true rfl) dX12_spared_17 ⟨Nat.le_of_ble_eq_true rfl, Nat.le_of_ble_eq_true rfl⟩) hw rfl (Nat.le_of_ble_eq_true rfl) (Nat.le_of_ble_eq_true rfl) (fun H locs hw => ?_)
    refine W.eq (g2 := F0 m 20 ls [.int z2, .ref (g_r G)]) rfl ?_
    have hw : w_W G M r s H locs := hw
    refine cx_if_ne (tgt := 27) E dX12_spared_20 (by decide) (fun _ => ?_) (fun _ => ?_)
    · refine lv_iconst (v := 0) hx hb dX12_spared_27 (by decide) ?_
      exact w28  0 r _ _ _ hw (lv_sub hl [0, 1, 2] rfl)
    · refine lv_iconst (v := 2) hx hb dX12_spared_23 (by decide) ?_
      refine lv_goto (tgt := 28) hx hb dX12_spared_24 (by decide) ?_
      exact w28  2 r _ _ _ hw (lv_sub hl [0, 1, 2] rfl)
  · refine lv_iconst (v := 1) hx hb dX12_spared_9 (by decide) ?_
    refine lv_goto (tgt := 28) hx hb dX12_spared_10 (by decide) ?_
    exact w28  1 r _ _ _ hw (lv_sub hl [0, 1, 2] rfl)
set_option maxHeartbeats 4000000 in
set_option maxRecDepth 100000 in
theorem t_R_logged (l : Launch) (hfl : l.stackTraces = false) (G : wG) (on : g_on G = true) (a0 : Int32) (a1 : Int32) (M : Mem) (r : Rho) : Ctr l yX12_logged (wWs yX12_logged cX12_logged 3 (some .int)) rm_R_logged rm_R_logged.cells rm_R_logged.slots G [.ref (g_r G), .int a0, .int a1] M r ((f_R_logged a0 a1 r).map (fun z => (.inl (some (.int z)), M, r))) := by
  refine Ctr.ofF (own := "CheekTownModel") (by decide +kernel) hfl rfl (Nat.le_of_ble_eq_true rfl) (fun p e s m args below meth c E hno hr hnm hw ls hl => ?_)
  obtain ⟨hx, hb, hts, hown, hml, hTT, -⟩ := id E
  have hl : lv_has ls 3 [(0, .ref (g_r G)), (1, .int a0), (2, .int a1)] := hl
  obtain ⟨H, hH⟩ : ∃ H, H = s.heap := ⟨_, rfl⟩
  obtain ⟨locs, hlo⟩ : ∃ L : List Loc, L = [] := ⟨_, rfl⟩
  rw [← hH, ← hlo]
  rw [← hlo] at hw
  replace hw : w_W G M r s H locs := by rw [hH]; exact hw
  unfold f_R_logged
  refine lv_aload_n hx hb dX12_logged_0 rfl (lv_at hl 0 rfl) ?_
  refine rx_getA E hw on kF_R_7_11 (by decide) dX12_logged_1 ?_
  refine lv_sipush (v := 420) hx hb dX12_logged_4 (by decide) ?_
  refine lv_bipush (v := 8) hx hb dX12_logged_7 (by decide) ?_
  refine lv_iload_n hx hb dX12_logged_9 rfl (lv_at hl 1 rfl) ?_
  refine lv_imul hx hb dX12_logged_10 ?_
  refine lv_iadd hx hb dX12_logged_11 ?_
  refine lv_iload_n hx hb dX12_logged_12 rfl (lv_at hl 2 rfl) ?_
  refine lv_iadd hx hb dX12_logged_13 ?_
  refine rx_iald E hw on (by decide) dX12_logged_14 (fun v1 => ?_)
  exact p_iret E hw hr (Nat.le_of_ble_eq_true rfl) (Nat.le_of_ble_eq_true rfl) rfl dX12_logged_15
set_option maxHeartbeats 4000000 in
set_option maxRecDepth 100000 in
theorem t_R_changed (l : Launch) (hfl : l.stackTraces = false) (G : wG) (on : g_on G = true) (N : Nat) (a0 : Int32) (M : Mem) (r : Rho) : Ctr l yX12_changed (wWs yX12_changed cX12_changed 9 (some .int)) rm_R_changed rm_R_changed.cells rm_R_changed.slots G [.ref (g_r G), .int a0] M r ((f_R_changed N a0 r).map (fun z => (.inl (some (.int z.1)), M, z.2))) := by
  refine Ctr.ofF (own := "CheekTownModel") (by decide +kernel) hfl rfl (Nat.le_of_ble_eq_true rfl) (fun p e s m args below meth c E hno hr hnm hw ls hl => ?_)
  obtain ⟨hx, hb, hts, hown, hml, hTT, -⟩ := id E
  have hl : lv_has ls 9 [(0, .ref (g_r G)), (1, .int a0)] := hl
  obtain ⟨H, hH⟩ : ∃ H, H = s.heap := ⟨_, rfl⟩
  obtain ⟨locs, hlo⟩ : ∃ L : List Loc, L = [] := ⟨_, rfl⟩
  rw [← hH, ← hlo]
  rw [← hlo] at hw
  replace hw : w_W G M r s H locs := by rw [hH]; exact hw
  have w130 : ∀ (k41 : Int32 → Int32 → Int32 → Rho → Option (Int32 × Rho)) (hk41 : ∀ (x2 : Int32) (x3 : Int32) (x4 : Int32) (r : Rho) (H : Heap) (locs : List Loc) (ls : Array Slot), w_W G M r s H locs → lv_has ls 9 [(0, .ref (g_r G)), (1, .int a0), (2, .int x2), (3, .int x3), (4, .int x4)] → W p l e rm_R_changed s m args below meth c H locs 0 0 (PQ G below args s rm_R_changed.cells rm_R_changed.slots (fun z => (.inl (some (.int z.1)), M, z.2)) (k41 x2 x3 x4 r)) (F0 m 41 ls [])) (k49 : Int32 → Int32 → Int32 → Int32 → Rho → Option (Int32 × Rho)) (hk49 : ∀ (x2 : Int32) (x3 : Int32) (x4 : Int32) (x5 : Int32) (r : Rho) (H : Heap) (locs : List Loc) (ls : Array Slot), w_W G M r s H locs → lv_has ls 9 [(0, .ref (g_r G)), (1, .int a0), (2, .int x2), (3, .int x3), (4, .int x4), (5, .int x5)] → W p l e rm_R_changed s m args below meth c H locs 0 0 (PQ G below args s rm_R_changed.cells rm_R_changed.slots (fun z => (.inl (some (.int z.1)), M, z.2)) (k49 x2 x3 x4 x5 r)) (F0 m 49 ls [])) (x2 : Int32) (x3 : Int32) (x4 : Int32) (x5 : Int32) (x7 : Int32) (x8 : Int32) (r : Rho) (H : Heap) (locs : List Loc) (ls : Array Slot), w_W G M r s H locs → lv_has ls 9 [(0, .ref (g_r G)), (1, .int a0), (2, .int x2), (3, .int x3), (4, .int x4), (5, .int x5), (7, .int x7), (8, .int x8)] → W p l e rm_R_changed s m args below meth c H locs 0 0 (PQ G below args s rm_R_changed.cells rm_R_changed.slots (fun z => (.inl (some (.int z.1)), M, z.2)) (f_R_changed_130 N a0 k41 k49 x2 x3 x4 x5 x7 x8 r)) (F0 m 130 ls []) := by
    intro k41 hk41 k49 hk49 x2 x3 x4 x5 x7 x8 r H locs ls hw hl
    unfold f_R_changed_130
    refine lv_aload_n hx hb dX12_changed_130 rfl (lv_at hl 0 rfl) ?_
    refine rx_getA E hw on kF_R_53_11 (by decide) dX12_changed_131 ?_
    refine lv_iload hx hb dX12_changed_134 (lv_at hl 6 rfl) ?_
    refine lv_iload hx hb dX12_changed_136 (lv_at hl 7 rfl) ?_
    refine rx_iast E hw on (by decide) dX12_changed_138 (fun r8 H locs hw => ?_)
    refine lv_iinc (v := x5 + 1) (lv' := [(5, .int (x5 + 1)), (0, .ref (g_r G)), (1, .int a0), (2, .int x2), (3, .int x3), (4, .int x4), (7, .int x7), (8, .int x8)]) hx hb dX12_changed_139 hl (k := 5) rfl rfl (by decide) rfl (fun ls hl => ?_)
    refine lv_goto (tgt := 49) hx hb dX12_changed_142 (by decide) ?_
    exact hk49 x2 x3 x4 (x5 + 1) r8 _ _ _ hw (lv_sub hl [1, 2, 3, 4, 5, 0] rfl)
  have w49 : ∀ (k41 : Int32 → Int32 → Int32 → Rho → Option (Int32 × Rho)) (hk41 : ∀ (x2 : Int32) (x3 : Int32) (x4 : Int32) (r : Rho) (H : Heap) (locs : List Loc) (ls : Array Slot), w_W G M r s H locs → lv_has ls 9 [(0, .ref (g_r G)), (1, .int a0), (2, .int x2), (3, .int x3), (4, .int x4)] → W p l e rm_R_changed s m args below meth c H locs 0 0 (PQ G below args s rm_R_changed.cells rm_R_changed.slots (fun z => (.inl (some (.int z.1)), M, z.2)) (k41 x2 x3 x4 r)) (F0 m 41 ls [])) (n : Nat) (x2 : Int32) (x3 : Int32) (x4 : Int32) (x5 : Int32) (r : Rho) (H : Heap) (locs : List Loc) (ls : Array Slot), w_W G M r s H locs → lv_has ls 9 [(0, .ref (g_r G)), (1, .int a0), (2, .int x2), (3, .int x3), (4, .int x4), (5, .int x5)] → W p l e rm_R_changed s m args below meth c H locs 0 0 (PQ G below args s rm_R_changed.cells rm_R_changed.slots (fun z => (.inl (some (.int z.1)), M, z.2)) (f_R_changed_49 N a0 k41 n x2 x3 x4 x5 r)) (F0 m 49 ls []) := by
    intro k41 hk41 n
    induction n with
    | zero => intros; exact W_none
    | succ n ih =>
      intro x2 x3 x4 x5 r H locs ls hw hl
      rw [f_R_changed_49]
      refine lv_iload hx hb dX12_changed_49 (lv_at hl 5 rfl) ?_
      refine lv_iconst (v := 2) hx hb dX12_changed_51 (by decide) ?_
      refine cx_icmp_ge (tgt := 145) E dX12_changed_52 (by decide) (fun _ => ?_) (fun _ => ?_)
      · refine lv_iinc (v := x4 + (-1)) (lv' := [(4, .int (x4 + (-1))), (0, .ref (g_r G)), (1, .int a0), (2, .int x2), (3, .int x3), (5, .int x5)]) hx hb dX12_changed_145 hl (k := 4) rfl rfl (by decide) rfl (fun ls hl => ?_)
        refine lv_goto (tgt := 41) hx hb dX12_changed_148 (by decide) ?_
        exact hk41 x2 x3 (x4 + (-1)) r _ _ _ hw (lv_sub hl [1, 2, 3, 4, 0] rfl)
      · refine lv_aload_n hx hb dX12_changed_55 rfl (lv_at hl 0 rfl) ?_
        refine lv_iload hx hb dX12_changed_56 (lv_at hl 4 rfl) ?_
        refine lv_iconst (v := 1) hx hb dX12_changed_58 (by decide) ?_
        refine lv_iload hx hb dX12_changed_59 (lv_at hl 5 rfl) ?_
        refine lv_iadd hx hb dX12_changed_61 ?_
        refine W_bind fun z3 hz => ?_
        refine w_after (cells1 := 0) (slots1 := 0) (w_runV E kV_R_378 kc_X12_logged (t_R_logged l hfl G on x4 (1 + x5) M r ((fun z => (.inl (some (.int z)), M, r)) z3) (by rw [hz]; rfl)) ⟨Nat.le_of_ble_eq_true rfl, Nat.le_of_ble_eq_true rfl⟩ hw (w_recvR E hw on) rfl hl.1 rfl (Nat.le_of_ble_eq_true rfl) dX12_changed_62 ⟨Nat.le_of_ble_eq_true rfl, Nat.le_of_ble_eq_true rfl⟩) hw rfl (Nat.le_of_ble_eq_true rfl) (Nat.le_of_ble_eq_true rfl) (fun H locs hw => ?_)
        refine W.eq (g2 := F0 m 65 ls [.int z3]) rfl ?_
        have hw : w_W G M r s H locs := hw
        refine lv_istore (lv' := [(6, .int z3), (0, .ref (g_r G)), (1, .int a0), (2, .int x2), (3, .int x3), (4, .int x4), (5, .int x5)]) hx hb dX12_changed_65 hl (by decide) rfl (fun ls hl => ?_)
        refine lv_bipush (v := 10) hx hb dX12_changed_67 (by decide) ?_
        refine lv_iload hx hb dX12_changed_69 (lv_at hl 0 rfl) ?_
        refine lv_imul hx hb dX12_changed_71 ?_
        refine lv_aload_n hx hb dX12_changed_72 rfl (lv_at hl 1 rfl) ?_
        refine lv_iload hx hb dX12_changed_73 (lv_at hl 5 rfl) ?_
        refine lv_iconst (v := 2) hx hb dX12_changed_75 (by decide) ?_
        refine lv_iload hx hb dX12_changed_76 (lv_at hl 6 rfl) ?_
        refine lv_isub hx hb dX12_changed_78 ?_
        refine W_bind fun z4 hz => ?_
        refine w_after (cells1 := 0) (slots1 := 0) (w_runV E kV_R_378 kc_X12_logged (t_R_logged l hfl G on x4 (2 - x5) M r ((fun z => (.inl (some (.int z)), M, r)) z4) (by rw [hz]; rfl)) ⟨Nat.le_of_ble_eq_true rfl, Nat.le_of_ble_eq_true rfl⟩ hw (w_recvR E hw on) rfl hl.1 rfl (Nat.le_of_ble_eq_true rfl) dX12_changed_79 ⟨Nat.le_of_ble_eq_true rfl, Nat.le_of_ble_eq_true rfl⟩) hw rfl (Nat.le_of_ble_eq_true rfl) (Nat.le_of_ble_eq_true rfl) (fun H locs hw => ?_)
        refine W.eq (g2 := F0 m 82 ls [.int z4, .int (10 * z3)]) rfl ?_
        have hw : w_W G M r s H locs := hw
        refine lv_iadd hx hb dX12_changed_82 ?_
        refine lv_istore (lv' := [(7, .int ((10 * z3) + z4)), (6, .int z3), (0, .ref (g_r G)), (1, .int a0), (2, .int x2), (3, .int x3), (4, .int x4), (5, .int x5)]) hx hb dX12_changed_83 hl (by decide) rfl (fun ls hl => ?_)
        refine lv_aload_n hx hb dX12_changed_85 rfl (lv_at hl 2 rfl) ?_
        refine lv_iload hx hb dX12_changed_86 (lv_at hl 6 rfl) ?_
        refine lv_iconst (v := 3) hx hb dX12_changed_88 (by decide) ?_
        refine lv_iload hx hb dX12_changed_89 (lv_at hl 7 rfl) ?_
        refine lv_iadd hx hb dX12_changed_91 ?_
        refine W_bind fun z5 hz => ?_
        refine w_after (cells1 := 0) (slots1 := 0) (w_runV E kV_R_378 kc_X12_logged (t_R_logged l hfl G on x4 (3 + x5) M r ((fun z => (.inl (some (.int z)), M, r)) z5) (by rw [hz]; rfl)) ⟨Nat.le_of_ble_eq_true rfl, Nat.le_of_ble_eq_true rfl⟩ hw (w_recvR E hw on) rfl hl.1 rfl (Nat.le_of_ble_eq_true rfl) dX12_changed_92 ⟨Nat.le_of_ble_eq_true rfl, Nat.le_of_ble_eq_true rfl⟩) hw rfl (Nat.le_of_ble_eq_true rfl) (Nat.le_of_ble_eq_true rfl) (fun H locs hw => ?_)
        refine W.eq (g2 := F0 m 95 ls [.int z5]) rfl ?_
        have hw : w_W G M r s H locs := hw
        refine lv_istore (lv' := [(8, .int z5), (7, .int ((10 * z3) + z4)), (6, .int z3), (0, .ref (g_r G)), (1, .int a0), (2, .int x2), (3, .int x3), (4, .int x4), (5, .int x5)]) hx hb dX12_changed_95 hl (by decide) rfl (fun ls hl => ?_)
        refine lv_aload_n hx hb dX12_changed_97 rfl (lv_at hl 3 rfl) ?_
        refine rx_getA E hw on kF_R_53_11 (by decide) dX12_changed_98 ?_
        refine lv_iload hx hb dX12_changed_101 (lv_at hl 1 rfl) ?_
        refine rx_iald E hw on (by decide) dX12_changed_103 (fun v6 => ?_)
        refine lv_iconst (v := (-1)) hx hb dX12_changed_104 (by decide) ?_
        refine cx_icmp_eq (tgt := 130) E dX12_changed_105 (by decide) (fun _ => ?_) (fun _ => ?_)
        · exact w130 k41 hk41 (f_R_changed_49 N a0 k41 n) ih x2 x3 x4 x5 ((10 * z3) + z4) z5 r _ _ _ hw (lv_sub hl [3, 4, 5, 6, 7, 8, 1, 0] rfl)
        · refine lv_aload_n hx hb dX12_changed_108 rfl (lv_at hl 3 rfl) ?_
          refine rx_getA E hw on kF_R_53_11 (by decide) dX12_changed_109 ?_
          refine lv_iload hx hb dX12_changed_112 (lv_at hl 1 rfl) ?_
          refine rx_iald E hw on (by decide) dX12_changed_114 (fun v7 => ?_)
          refine lv_iload hx hb dX12_changed_115 (lv_at hl 0 rfl) ?_
          refine cx_icmp_eq (tgt := 130) E dX12_changed_117 (by decide) (fun _ => ?_) (fun _ => ?_)
          · exact w130 k41 hk41 (f_R_changed_49 N a0 k41 n) ih x2 x3 x4 x5 ((10 * z3) + z4) z5 r _ _ _ hw (lv_sub hl [3, 4, 5, 6, 7, 8, 1, 0] rfl)
          · refine lv_iload_n hx hb dX12_changed_120 rfl (lv_at hl 5 rfl) ?_
            refine lv_iconst (v := 1) hx hb dX12_changed_121 (by decide) ?_
            refine lv_iload hx hb dX12_changed_122 (lv_at hl 2 rfl) ?_
            refine lv_ishl hx hb dX12_changed_124 ?_
            refine lv_ior hx hb dX12_changed_125 ?_
            refine lv_istore_n (lv' := [(2, .int (x2 ||| (1 <<< (z3 &&& 31)))), (8, .int z5), (7, .int ((10 * z3) + z4)), (6, .int z3), (0, .ref (g_r G)), (1, .int a0), (3, .int x3), (4, .int x4), (5, .int x5)]) hx hb dX12_changed_126 rfl hl (by decide) rfl (fun ls hl => ?_)
            refine lv_iinc (v := x3 + 1) (lv' := [(3, .int (x3 + 1)), (2, .int (x2 ||| (1 <<< (z3 &&& 31)))), (8, .int z5), (7, .int ((10 * z3) + z4)), (6, .int z3), (0, .ref (g_r G)), (1, .int a0), (4, .int x4), (5, .int x5)]) hx hb dX12_changed_127 hl (k := 6) rfl rfl (by decide) rfl (fun ls hl => ?_)
            exact w130 k41 hk41 (f_R_changed_49 N a0 k41 n) ih (x2 ||| (1 <<< (z3 &&& 31))) (x3 + 1) x4 x5 ((10 * z3) + z4) z5 r _ _ _ hw (lv_sub hl [5, 6, 1, 0, 7, 8, 3, 2] rfl)
  have w41 : ∀ (n : Nat) (x2 : Int32) (x3 : Int32) (x4 : Int32) (r : Rho) (H : Heap) (locs : List Loc) (ls : Array Slot), w_W G M r s H locs → lv_has ls 9 [(0, .ref (g_r G)), (1, .int a0), (2, .int x2), (3, .int x3), (4, .int x4)] → W p l e rm_R_changed s m args below meth c H locs 0 0 (PQ G below args s rm_R_changed.cells rm_R_changed.slots (fun z => (.inl (some (.int z.1)), M, z.2)) (f_R_changed_41 N a0 n x2 x3 x4 r)) (F0 m 41 ls []) := by
    intro n
    induction n with
    | zero => intros; exact W_none
    | succ n ih =>
      intro x2 x3 x4 r H locs ls hw hl
      rw [f_R_changed_41]
      refine lv_iload hx hb dX12_changed_41 (lv_at hl 4 rfl) ?_
      refine cx_if_lt (tgt := 151) E dX12_changed_43 (by decide) (fun _ => ?_) (fun _ => ?_)
      · refine lv_iload_n hx hb dX12_changed_151 rfl (lv_at hl 1 rfl) ?_
        refine cx_if_eq (tgt := 159) E dX12_changed_152 (by decide) (fun _ => ?_) (fun _ => ?_)
        · refine lv_iload_n hx hb dX12_changed_159 rfl (lv_at hl 2 rfl) ?_
          exact p_iret E hw hr (Nat.le_of_ble_eq_true rfl) (Nat.le_of_ble_eq_true rfl) rfl dX12_changed_160
        · refine lv_iload_n hx hb dX12_changed_155 rfl (lv_at hl 3 rfl) ?_
          refine lv_goto (tgt := 160) hx hb dX12_changed_156 (by decide) ?_
          exact p_iret E hw hr (Nat.le_of_ble_eq_true rfl) (Nat.le_of_ble_eq_true rfl) rfl dX12_changed_160
      · refine lv_iconst (v := 0) hx hb dX12_changed_46 (by decide) ?_
        refine lv_istore (lv' := [(5, .int 0), (0, .ref (g_r G)), (1, .int a0), (2, .int x2), (3, .int x3), (4, .int x4)]) hx hb dX12_changed_47 hl (by decide) rfl (fun ls hl => ?_)
        exact w49 (f_R_changed_41 N a0 n) ih N x2 x3 x4 0 r _ _ _ hw (lv_sub hl [1, 2, 3, 4, 5, 0] rfl)
  have w7 : ∀ (n : Nat) (x2 : Int32) (r : Rho) (H : Heap) (locs : List Loc) (ls : Array Slot), w_W G M r s H locs → lv_has ls 9 [(0, .ref (g_r G)), (1, .int a0), (2, .int x2)] → W p l e rm_R_changed s m args below meth c H locs 0 0 (PQ G below args s rm_R_changed.cells rm_R_changed.slots (fun z => (.inl (some (.int z.1)), M, z.2)) (f_R_changed_7 N a0 n x2 r)) (F0 m 7 ls []) := by
    intro n
    induction n with
    | zero => intros; exact W_none
    | succ n ih =>
      intro x2 r H locs ls hw hl
      rw [f_R_changed_7]
      refine lv_iload_n hx hb dX12_changed_7 rfl (lv_at hl 2 rfl) ?_
      refine lv_bipush (v := 100) hx hb dX12_changed_8 (by decide) ?_
      refine cx_icmp_ge (tgt := 26) E dX12_changed_10 (by decide) (fun _ => ?_) (fun _ => ?_)
      · refine lv_iconst (v := 0) hx hb dX12_changed_26 (by decide) ?_
        refine lv_istore_n (lv' := [(2, .int 0), (0, .ref (g_r G)), (1, .int a0)]) hx hb dX12_changed_27 rfl hl (by decide) rfl (fun ls hl => ?_)
        refine lv_iconst (v := 0) hx hb dX12_changed_28 (by decide) ?_
        refine lv_istore_n (lv' := [(3, .int 0), (2, .int 0), (0, .ref (g_r G)), (1, .int a0)]) hx hb dX12_changed_29 rfl hl (by decide) rfl (fun ls hl => ?_)
        refine lv_aload_n hx hb dX12_changed_30 rfl (lv_at hl 2 rfl) ?_
        refine rx_getA E hw on kF_R_7_11 (by decide) dX12_changed_31 ?_
        refine lv_bipush (v := 12) hx hb dX12_changed_34 (by decide) ?_
        refine rx_iald E hw on (by decide) dX12_changed_36 (fun v1 => ?_)
        refine lv_iconst (v := 1) hx hb dX12_changed_37 (by decide) ?_
        refine lv_isub hx hb dX12_changed_38 ?_
        refine lv_istore (lv' := [(4, .int (v1 - 1)), (3, .int 0), (2, .int 0), (0, .ref (g_r G)), (1, .int a0)]) hx hb dX12_changed_39 hl (by decide) rfl (fun ls hl => ?_)
        exact w41  N 0 0 (v1 - 1) r _ _ _ hw (lv_sub hl [3, 4, 2, 1, 0] rfl)
      · refine lv_aload_n hx hb dX12_changed_13 rfl (lv_at hl 0 rfl) ?_
        refine rx_getA E hw on kF_R_53_11 (by decide) dX12_changed_14 ?_
        refine lv_iload_n hx hb dX12_changed_17 rfl (lv_at hl 2 rfl) ?_
        refine lv_iconst (v := (-1)) hx hb dX12_changed_18 (by decide) ?_
        refine rx_iast E hw on (by decide) dX12_changed_19 (fun r2 H locs hw => ?_)
        refine lv_iinc (v := x2 + 1) (lv' := [(2, .int (x2 + 1)), (0, .ref (g_r G)), (1, .int a0)]) hx hb dX12_changed_20 hl (k := 2) rfl rfl (by decide) rfl (fun ls hl => ?_)
        refine lv_goto (tgt := 7) hx hb dX12_changed_23 (by decide) ?_
        exact ih (x2 + 1) r2 _ _ _ hw (lv_sub hl [1, 2, 0] rfl)
  unfold f_R_changed
  refine lv_aload_n hx hb dX12_changed_0 rfl (lv_at hl 0 rfl) ?_
  refine lv_iconst (v := 0) hx hb dX12_changed_1 (by decide) ?_
  refine rx_putI E hw on kF_R_56_11 (by decide) kT_11_0 dX12_changed_2 (fun H locs hw => ?_)
  refine lv_iconst (v := 0) hx hb dX12_changed_5 (by decide) ?_
  refine lv_istore_n (lv' := [(2, .int 0), (0, .ref (g_r G)), (1, .int a0)]) hx hb dX12_changed_6 rfl hl (by decide) rfl (fun ls hl => ?_)
  exact w7  N 0 (r_set r 0 0) _ _ _ hw (lv_sub hl [1, 2, 0] rfl)
set_option maxHeartbeats 4000000 in
set_option maxRecDepth 100000 in
theorem t_R_tries (l : Launch) (hfl : l.stackTraces = false) (G : wG) (on : g_on G = true) (N : Nat) (a0 : Int32) (a1 : Int32) (M : Mem) (r : Rho) : Ctr l yX12_tries (wWs yX12_tries cX12_tries 6 (some .int)) rm_R_tries rm_R_tries.cells rm_R_tries.slots G [.ref (g_r G), .int a0, .int a1] M r ((f_R_tries N a0 a1 r).map (fun z => (.inl (some (.int z.1)), M, z.2))) := by
  refine Ctr.ofF (own := "CheekTownModel") (by decide +kernel) hfl rfl (Nat.le_of_ble_eq_true rfl) (fun p e s m args below meth c E hno hr hnm hw ls hl => ?_)
  obtain ⟨hx, hb, hts, hown, hml, hTT, -⟩ := id E
  have hl : lv_has ls 6 [(0, .ref (g_r G)), (1, .int a0), (2, .int a1)] := hl
  obtain ⟨H, hH⟩ : ∃ H, H = s.heap := ⟨_, rfl⟩
  obtain ⟨locs, hlo⟩ : ∃ L : List Loc, L = [] := ⟨_, rfl⟩
  rw [← hH, ← hlo]
  rw [← hlo] at hw
  replace hw : w_W G M r s H locs := by rw [hH]; exact hw
  have w64 : ∀ (x5 : Int32) (r : Rho) (H : Heap) (locs : List Loc) (ls : Array Slot), w_W G M r s H locs → lv_has ls 6 [(0, .ref (g_r G)), (5, .int x5)] → W p l e rm_R_tries s m args below meth c H locs 0 0 (PQ G below args s rm_R_tries.cells rm_R_tries.slots (fun z => (.inl (some (.int z.1)), M, z.2)) (f_R_tries_64 N a0 a1 x5 r)) (F0 m 64 ls []) := by
    intro x5 r H locs ls hw hl
    unfold f_R_tries_64
    refine lv_aload_n hx hb dX12_tries_64 rfl (lv_at hl 0 rfl) ?_
    refine W_bind fun z7 hz => ?_
    refine w_after (cells1 := 0) (slots1 := 0) (w_runV E kV_R_204 kc_X12_comesBack (t_R_comesBack l hfl G on N M r ((fun z => (.inl none, M, z)) z7) (by rw [hz]; rfl)) ⟨Nat.le_of_ble_eq_true rfl, Nat.le_of_ble_eq_true rfl⟩ hw (w_recvR E hw on) rfl hl.1 rfl (Nat.le_of_ble_eq_true rfl) dX12_tries_65 ⟨Nat.le_of_ble_eq_true rfl, Nat.le_of_ble_eq_true rfl⟩) hw rfl (Nat.le_of_ble_eq_true rfl) (Nat.le_of_ble_eq_true rfl) (fun H locs hw => ?_)
    refine W.eq (g2 := F0 m 68 ls []) rfl ?_
    have hw : w_W G M z7 s H locs := hw
    refine lv_iload hx hb dX12_tries_68 (lv_at hl 1 rfl) ?_
    exact p_iret E hw hr (Nat.le_of_ble_eq_true rfl) (Nat.le_of_ble_eq_true rfl) rfl dX12_tries_70
  have w45 : ∀ (y0 : Int32) (r : Rho) (H : Heap) (locs : List Loc) (ls : Array Slot), w_W G M r s H locs → lv_has ls 6 [(0, .ref (g_r G)), (2, .int a1)] → W p l e rm_R_tries s m args below meth c H locs 0 0 (PQ G below args s rm_R_tries.cells rm_R_tries.slots (fun z => (.inl (some (.int z.1)), M, z.2)) (f_R_tries_45 N a0 a1 y0 r)) (F0 m 45 ls [.int y0]) := by
    intro y0 r H locs ls hw hl
    unfold f_R_tries_45
    refine lv_istore (lv' := [(5, .int y0), (0, .ref (g_r G)), (2, .int a1)]) hx hb dX12_tries_45 hl (by decide) rfl (fun ls hl => ?_)
    refine lv_iload_n hx hb dX12_tries_47 rfl (lv_at hl 2 rfl) ?_
    refine lv_iconst (v := 2) hx hb dX12_tries_48 (by decide) ?_
    refine cx_icmp_ne (tgt := 64) E dX12_tries_49 (by decide) (fun _ => ?_) (fun _ => ?_)
    · exact w64  y0 r _ _ _ hw (lv_sub hl [1, 0] rfl)
    · refine lv_aload_n hx hb dX12_tries_52 rfl (lv_at hl 1 rfl) ?_
      refine lv_iconst (v := 0) hx hb dX12_tries_53 (by decide) ?_
      refine lv_iconst (v := 0) hx hb dX12_tries_54 (by decide) ?_
      refine W_bind fun z5 hz => ?_
      refine w_after (cells1 := 0) (slots1 := 0) (w_runV E kV_R_360 kc_X12_starts (t_R_starts l hfl G on N 0 0 M r ((fun z => (.inl none, M, z)) z5) (by rw [hz]; rfl)) ⟨Nat.le_of_ble_eq_true rfl, Nat.le_of_ble_eq_true rfl⟩ hw (w_recvR E hw on) rfl hl.1 rfl (Nat.le_of_ble_eq_true rfl) dX12_tries_55 ⟨Nat.le_of_ble_eq_true rfl, Nat.le_of_ble_eq_true rfl⟩) hw rfl (Nat.le_of_ble_eq_true rfl) (Nat.le_of_ble_eq_true rfl) (fun H locs hw => ?_)
      refine W.eq (g2 := F0 m 58 ls []) rfl ?_
      have hw : w_W G M z5 s H locs := hw
      refine lv_aload_n hx hb dX12_tries_58 rfl (lv_at hl 1 rfl) ?_
      refine W_bind fun z6 hz => ?_
      refine w_after (cells1 := 0) (slots1 := 0) (w_runV E kV_R_366 kc_X12_counts (t_R_counts l hfl G on N M z5 ((fun z => (.inl (some (.int z.1)), M, z.2)) z6) (by rw [hz]; rfl)) ⟨Nat.le_of_ble_eq_true rfl, Nat.le_of_ble_eq_true rfl⟩ hw (w_recvR E hw on) rfl hl.1 rfl (Nat.le_of_ble_eq_true rfl) dX12_tries_59 ⟨Nat.le_of_ble_eq_true rfl, Nat.le_of_ble_eq_true rfl⟩) hw rfl (Nat.le_of_ble_eq_true rfl) (Nat.le_of_ble_eq_true rfl) (fun H locs hw => ?_)
      refine W.eq (g2 := F0 m 62 ls [.int z6.1]) rfl ?_
      have hw : w_W G M z6.2 s H locs := hw
      refine lv_istore (lv' := [(5, .int z6.1), (0, .ref (g_r G)), (2, .int a1)]) hx hb dX12_tries_62 hl (by decide) rfl (fun ls hl => ?_)
      exact w64  z6.1 z6.2 _ _ _ hw (lv_sub hl [1, 0] rfl)
  unfold f_R_tries
  refine lv_aload_n hx hb dX12_tries_0 rfl (lv_at hl 0 rfl) ?_
  refine rx_getA E hw on kF_R_7_11 (by decide) dX12_tries_1 ?_
  refine lv_bipush (v := 10) hx hb dX12_tries_4 (by decide) ?_
  refine rx_iald E hw on (by decide) dX12_tries_6 (fun v1 => ?_)
  refine lv_istore_n (lv' := [(3, .int v1), (0, .ref (g_r G)), (1, .int a0), (2, .int a1)]) hx hb dX12_tries_7 rfl hl (by decide) rfl (fun ls hl => ?_)
  refine lv_aload_n hx hb dX12_tries_8 rfl (lv_at hl 1 rfl) ?_
  refine lv_iload_n hx hb dX12_tries_9 rfl (lv_at hl 2 rfl) ?_
  refine W_bind fun z2 hz => ?_
  refine w_after (cells1 := 0) (slots1 := 0) (w_runV E kV_R_302 kc_X12_goes (t_R_goes l hfl G on N a0 M r ((fun z => (.inl (some (.int z.1)), M, z.2)) z2) (by rw [hz]; rfl)) ⟨Nat.le_of_ble_eq_true rfl, Nat.le_of_ble_eq_true rfl⟩ hw (w_recvR E hw on) rfl hl.1 rfl (Nat.le_of_ble_eq_true rfl) dX12_tries_10 ⟨Nat.le_of_ble_eq_true rfl, Nat.le_of_ble_eq_true rfl⟩) hw rfl (Nat.le_of_ble_eq_true rfl) (Nat.le_of_ble_eq_true rfl) (fun H locs hw => ?_)
  refine W.eq (g2 := F0 m 13 ls [.int z2.1]) rfl ?_
  have hw : w_W G M z2.2 s H locs := hw
  refine lv_istore (lv' := [(4, .int z2.1), (3, .int v1), (0, .ref (g_r G)), (1, .int a0), (2, .int a1)]) hx hb dX12_tries_13 hl (by decide) rfl (fun ls hl => ?_)
  refine lv_iload_n hx hb dX12_tries_15 rfl (lv_at hl 4 rfl) ?_
  refine cx_if_ne (tgt := 24) E dX12_tries_16 (by decide) (fun _ => ?_) (fun _ => ?_)
  · refine lv_iload_n hx hb dX12_tries_24 rfl (lv_at hl 4 rfl) ?_
    refine lv_iconst (v := 1) hx hb dX12_tries_25 (by decide) ?_
    refine cx_icmp_ne (tgt := 41) E dX12_tries_26 (by decide) (fun _ => ?_) (fun _ => ?_)
    · refine lv_aload_n hx hb dX12_tries_41 rfl (lv_at hl 2 rfl) ?_
      refine W_bind fun z3 hz => ?_
      refine w_after (cells1 := 0) (slots1 := 0) (w_runV E kV_R_372 kc_X12_coldsNow (t_R_coldsNow l hfl G on N M z2.2 ((fun z => (.inl (some (.int z)), M, z2.2)) z3) (by rw [hz]; rfl)) ⟨Nat.le_of_ble_eq_true rfl, Nat.le_of_ble_eq_true rfl⟩ hw (w_recvR E hw on) rfl hl.1 rfl (Nat.le_of_ble_eq_true rfl) dX12_tries_42 ⟨Nat.le_of_ble_eq_true rfl, Nat.le_of_ble_eq_true rfl⟩) hw rfl (Nat.le_of_ble_eq_true rfl) (Nat.le_of_ble_eq_true rfl) (fun H locs hw => ?_)
      refine W.eq (g2 := F0 m 45 ls [.int z3]) rfl ?_
      have hw : w_W G M z2.2 s H locs := hw
      exact w45  z3 z2.2 _ _ _ hw (lv_sub hl [2, 4] rfl)
    · refine lv_aload_n hx hb dX12_tries_29 rfl (lv_at hl 2 rfl) ?_
      refine rx_getA E hw on kF_R_7_11 (by decide) dX12_tries_30 ?_
      refine lv_bipush (v := 10) hx hb dX12_tries_33 (by decide) ?_
      refine rx_iald E hw on (by decide) dX12_tries_35 (fun v4 => ?_)
      refine lv_iload_n hx hb dX12_tries_36 rfl (lv_at hl 1 rfl) ?_
      refine lv_isub hx hb dX12_tries_37 ?_
      refine lv_goto (tgt := 45) hx hb dX12_tries_38 (by decide) ?_
      exact w45  (v4 - v1) z2.2 _ _ _ hw (lv_sub hl [2, 4] rfl)
  · refine lv_iload hx hb dX12_tries_19 (lv_at hl 0 rfl) ?_
    refine lv_goto (tgt := 45) hx hb dX12_tries_21 (by decide) ?_
    exact w45  z2.1 z2.2 _ _ _ hw (lv_sub hl [2, 4] rfl)
set_option maxHeartbeats 4000000 in
set_option maxRecDepth 100000 in
theorem t_R_trial (l : Launch) (hfl : l.stackTraces = false) (G : wG) (on : g_on G = true) (N : Nat) (a0 : Int32) (a1 : Int32) (M : Mem) (r : Rho) : Ctr l yX12_trial (wWs yX12_trial cX12_trial 4 (some .int)) rm_R_trial rm_R_trial.cells rm_R_trial.slots G [.ref (g_r G), .int a0, .int a1] M r ((f_R_trial N a0 a1 r).map (fun z => (.inl (some (.int z.1)), M, z.2))) := by
  refine Ctr.ofF (own := "CheekTownModel") (by decide +kernel) hfl rfl (Nat.le_of_ble_eq_true rfl) (fun p e s m args below meth c E hno hr hnm hw ls hl => ?_)
  obtain ⟨hx, hb, hts, hown, hml, hTT, -⟩ := id E
  have hl : lv_has ls 4 [(0, .ref (g_r G)), (1, .int a0), (2, .int a1)] := hl
  obtain ⟨H, hH⟩ : ∃ H, H = s.heap := ⟨_, rfl⟩
  obtain ⟨locs, hlo⟩ : ∃ L : List Loc, L = [] := ⟨_, rfl⟩
  rw [← hH, ← hlo]
  rw [← hlo] at hw
  replace hw : w_W G M r s H locs := by rw [hH]; exact hw
  have w43 : ∀ (n : Nat) (x3 : Int32) (r : Rho) (H : Heap) (locs : List Loc) (ls : Array Slot), w_W G M r s H locs → lv_has ls 4 [(0, .ref (g_r G)), (1, .int a0), (2, .int a1), (3, .int x3)] → W p l e rm_R_trial s m args below meth c H locs 0 0 (PQ G below args s rm_R_trial.cells rm_R_trial.slots (fun z => (.inl (some (.int z.1)), M, z.2)) (f_R_trial_43 N a0 a1 n x3 r)) (F0 m 43 ls []) := by
    intro n
    induction n with
    | zero => intros; exact W_none
    | succ n ih =>
      intro x3 r H locs ls hw hl
      rw [f_R_trial_43]
      refine lv_iload_n hx hb dX12_trial_43 rfl (lv_at hl 3 rfl) ?_
      refine lv_sipush (v := 900) hx hb dX12_trial_44 (by decide) ?_
      refine cx_icmp_ge (tgt := 68) E dX12_trial_47 (by decide) (fun _ => ?_) (fun _ => ?_)
      · refine lv_aload_n hx hb dX12_trial_68 rfl (lv_at hl 0 rfl) ?_
        refine lv_iload_n hx hb dX12_trial_69 rfl (lv_at hl 1 rfl) ?_
        refine lv_iload_n hx hb dX12_trial_70 rfl (lv_at hl 2 rfl) ?_
        refine W_bind fun z3 hz => ?_
        refine w_after (cells1 := 0) (slots1 := 0) (w_runV E kV_R_381 kc_X12_tries (t_R_tries l hfl G on N a0 a1 M r ((fun z => (.inl (some (.int z.1)), M, z.2)) z3) (by rw [hz]; rfl)) ⟨Nat.le_of_ble_eq_true rfl, Nat.le_of_ble_eq_true rfl⟩ hw (w_recvR E hw on) rfl hl.1 rfl (Nat.le_of_ble_eq_true rfl) dX12_trial_71 ⟨Nat.le_of_ble_eq_true rfl, Nat.le_of_ble_eq_true rfl⟩) hw rfl (Nat.le_of_ble_eq_true rfl) (Nat.le_of_ble_eq_true rfl) (fun H locs hw => ?_)
        refine W.eq (g2 := F0 m 74 ls [.int z3.1]) rfl ?_
        have hw : w_W G M z3.2 s H locs := hw
        exact p_iret E hw hr (Nat.le_of_ble_eq_true rfl) (Nat.le_of_ble_eq_true rfl) rfl dX12_trial_74
      · refine lv_aload_n hx hb dX12_trial_50 rfl (lv_at hl 0 rfl) ?_
        refine rx_getA E hw on kF_R_16_11 (by decide) dX12_trial_51 ?_
        refine lv_iload_n hx hb dX12_trial_54 rfl (lv_at hl 3 rfl) ?_
        refine lv_aload_n hx hb dX12_trial_55 rfl (lv_at hl 0 rfl) ?_
        refine rx_getA E hw on kF_R_7_11 (by decide) dX12_trial_56 ?_
        refine lv_iload_n hx hb dX12_trial_59 rfl (lv_at hl 3 rfl) ?_
        refine rx_iald E hw on (by decide) dX12_trial_60 (fun v4 => ?_)
        refine rx_iast E hw on (by decide) dX12_trial_61 (fun r5 H locs hw => ?_)
        refine lv_iinc (v := x3 + 1) (lv' := [(3, .int (x3 + 1)), (0, .ref (g_r G)), (1, .int a0), (2, .int a1)]) hx hb dX12_trial_62 hl (k := 3) rfl rfl (by decide) rfl (fun ls hl => ?_)
        refine lv_goto (tgt := 43) hx hb dX12_trial_65 (by decide) ?_
        exact ih (x3 + 1) r5 _ _ _ hw (lv_sub hl [1, 2, 3, 0] rfl)
  have w29 : ∀ (y1 : Int32) (r : Rho) (H : Heap) (locs : List Loc) (ls : Array Slot), w_W G M r s H locs → lv_has ls 4 [(0, .ref (g_r G)), (1, .int a0), (2, .int a1)] → W p l e rm_R_trial s m args below meth c H locs 0 0 (PQ G below args s rm_R_trial.cells rm_R_trial.slots (fun z => (.inl (some (.int z.1)), M, z.2)) (f_R_trial_29 N a0 a1 y1 r)) (F0 m 29 ls [.int y1, .ref (g_r G)]) := by
    intro y1 r H locs ls hw hl
    unfold f_R_trial_29
    refine rx_putI E hw on kF_R_56_11 (by decide) kT_11_0 dX12_trial_29 (fun H locs hw => ?_)
    refine lv_aload_n hx hb dX12_trial_32 rfl (lv_at hl 0 rfl) ?_
    refine rx_getI E hw on kF_R_56_11 (by decide) dX12_trial_33 ?_
    refine cx_if_le (tgt := 41) E dX12_trial_36 (by decide) (fun _ => ?_) (fun _ => ?_)
    · refine lv_iconst (v := 0) hx hb dX12_trial_41 (by decide) ?_
      refine lv_istore_n (lv' := [(3, .int 0), (0, .ref (g_r G)), (1, .int a0), (2, .int a1)]) hx hb dX12_trial_42 rfl hl (by decide) rfl (fun ls hl => ?_)
      exact w43  N 0 (r_set r 0 y1) _ _ _ hw (lv_sub hl [1, 2, 3, 0] rfl)
    · refine lv_iconst (v := 0) hx hb dX12_trial_39 (by decide) ?_
      exact p_iret E hw hr (Nat.le_of_ble_eq_true rfl) (Nat.le_of_ble_eq_true rfl) rfl dX12_trial_40
  unfold f_R_trial
  refine lv_aload_n hx hb dX12_trial_0 rfl (lv_at hl 0 rfl) ?_
  refine lv_iload_n hx hb dX12_trial_1 rfl (lv_at hl 1 rfl) ?_
  refine lv_iconst (v := 0) hx hb dX12_trial_2 (by decide) ?_
  refine lv_bipush (v := 20) hx hb dX12_trial_3 (by decide) ?_
  refine W_bind fun z1 hz => ?_
  refine w_after (cells1 := 0) (slots1 := 0) (w_runS E kS_R_59 kc_X12_isIn (t_R_isIn l hfl G a0 0 20 M r ((fun z => (.inl (some (.int z)), M, r)) z1) (by rw [hz]; rfl)) ⟨Nat.le_of_ble_eq_true rfl, Nat.le_of_ble_eq_true rfl⟩ hw rfl hl.1 rfl (Nat.le_of_ble_eq_true rfl) dX12_trial_5 ⟨Nat.le_of_ble_eq_true rfl, Nat.le_of_ble_eq_true rfl⟩) hw rfl (Nat.le_of_ble_eq_true rfl) (Nat.le_of_ble_eq_true rfl) (fun H locs hw => ?_)
  refine W.eq (g2 := F0 m 8 ls [.int z1, .ref (g_r G)]) rfl ?_
  have hw : w_W G M r s H locs := hw
  refine cx_if_ne (tgt := 15) E dX12_trial_8 (by decide) (fun _ => ?_) (fun _ => ?_)
  · refine lv_iload_n hx hb dX12_trial_15 rfl (lv_at hl 2 rfl) ?_
    refine lv_iconst (v := 0) hx hb dX12_trial_16 (by decide) ?_
    refine lv_iconst (v := 3) hx hb dX12_trial_17 (by decide) ?_
    refine W_bind fun z2 hz => ?_
    refine w_after (cells1 := 0) (slots1 := 0) (w_runS E kS_R_59 kc_X12_isIn (t_R_isIn l hfl G a1 0 3 M r ((fun z => (.inl (some (.int z)), M, r)) z2) (by rw [hz]; rfl)) ⟨Nat.le_of_ble_eq_true rfl, Nat.le_of_ble_eq_true rfl⟩ hw rfl hl.1 rfl (Nat.le_of_ble_eq_true rfl) dX12_trial_18 ⟨Nat.le_of_ble_eq_true rfl, Nat.le_of_ble_eq_true rfl⟩) hw rfl (Nat.le_of_ble_eq_true rfl) (Nat.le_of_ble_eq_true rfl) (fun H locs hw => ?_)
    refine W.eq (g2 := F0 m 21 ls [.int z2, .ref (g_r G)]) rfl ?_
    have hw : w_W G M r s H locs := hw
    refine cx_if_ne (tgt := 28) E dX12_trial_21 (by decide) (fun _ => ?_) (fun _ => ?_)
    · refine lv_iconst (v := 0) hx hb dX12_trial_28 (by decide) ?_
      exact w29  0 r _ _ _ hw (lv_sub hl [0, 1, 2] rfl)
    · refine lv_iconst (v := 2) hx hb dX12_trial_24 (by decide) ?_
      refine lv_goto (tgt := 29) hx hb dX12_trial_25 (by decide) ?_
      exact w29  2 r _ _ _ hw (lv_sub hl [0, 1, 2] rfl)
  · refine lv_iconst (v := 1) hx hb dX12_trial_11 (by decide) ?_
    refine lv_goto (tgt := 29) hx hb dX12_trial_12 (by decide) ?_
    exact w29  1 r _ _ _ hw (lv_sub hl [0, 1, 2] rfl)
set_option maxHeartbeats 4000000 in
set_option maxRecDepth 100000 in
theorem t_R_span (l : Launch) (hfl : l.stackTraces = false) (G : wG) (on : g_on G = true) (N : Nat) (a0 : Int32) (a1 : Int32) (M : Mem) (r : Rho) : Ctr l yX12_span (wWs yX12_span cX12_span 6 (some .int)) rm_R_span rm_R_span.cells rm_R_span.slots G [.ref (g_r G), .int a0, .int a1] M r ((f_R_span N a0 a1 r).map (fun z => (.inl (some (.int z.1)), M, z.2))) := by
  refine Ctr.ofF (own := "CheekTownModel") (by decide +kernel) hfl rfl (Nat.le_of_ble_eq_true rfl) (fun p e s m args below meth c E hno hr hnm hw ls hl => ?_)
  obtain ⟨hx, hb, hts, hown, hml, hTT, -⟩ := id E
  have hl : lv_has ls 6 [(0, .ref (g_r G)), (1, .int a0), (2, .int a1)] := hl
  obtain ⟨H, hH⟩ : ∃ H, H = s.heap := ⟨_, rfl⟩
  obtain ⟨locs, hlo⟩ : ∃ L : List Loc, L = [] := ⟨_, rfl⟩
  rw [← hH, ← hlo]
  rw [← hlo] at hw
  replace hw : w_W G M r s H locs := by rw [hH]; exact hw
  have w113 : ∀ (k60 : Int32 → Int32 → Rho → Option (Int32 × Rho)) (hk60 : ∀ (x3 : Int32) (x4 : Int32) (r : Rho) (H : Heap) (locs : List Loc) (ls : Array Slot), w_W G M r s H locs → lv_has ls 6 [(0, .ref (g_r G)), (1, .int a0), (2, .int a1), (3, .int x3), (4, .int x4)] → W p l e rm_R_span s m args below meth c H locs 0 0 (PQ G below args s rm_R_span.cells rm_R_span.slots (fun z => (.inl (some (.int z.1)), M, z.2)) (k60 x3 x4 r)) (F0 m 60 ls [])) (x4 : Int32) (y0 : Int32) (r : Rho) (H : Heap) (locs : List Loc) (ls : Array Slot), w_W G M r s H locs → lv_has ls 6 [(0, .ref (g_r G)), (1, .int a0), (2, .int a1), (4, .int x4)] → W p l e rm_R_span s m args below meth c H locs 0 0 (PQ G below args s rm_R_span.cells rm_R_span.slots (fun z => (.inl (some (.int z.1)), M, z.2)) (f_R_span_113 N a0 a1 k60 x4 y0 r)) (F0 m 113 ls [.int y0]) := by
    intro k60 hk60 x4 y0 r H locs ls hw hl
    unfold f_R_span_113
    refine lv_istore_n (lv' := [(3, .int y0), (0, .ref (g_r G)), (1, .int a0), (2, .int a1), (4, .int x4)]) hx hb dX12_span_113 rfl hl (by decide) rfl (fun ls hl => ?_)
    refine lv_iinc (v := x4 + 1) (lv' := [(4, .int (x4 + 1)), (3, .int y0), (0, .ref (g_r G)), (1, .int a0), (2, .int a1)]) hx hb dX12_span_114 hl (k := 4) rfl rfl (by decide) rfl (fun ls hl => ?_)
    refine lv_goto (tgt := 60) hx hb dX12_span_117 (by decide) ?_
    exact hk60 y0 (x4 + 1) r _ _ _ hw (lv_sub hl [2, 3, 4, 1, 0] rfl)
  have w60 : ∀ (n : Nat) (x3 : Int32) (x4 : Int32) (r : Rho) (H : Heap) (locs : List Loc) (ls : Array Slot), w_W G M r s H locs → lv_has ls 6 [(0, .ref (g_r G)), (1, .int a0), (2, .int a1), (3, .int x3), (4, .int x4)] → W p l e rm_R_span s m args below meth c H locs 0 0 (PQ G below args s rm_R_span.cells rm_R_span.slots (fun z => (.inl (some (.int z.1)), M, z.2)) (f_R_span_60 N a0 a1 n x3 x4 r)) (F0 m 60 ls []) := by
    intro n
    induction n with
    | zero => intros; exact W_none
    | succ n ih =>
      intro x3 x4 r H locs ls hw hl
      rw [f_R_span_60]
      refine lv_iload hx hb dX12_span_60 (lv_at hl 4 rfl) ?_
      refine lv_bipush (v := 6) hx hb dX12_span_62 (by decide) ?_
      refine cx_icmp_gt (tgt := 120) E dX12_span_64 (by decide) (fun _ => ?_) (fun _ => ?_)
      · refine lv_iload_n hx hb dX12_span_120 rfl (lv_at hl 3 rfl) ?_
        exact p_iret E hw hr (Nat.le_of_ble_eq_true rfl) (Nat.le_of_ble_eq_true rfl) rfl dX12_span_121
      · refine lv_aload_n hx hb dX12_span_67 rfl (lv_at hl 0 rfl) ?_
        refine rx_getA E hw on kF_R_7_11 (by decide) dX12_span_68 ?_
        refine lv_bipush (v := 16) hx hb dX12_span_71 (by decide) ?_
        refine lv_iload hx hb dX12_span_73 (lv_at hl 4 rfl) ?_
        refine rx_iast E hw on (by decide) dX12_span_75 (fun r4 H locs hw => ?_)
        refine lv_aload_n hx hb dX12_span_76 rfl (lv_at hl 0 rfl) ?_
        refine lv_iload_n hx hb dX12_span_77 rfl (lv_at hl 1 rfl) ?_
        refine lv_iconst (v := 0) hx hb dX12_span_78 (by decide) ?_
        refine W_bind fun z5 hz => ?_
        refine w_after (cells1 := 0) (slots1 := 0) (w_runV E kV_R_381 kc_X12_tries (t_R_tries l hfl G on N a0 0 M r4 ((fun z => (.inl (some (.int z.1)), M, z.2)) z5) (by rw [hz]; rfl)) ⟨Nat.le_of_ble_eq_true rfl, Nat.le_of_ble_eq_true rfl⟩ hw (w_recvR E hw on) rfl hl.1 rfl (Nat.le_of_ble_eq_true rfl) dX12_span_79 ⟨Nat.le_of_ble_eq_true rfl, Nat.le_of_ble_eq_true rfl⟩) hw rfl (Nat.le_of_ble_eq_true rfl) (Nat.le_of_ble_eq_true rfl) (fun H locs hw => ?_)
        refine W.eq (g2 := F0 m 82 ls [.int z5.1]) rfl ?_
        have hw : w_W G M z5.2 s H locs := hw
        refine lv_istore (lv' := [(5, .int z5.1), (0, .ref (g_r G)), (1, .int a0), (2, .int a1), (3, .int x3), (4, .int x4)]) hx hb dX12_span_82 hl (by decide) rfl (fun ls hl => ?_)
        refine lv_iload_n hx hb dX12_span_84 rfl (lv_at hl 4 rfl) ?_
        refine lv_iconst (v := (-1)) hx hb dX12_span_85 (by decide) ?_
        refine cx_icmp_ne (tgt := 94) E dX12_span_86 (by decide) (fun _ => ?_) (fun _ => ?_)
        · refine lv_iload_n hx hb dX12_span_94 rfl (lv_at hl 3 rfl) ?_
          refine cx_if_eq (tgt := 107) E dX12_span_95 (by decide) (fun _ => ?_) (fun _ => ?_)
          · refine lv_iload_n hx hb dX12_span_107 rfl (lv_at hl 4 rfl) ?_
            refine lv_iload hx hb dX12_span_108 (lv_at hl 0 rfl) ?_
            refine W_bind fun z6 hz => ?_
            refine w_after (cells1 := 0) (slots1 := 0) (w_runS E kS_R_284 kc_X12_lesser (t_R_lesser l hfl G x3 z5.1 M z5.2 ((fun z => (.inl (some (.int z)), M, z5.2)) z6) (by rw [hz]; rfl)) ⟨Nat.le_of_ble_eq_true rfl, Nat.le_of_ble_eq_true rfl⟩ hw rfl hl.1 rfl (Nat.le_of_ble_eq_true rfl) dX12_span_110 ⟨Nat.le_of_ble_eq_true rfl, Nat.le_of_ble_eq_true rfl⟩) hw rfl (Nat.le_of_ble_eq_true rfl) (Nat.le_of_ble_eq_true rfl) (fun H locs hw => ?_)
            refine W.eq (g2 := F0 m 113 ls [.int z6]) rfl ?_
            have hw : w_W G M z5.2 s H locs := hw
            exact w113 (f_R_span_60 N a0 a1 n) ih x4 z6 z5.2 _ _ _ hw (lv_sub hl [1, 2, 3, 5] rfl)
          · refine lv_iload_n hx hb dX12_span_98 rfl (lv_at hl 4 rfl) ?_
            refine lv_iload hx hb dX12_span_99 (lv_at hl 0 rfl) ?_
            refine W_bind fun z7 hz => ?_
            refine w_after (cells1 := 0) (slots1 := 0) (w_runS E kS_R_287 kc_X12_greater (t_R_greater l hfl G x3 z5.1 M z5.2 ((fun z => (.inl (some (.int z)), M, z5.2)) z7) (by rw [hz]; rfl)) ⟨Nat.le_of_ble_eq_true rfl, Nat.le_of_ble_eq_true rfl⟩ hw rfl hl.1 rfl (Nat.le_of_ble_eq_true rfl) dX12_span_101 ⟨Nat.le_of_ble_eq_true rfl, Nat.le_of_ble_eq_true rfl⟩) hw rfl (Nat.le_of_ble_eq_true rfl) (Nat.le_of_ble_eq_true rfl) (fun H locs hw => ?_)
            refine W.eq (g2 := F0 m 104 ls [.int z7]) rfl ?_
            have hw : w_W G M z5.2 s H locs := hw
            refine lv_goto (tgt := 113) hx hb dX12_span_104 (by decide) ?_
            exact w113 (f_R_span_60 N a0 a1 n) ih x4 z7 z5.2 _ _ _ hw (lv_sub hl [1, 2, 3, 5] rfl)
        · refine lv_iload hx hb dX12_span_89 (lv_at hl 0 rfl) ?_
          refine lv_goto (tgt := 113) hx hb dX12_span_91 (by decide) ?_
          exact w113 (f_R_span_60 N a0 a1 n) ih x4 z5.1 z5.2 _ _ _ hw (lv_sub hl [1, 2, 3, 5] rfl)
  have w30 : ∀ (n : Nat) (x3 : Int32) (r : Rho) (H : Heap) (locs : List Loc) (ls : Array Slot), w_W G M r s H locs → lv_has ls 6 [(0, .ref (g_r G)), (1, .int a0), (2, .int a1), (3, .int x3)] → W p l e rm_R_span s m args below meth c H locs 0 0 (PQ G below args s rm_R_span.cells rm_R_span.slots (fun z => (.inl (some (.int z.1)), M, z.2)) (f_R_span_30 N a0 a1 n x3 r)) (F0 m 30 ls []) := by
    intro n
    induction n with
    | zero => intros; exact W_none
    | succ n ih =>
      intro x3 r H locs ls hw hl
      rw [f_R_span_30]
      refine lv_iload_n hx hb dX12_span_30 rfl (lv_at hl 3 rfl) ?_
      refine lv_sipush (v := 900) hx hb dX12_span_31 (by decide) ?_
      refine cx_icmp_ge (tgt := 55) E dX12_span_34 (by decide) (fun _ => ?_) (fun _ => ?_)
      · refine lv_iconst (v := (-1)) hx hb dX12_span_55 (by decide) ?_
        refine lv_istore_n (lv' := [(3, .int (-1)), (0, .ref (g_r G)), (1, .int a0), (2, .int a1)]) hx hb dX12_span_56 rfl hl (by decide) rfl (fun ls hl => ?_)
        refine lv_iconst (v := 1) hx hb dX12_span_57 (by decide) ?_
        refine lv_istore (lv' := [(4, .int 1), (3, .int (-1)), (0, .ref (g_r G)), (1, .int a0), (2, .int a1)]) hx hb dX12_span_58 hl (by decide) rfl (fun ls hl => ?_)
        exact w60  N (-1) 1 r _ _ _ hw (lv_sub hl [2, 3, 4, 1, 0] rfl)
      · refine lv_aload_n hx hb dX12_span_37 rfl (lv_at hl 0 rfl) ?_
        refine rx_getA E hw on kF_R_16_11 (by decide) dX12_span_38 ?_
        refine lv_iload_n hx hb dX12_span_41 rfl (lv_at hl 3 rfl) ?_
        refine lv_aload_n hx hb dX12_span_42 rfl (lv_at hl 0 rfl) ?_
        refine rx_getA E hw on kF_R_7_11 (by decide) dX12_span_43 ?_
        refine lv_iload_n hx hb dX12_span_46 rfl (lv_at hl 3 rfl) ?_
        refine rx_iald E hw on (by decide) dX12_span_47 (fun v2 => ?_)
        refine rx_iast E hw on (by decide) dX12_span_48 (fun r3 H locs hw => ?_)
        refine lv_iinc (v := x3 + 1) (lv' := [(3, .int (x3 + 1)), (0, .ref (g_r G)), (1, .int a0), (2, .int a1)]) hx hb dX12_span_49 hl (k := 3) rfl rfl (by decide) rfl (fun ls hl => ?_)
        refine lv_goto (tgt := 30) hx hb dX12_span_52 (by decide) ?_
        exact ih (x3 + 1) r3 _ _ _ hw (lv_sub hl [1, 2, 3, 0] rfl)
  have w16 : ∀ (y1 : Int32) (r : Rho) (H : Heap) (locs : List Loc) (ls : Array Slot), w_W G M r s H locs → lv_has ls 6 [(0, .ref (g_r G)), (1, .int a0), (2, .int a1)] → W p l e rm_R_span s m args below meth c H locs 0 0 (PQ G below args s rm_R_span.cells rm_R_span.slots (fun z => (.inl (some (.int z.1)), M, z.2)) (f_R_span_16 N a0 a1 y1 r)) (F0 m 16 ls [.int y1, .ref (g_r G)]) := by
    intro y1 r H locs ls hw hl
    unfold f_R_span_16
    refine rx_putI E hw on kF_R_56_11 (by decide) kT_11_0 dX12_span_16 (fun H locs hw => ?_)
    refine lv_aload_n hx hb dX12_span_19 rfl (lv_at hl 0 rfl) ?_
    refine rx_getI E hw on kF_R_56_11 (by decide) dX12_span_20 ?_
    refine cx_if_le (tgt := 28) E dX12_span_23 (by decide) (fun _ => ?_) (fun _ => ?_)
    · refine lv_iconst (v := 0) hx hb dX12_span_28 (by decide) ?_
      refine lv_istore_n (lv' := [(3, .int 0), (0, .ref (g_r G)), (1, .int a0), (2, .int a1)]) hx hb dX12_span_29 rfl hl (by decide) rfl (fun ls hl => ?_)
      exact w30  N 0 (r_set r 0 y1) _ _ _ hw (lv_sub hl [1, 2, 3, 0] rfl)
    · refine lv_iconst (v := 0) hx hb dX12_span_26 (by decide) ?_
      exact p_iret E hw hr (Nat.le_of_ble_eq_true rfl) (Nat.le_of_ble_eq_true rfl) rfl dX12_span_27
  unfold f_R_span
  refine lv_aload_n hx hb dX12_span_0 rfl (lv_at hl 0 rfl) ?_
  refine lv_iload_n hx hb dX12_span_1 rfl (lv_at hl 1 rfl) ?_
  refine lv_iconst (v := 0) hx hb dX12_span_2 (by decide) ?_
  refine lv_bipush (v := 20) hx hb dX12_span_3 (by decide) ?_
  refine W_bind fun z1 hz => ?_
  refine w_after (cells1 := 0) (slots1 := 0) (w_runS E kS_R_59 kc_X12_isIn (t_R_isIn l hfl G a0 0 20 M r ((fun z => (.inl (some (.int z)), M, r)) z1) (by rw [hz]; rfl)) ⟨Nat.le_of_ble_eq_true rfl, Nat.le_of_ble_eq_true rfl⟩ hw rfl hl.1 rfl (Nat.le_of_ble_eq_true rfl) dX12_span_5 ⟨Nat.le_of_ble_eq_true rfl, Nat.le_of_ble_eq_true rfl⟩) hw rfl (Nat.le_of_ble_eq_true rfl) (Nat.le_of_ble_eq_true rfl) (fun H locs hw => ?_)
  refine W.eq (g2 := F0 m 8 ls [.int z1, .ref (g_r G)]) rfl ?_
  have hw : w_W G M r s H locs := hw
  refine cx_if_ne (tgt := 15) E dX12_span_8 (by decide) (fun _ => ?_) (fun _ => ?_)
  · refine lv_iconst (v := 0) hx hb dX12_span_15 (by decide) ?_
    exact w16  0 r _ _ _ hw (lv_sub hl [0, 1, 2] rfl)
  · refine lv_iconst (v := 1) hx hb dX12_span_11 (by decide) ?_
    refine lv_goto (tgt := 16) hx hb dX12_span_12 (by decide) ?_
    exact w16  1 r _ _ _ hw (lv_sub hl [0, 1, 2] rfl)
set_option maxHeartbeats 4000000 in
set_option maxRecDepth 100000 in
theorem t_R_log (l : Launch) (hfl : l.stackTraces = false) (G : wG) (on : g_on G = true) (a0 : Int32) (a1 : Int32) (M : Mem) (r : Rho) : Ctr l yX12_log (wWs yX12_log cX12_log 3 (some .int)) rm_R_log rm_R_log.cells rm_R_log.slots G [.ref (g_r G), .int a0, .int a1] M r ((f_R_log a0 a1 r).map (fun z => (.inl (some (.int z.1)), M, z.2))) := by
  refine Ctr.ofF (own := "CheekTownModel") (by decide +kernel) hfl rfl (Nat.le_of_ble_eq_true rfl) (fun p e s m args below meth c E hno hr hnm hw ls hl => ?_)
  obtain ⟨hx, hb, hts, hown, hml, hTT, -⟩ := id E
  have hl : lv_has ls 3 [(0, .ref (g_r G)), (1, .int a0), (2, .int a1)] := hl
  obtain ⟨H, hH⟩ : ∃ H, H = s.heap := ⟨_, rfl⟩
  obtain ⟨locs, hlo⟩ : ∃ L : List Loc, L = [] := ⟨_, rfl⟩
  rw [← hH, ← hlo]
  rw [← hlo] at hw
  replace hw : w_W G M r s H locs := by rw [hH]; exact hw
  have w16 : ∀ (y1 : Int32) (r : Rho) (H : Heap) (locs : List Loc) (ls : Array Slot), w_W G M r s H locs → lv_has ls 3 [(0, .ref (g_r G)), (1, .int a0), (2, .int a1)] → W p l e rm_R_log s m args below meth c H locs 0 0 (PQ G below args s rm_R_log.cells rm_R_log.slots (fun z => (.inl (some (.int z.1)), M, z.2)) (f_R_log_16 a0 a1 y1 r)) (F0 m 16 ls [.int y1, .ref (g_r G)]) := by
    intro y1 r H locs ls hw hl
    unfold f_R_log_16
    refine rx_putI E hw on kF_R_56_11 (by decide) kT_11_0 dX12_log_16 (fun H locs hw => ?_)
    refine lv_aload_n hx hb dX12_log_19 rfl (lv_at hl 0 rfl) ?_
    refine rx_getI E hw on kF_R_56_11 (by decide) dX12_log_20 ?_
    refine cx_if_le (tgt := 28) E dX12_log_23 (by decide) (fun _ => ?_) (fun _ => ?_)
    · refine lv_iload_n hx hb dX12_log_28 rfl (lv_at hl 1 rfl) ?_
      refine lv_iconst (v := 0) hx hb dX12_log_29 (by decide) ?_
      refine lv_aload_n hx hb dX12_log_30 rfl (lv_at hl 0 rfl) ?_
      refine rx_getA E hw on kF_R_7_11 (by decide) dX12_log_31 ?_
      refine lv_bipush (v := 12) hx hb dX12_log_34 (by decide) ?_
      refine rx_iald E hw on (by decide) dX12_log_36 (fun v2 => ?_)
      refine lv_iconst (v := 1) hx hb dX12_log_37 (by decide) ?_
      refine lv_isub hx hb dX12_log_38 ?_
      refine W_bind fun z3 hz => ?_
      refine w_after (cells1 := 0) (slots1 := 0) (w_runS E kS_R_59 kc_X12_isIn (t_R_isIn l hfl G a0 0 (v2 - 1) M (r_set r 0 y1) ((fun z => (.inl (some (.int z)), M, (r_set r 0 y1))) z3) (by rw [hz]; rfl)) ⟨Nat.le_of_ble_eq_true rfl, Nat.le_of_ble_eq_true rfl⟩ hw rfl hl.1 rfl (Nat.le_of_ble_eq_true rfl) dX12_log_39 ⟨Nat.le_of_ble_eq_true rfl, Nat.le_of_ble_eq_true rfl⟩) hw rfl (Nat.le_of_ble_eq_true rfl) (Nat.le_of_ble_eq_true rfl) (fun H locs hw => ?_)
      refine W.eq (g2 := F0 m 42 ls [.int z3]) rfl ?_
      have hw : w_W G M (r_set r 0 y1) s H locs := hw
      refine cx_if_eq (tgt := 54) E dX12_log_42 (by decide) (fun _ => ?_) (fun _ => ?_)
      · refine lv_iconst (v := (-1)) hx hb dX12_log_54 (by decide) ?_
        exact p_iret E hw hr (Nat.le_of_ble_eq_true rfl) (Nat.le_of_ble_eq_true rfl) rfl dX12_log_55
      · refine lv_aload_n hx hb dX12_log_45 rfl (lv_at hl 0 rfl) ?_
        refine lv_iload_n hx hb dX12_log_46 rfl (lv_at hl 1 rfl) ?_
        refine lv_iload_n hx hb dX12_log_47 rfl (lv_at hl 2 rfl) ?_
        refine W_bind fun z4 hz => ?_
        refine w_after (cells1 := 0) (slots1 := 0) (w_runV E kV_R_378 kc_X12_logged (t_R_logged l hfl G on a0 a1 M (r_set r 0 y1) ((fun z => (.inl (some (.int z)), M, (r_set r 0 y1))) z4) (by rw [hz]; rfl)) ⟨Nat.le_of_ble_eq_true rfl, Nat.le_of_ble_eq_true rfl⟩ hw (w_recvR E hw on) rfl hl.1 rfl (Nat.le_of_ble_eq_true rfl) dX12_log_48 ⟨Nat.le_of_ble_eq_true rfl, Nat.le_of_ble_eq_true rfl⟩) hw rfl (Nat.le_of_ble_eq_true rfl) (Nat.le_of_ble_eq_true rfl) (fun H locs hw => ?_)
        refine W.eq (g2 := F0 m 51 ls [.int z4]) rfl ?_
        have hw : w_W G M (r_set r 0 y1) s H locs := hw
        refine lv_goto (tgt := 55) hx hb dX12_log_51 (by decide) ?_
        exact p_iret E hw hr (Nat.le_of_ble_eq_true rfl) (Nat.le_of_ble_eq_true rfl) rfl dX12_log_55
    · refine lv_iconst (v := 0) hx hb dX12_log_26 (by decide) ?_
      exact p_iret E hw hr (Nat.le_of_ble_eq_true rfl) (Nat.le_of_ble_eq_true rfl) rfl dX12_log_27
  unfold f_R_log
  refine lv_aload_n hx hb dX12_log_0 rfl (lv_at hl 0 rfl) ?_
  refine lv_iload_n hx hb dX12_log_1 rfl (lv_at hl 2 rfl) ?_
  refine lv_iconst (v := 0) hx hb dX12_log_2 (by decide) ?_
  refine lv_bipush (v := 7) hx hb dX12_log_3 (by decide) ?_
  refine W_bind fun z1 hz => ?_
  refine w_after (cells1 := 0) (slots1 := 0) (w_runS E kS_R_59 kc_X12_isIn (t_R_isIn l hfl G a1 0 7 M r ((fun z => (.inl (some (.int z)), M, r)) z1) (by rw [hz]; rfl)) ⟨Nat.le_of_ble_eq_true rfl, Nat.le_of_ble_eq_true rfl⟩ hw rfl hl.1 rfl (Nat.le_of_ble_eq_true rfl) dX12_log_5 ⟨Nat.le_of_ble_eq_true rfl, Nat.le_of_ble_eq_true rfl⟩) hw rfl (Nat.le_of_ble_eq_true rfl) (Nat.le_of_ble_eq_true rfl) (fun H locs hw => ?_)
  refine W.eq (g2 := F0 m 8 ls [.int z1, .ref (g_r G)]) rfl ?_
  have hw : w_W G M r s H locs := hw
  refine cx_if_ne (tgt := 15) E dX12_log_8 (by decide) (fun _ => ?_) (fun _ => ?_)
  · refine lv_iconst (v := 0) hx hb dX12_log_15 (by decide) ?_
    exact w16  0 r _ _ _ hw (lv_sub hl [0, 1, 2] rfl)
  · refine lv_iconst (v := 1) hx hb dX12_log_11 (by decide) ?_
    refine lv_goto (tgt := 16) hx hb dX12_log_12 (by decide) ?_
    exact w16  1 r _ _ _ hw (lv_sub hl [0, 1, 2] rfl)

