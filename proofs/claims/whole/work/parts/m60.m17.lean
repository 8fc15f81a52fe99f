set_option maxHeartbeats 4000000 in
set_option maxRecDepth 100000 in
theorem t_R_colds (l : Launch) (hfl : l.stackTraces = false) (G : wG) (on : g_on G = true) (N : Nat) (a0 : Int32) (a1 : Int32) (M : Mem) (r : Rho) : Ctr l yX12_colds (wWs yX12_colds cX12_colds 3 (some .int)) rm_R_colds rm_R_colds.cells rm_R_colds.slots G [.ref (g_r G), .int a0, .int a1] M r ((f_R_colds N a0 a1 r).map (fun z => (.inl (some (.int z.1)), M, z.2))) := by
  refine Ctr.ofF (own := "CheekTownModel") (by decide +kernel) hfl rfl (Nat.le_of_ble_eq_true rfl) (fun p e s m args below meth c E hno hr hnm hw ls hl => ?_)
  obtain ⟨hx, hb, hts, hown, hml, hTT, -⟩ := id E
  have hl : lv_has ls 3 [(0, .ref (g_r G)), (1, .int a0), (2, .int a1)] := hl
  obtain ⟨H, hH⟩ : ∃ H, H = s.heap := ⟨_, rfl⟩
  obtain ⟨locs, hlo⟩ : ∃ L : List Loc, L = [] := ⟨_, rfl⟩
  rw [← hH, ← hlo]
  rw [← hlo] at hw
  replace hw : w_W G M r s H locs := by rw [hH]; exact hw
  have w16 : ∀ (y1 : Int32) (r : Rho) (H : Heap) (locs : List Loc) (ls : Array Slot), w_W G M r s H locs → lv_has ls 3 [(0, .ref (g_r G)), (1, .int a0), (2, .int a1)] → W p l e rm_R_colds s m args below meth c H locs 0 0 (PQ G below args s rm_R_colds.cells rm_R_colds.slots (fun z => (.inl (some (.int z.1)), M, z.2)) (f_R_colds_16 N a0 a1 y1 r)) (F0 m 16 ls [.int y1, .ref (g_r G)]) := by
    intro y1 r H locs ls hw hl
    unfold f_R_colds_16
    refine rx_putI E hw on kF_R_56_11 (by decide) kT_11_0 dX12_colds_16 (fun H locs hw => ?_)
    refine lv_aload_n hx hb dX12_colds_19 rfl (lv_at hl 0 rfl) ?_
    refine rx_getI E hw on kF_R_56_11 (by decide) dX12_colds_20 ?_
    refine cx_if_le (tgt := 30) E dX12_colds_23 (by decide) (fun _ => ?_) (fun _ => ?_)
    · refine lv_aload_n hx hb dX12_colds_30 rfl (lv_at hl 0 rfl) ?_
      refine lv_iload_n hx hb dX12_colds_31 rfl (lv_at hl 1 rfl) ?_
      refine lv_iload_n hx hb dX12_colds_32 rfl (lv_at hl 2 rfl) ?_
      refine W_bind fun z2 hz => ?_
      refine w_after (cells1 := 0) (slots1 := 0) (w_runV E kV_R_375 kc_X12_passes (t_R_passes l hfl G on N a0 a1 M (r_set r 0 y1) ((fun z => (.inl (some (.int z)), M, (r_set r 0 y1))) z2) (by rw [hz]; rfl)) ⟨Nat.le_of_ble_eq_true rfl, Nat.le_of_ble_eq_true rfl⟩ hw (w_recvR E hw on) rfl hl.1 rfl (Nat.le_of_ble_eq_true rfl) dX12_colds_33 ⟨Nat.le_of_ble_eq_true rfl, Nat.le_of_ble_eq_true rfl⟩) hw rfl (Nat.le_of_ble_eq_true rfl) (Nat.le_of_ble_eq_true rfl) (fun H locs hw => ?_)
      refine W.eq (g2 := F0 m 36 ls [.int z2]) rfl ?_
      have hw : w_W G M (r_set r 0 y1) s H locs := hw
      exact p_iret E hw hr (Nat.le_of_ble_eq_true rfl) (Nat.le_of_ble_eq_true rfl) rfl dX12_colds_36
    · refine lv_iconst (v := 0) hx hb dX12_colds_26 (by decide) ?_
      refine lv_goto (tgt := 36) hx hb dX12_colds_27 (by decide) ?_
      exact p_iret E hw hr (Nat.le_of_ble_eq_true rfl) (Nat.le_of_ble_eq_true rfl) rfl dX12_colds_36
  unfold f_R_colds
  refine lv_aload_n hx hb dX12_colds_0 rfl (lv_at hl 0 rfl) ?_
  refine lv_iload_n hx hb dX12_colds_1 rfl (lv_at hl 2 rfl) ?_
  refine lv_iconst (v := 0) hx hb dX12_colds_2 (by decide) ?_
  refine lv_bipush (v := 20) hx hb dX12_colds_3 (by decide) ?_
  refine W_bind fun z1 hz => ?_
  refine w_after (cells1 := 0) (slots1 := 0) (w_runS E kS_R_59 kc_X12_isIn (t_R_isIn l hfl G a1 0 20 M r ((fun z => (.inl (some (.int z)), M, r)) z1) (by rw [hz]; rfl)) ⟨Nat.le_of_ble_eq_true rfl, Nat.le_of_ble_eq_true rfl⟩ hw rfl hl.1 rfl (Nat.le_of_ble_eq_true rfl) dX12_colds_5 ⟨Nat.le_of_ble_eq_true rfl, Nat.le_of_ble_eq_true rfl⟩) hw rfl (Nat.le_of_ble_eq_true rfl) (Nat.le_of_ble_eq_true rfl) (fun H locs hw => ?_)
  refine W.eq (g2 := F0 m 8 ls [.int z1, .ref (g_r G)]) rfl ?_
  have hw : w_W G M r s H locs := hw
  refine cx_if_ne (tgt := 15) E dX12_colds_8 (by decide) (fun _ => ?_) (fun _ => ?_)
  · refine lv_iconst (v := 0) hx hb dX12_colds_15 (by decide) ?_
    exact w16  0 r _ _ _ hw (lv_sub hl [0, 1, 2] rfl)
  · refine lv_iconst (v := 1) hx hb dX12_colds_11 (by decide) ?_
    refine lv_goto (tgt := 16) hx hb dX12_colds_12 (by decide) ?_
    exact w16  1 r _ _ _ hw (lv_sub hl [0, 1, 2] rfl)
set_option maxHeartbeats 4000000 in
set_option maxRecDepth 100000 in
theorem t_R_spared (l : Launch) (hfl : l.stackTraces = false) (G : wG) (on : g_on G = true) (N : Nat) (a0 : Int32) (a1 : Int32) (M : Mem) (r : Rho) : Ctr l yX12_spared (wWs yX12_spared cX12_spared 5 (some .int)) rm_R_spared rm_R_spared.cells rm_R_spared.slots G [.ref (g_r G), .int a0, .int a1] M r ((f_R_spared N a0 a1 r).map (fun z => (.inl (some (.int z.1)), M, z.2))) := by
  refine Ctr.ofF (own := "CheekTownModel") (by decide +kernel) hfl rfl (Nat.le_of_ble_eq_true rfl) (fun p e s m args below meth c E hno hr hnm hw ls hl => ?_)
  obtain ⟨hx, hb, hts, hown, hml, hTT, -⟩ := id E
  have hl : lv_has ls 5 [(0, .ref (g_r G)), (1, .int a0), (2, .int a1)] := hl
  obtain ⟨H, hH⟩ : ∃ H, H = s.heap := ⟨_, rfl⟩
  obtain ⟨locs, hlo⟩ : ∃ L : List Loc, L = [] := ⟨_, rfl⟩
  rw [← hH, ← hlo]
  rw [← hlo] at hw
  replace hw : w_W G M r s H locs := by rw [hH]; exact hw
  have w102 : ∀ (k59 : Int32 → Int32 → Rho → Option (Int32 × Rho)) (hk59 : ∀ (x3 : Int32) (x4 : Int32) (r : Rho) (H : Heap) (locs : List Loc) (ls : Array Slot), w_W G M r s H locs → lv_has ls 5 [(0, .ref (g_r G)), (1, .int a0), (2, .int a1), (3, .int x3), (4, .int x4)] → W p l e rm_R_spared s m args below meth c H locs 0 0 (PQ G below args s rm_R_spared.cells rm_R_spared.slots (fun z => (.inl (some (.int z.1)), M, z.2)) (k59 x3 x4 r)) (F0 m 59 ls [])) (x3 : Int32) (x4 : Int32) (r : Rho) (H : Heap) (locs : List Loc) (ls : Array Slot), w_W G M r s H locs → lv_has ls 5 [(0, .ref (g_r G)), (1, .int a0), (2, .int a1), (3, .int x3), (4, .int x4)] → W p l e rm_R_spared s m args below meth c H locs 0 0 (PQ G below args s rm_R_spared.cells rm_R_spared.slots (fun z => (.inl (some (.int z.1)), M, z.2)) (f_R_spared_102 N a0 a1 k59 x3 x4 r)) (F0 m 102 ls []) := by
    intro k59 hk59 x3 x4 r H locs ls hw hl
    unfold f_R_spared_102
    refine lv_aload_n hx hb dX12_spared_102 rfl (lv_at hl 0 rfl) ?_
    refine lv_iload hx hb dX12_spared_103 (lv_at hl 4 rfl) ?_
    refine lv_iload_n hx hb dX12_spared_105 rfl (lv_at hl 2 rfl) ?_
    refine W_bind fun z8 hz => ?_
    refine w_after (cells1 := 0) (slots1 := 0) (w_runV E kV_R_375 kc_X12_passes (t_R_passes l hfl G on N x4 a1 M r ((fun z => (.inl (some (.int z)), M, r)) z8) (by rw [hz]; rfl)) ⟨Nat.le_of_ble_eq_true rfl, Nat.le_of_ble_eq_true rfl⟩ hw (w_recvR E hw on) rfl hl.1 rfl (Nat.le_of_ble_eq_true rfl) dX12_spared_106 ⟨Nat.le_of_ble_eq_true rfl, Nat.le_of_ble_eq_true rfl⟩) hw rfl (Nat.le_of_ble_eq_true rfl) (Nat.le_of_ble_eq_true rfl) (fun H locs hw => ?_)
    refine W.eq (g2 := F0 m 109 ls [.int z8]) rfl ?_
    have hw : w_W G M r s H locs := hw
    refine lv_iload_n hx hb dX12_spared_109 rfl (lv_at hl 1 rfl) ?_
    refine W_bind fun z9 hz => ?_
    refine w_after (cells1 := 0) (slots1 := 0) (w_runS E kS_R_305 kc_X12_isOf (t_R_isOf l hfl G z8 a0 M r ((fun z => (.inl (some (.int z)), M, r)) z9) (by rw [hz]; rfl)) ⟨Nat.le_of_ble_eq_true rfl, Nat.le_of_ble_eq_true rfl⟩ hw rfl hl.1 rfl (Nat.le_of_ble_eq_true rfl) dX12_spared_110 ⟨Nat.le_of_ble_eq_true rfl, Nat.le_of_ble_eq_true rfl⟩) hw rfl (Nat.le_of_ble_eq_true rfl) (Nat.le_of_ble_eq_true rfl) (fun H locs hw => ?_)
    refine W.eq (g2 := F0 m 113 ls [.int z9]) rfl ?_
    have hw : w_W G M r s H locs := hw
    refine cx_if_ne (tgt := 119) E dX12_spared_113 (by decide) (fun _ => ?_) (fun _ => ?_)
    · refine lv_iinc (v := x4 + 1) (lv' := [(4, .int (x4 + 1)), (0, .ref (g_r G)), (1, .int a0), (2, .int a1), (3, .int x3)]) hx hb dX12_spared_119 hl (k := 4) rfl rfl (by decide) rfl (fun ls hl => ?_)
      refine lv_goto (tgt := 59) hx hb dX12_spared_122 (by decide) ?_
      exact hk59 x3 (x4 + 1) r _ _ _ hw (lv_sub hl [1, 2, 3, 4, 0] rfl)
    · refine lv_iload hx hb dX12_spared_116 (lv_at hl 4 rfl) ?_
      refine lv_istore_n (lv' := [(3, .int x4), (0, .ref (g_r G)), (1, .int a0), (2, .int a1), (4, .int x4)]) hx hb dX12_spared_118 rfl hl (by decide) rfl (fun ls hl => ?_)
      refine lv_iinc (v := x4 + 1) (lv' := [(4, .int (x4 + 1)), (3, .int x4), (0, .ref (g_r G)), (1, .int a0), (2, .int a1)]) hx hb dX12_spared_119 hl (k := 4) rfl rfl (by decide) rfl (fun ls hl => ?_)
      refine lv_goto (tgt := 59) hx hb dX12_spared_122 (by decide) ?_
      exact hk59 x4 (x4 + 1) r _ _ _ hw (lv_sub hl [2, 3, 4, 1, 0] rfl)
  have w59 : ∀ (n : Nat) (x3 : Int32) (x4 : Int32) (r : Rho) (H : Heap) (locs : List Loc) (ls : Array Slot), w_W G M r s H locs → lv_has ls 5 [(0, .ref (g_r G)), (1, .int a0), (2, .int a1), (3, .int x3), (4, .int x4)] → W p l e rm_R_spared s m args below meth c H locs 0 0 (PQ G below args s rm_R_spared.cells rm_R_spared.slots (fun z => (.inl (some (.int z.1)), M, z.2)) (f_R_spared_59 N a0 a1 n x3 x4 r)) (F0 m 59 ls []) := by
    intro n
    induction n with
    | zero => intros; exact W_none
    | succ n ih =>
      intro x3 x4 r H locs ls hw hl
      rw [f_R_spared_59]
      refine lv_iload hx hb dX12_spared_59 (lv_at hl 4 rfl) ?_
      refine lv_iconst (v := 1) hx hb dX12_spared_61 (by decide) ?_
      refine lv_aload_n hx hb dX12_spared_62 rfl (lv_at hl 0 rfl) ?_
      refine rx_getA E hw on kF_R_7_11 (by decide) dX12_spared_63 ?_
      refine lv_iconst (v := 5) hx hb dX12_spared_66 (by decide) ?_
      refine rx_iald E hw on (by decide) dX12_spared_67 (fun v4 => ?_)
      refine lv_ishl hx hb dX12_spared_68 ?_
      refine cx_icmp_ge (tgt := 125) E dX12_spared_69 (by decide) (fun _ => ?_) (fun _ => ?_)
      · refine lv_iload_n hx hb dX12_spared_125 rfl (lv_at hl 3 rfl) ?_
        exact p_iret E hw hr (Nat.le_of_ble_eq_true rfl) (Nat.le_of_ble_eq_true rfl) rfl dX12_spared_126
      · refine lv_iload hx hb dX12_spared_72 (lv_at hl 4 rfl) ?_
        refine lv_iload_n hx hb dX12_spared_74 rfl (lv_at hl 1 rfl) ?_
        refine W_bind fun z5 hz => ?_
        refine w_after (cells1 := 0) (slots1 := 0) (w_runS E kS_R_305 kc_X12_isOf (t_R_isOf l hfl G x4 a0 M r ((fun z => (.inl (some (.int z)), M, r)) z5) (by rw [hz]; rfl)) ⟨Nat.le_of_ble_eq_true rfl, Nat.le_of_ble_eq_true rfl⟩ hw rfl hl.1 rfl (Nat.le_of_ble_eq_true rfl) dX12_spared_75 ⟨Nat.le_of_ble_eq_true rfl, Nat.le_of_ble_eq_true rfl⟩) hw rfl (Nat.le_of_ble_eq_true rfl) (Nat.le_of_ble_eq_true rfl) (fun H locs hw => ?_)
        refine W.eq (g2 := F0 m 78 ls [.int z5]) rfl ?_
        have hw : w_W G M r s H locs := hw
        refine cx_if_ne (tgt := 119) E dX12_spared_78 (by decide) (fun _ => ?_) (fun _ => ?_)
        · refine lv_iinc (v := x4 + 1) (lv' := [(4, .int (x4 + 1)), (0, .ref (g_r G)), (1, .int a0), (2, .int a1), (3, .int x3)]) hx hb dX12_spared_119 hl (k := 4) rfl rfl (by decide) rfl (fun ls hl => ?_)
          refine lv_goto (tgt := 59) hx hb dX12_spared_122 (by decide) ?_
          exact ih x3 (x4 + 1) r _ _ _ hw (lv_sub hl [1, 2, 3, 4, 0] rfl)
        · refine lv_iload_n hx hb dX12_spared_81 rfl (lv_at hl 3 rfl) ?_
          refine lv_bipush (v := (-2)) hx hb dX12_spared_82 (by decide) ?_
          refine cx_icmp_eq (tgt := 102) E dX12_spared_84 (by decide) (fun _ => ?_) (fun _ => ?_)
          · exact w102 (f_R_spared_59 N a0 a1 n) ih x3 x4 r _ _ _ hw (lv_sub hl [0, 1, 2, 3, 4] rfl)
          · refine lv_iload hx hb dX12_spared_87 (lv_at hl 4 rfl) ?_
            refine W_bind fun z6 hz => ?_
            refine w_after (cells1 := 0) (slots1 := 0) (w_runS E kS_R_340 kc_X12_bits (t_R_bits l hfl G N x4 M r ((fun z => (.inl (some (.int z)), M, r)) z6) (by rw [hz]; rfl)) ⟨Nat.le_of_ble_eq_true rfl, Nat.le_of_ble_eq_true rfl⟩ hw rfl hl.1 rfl (Nat.le_of_ble_eq_true rfl) dX12_spared_89 ⟨Nat.le_of_ble_eq_true rfl, Nat.le_of_ble_eq_true rfl⟩) hw rfl (Nat.le_of_ble_eq_true rfl) (Nat.le_of_ble_eq_true rfl) (fun H locs hw => ?_)
            refine W.eq (g2 := F0 m 92 ls [.int z6]) rfl ?_
            have hw : w_W G M r s H locs := hw
            refine lv_iload_n hx hb dX12_spared_92 rfl (lv_at hl 3 rfl) ?_
            refine W_bind fun z7 hz => ?_
            refine w_after (cells1 := 0) (slots1 := 0) (w_runS E kS_R_340 kc_X12_bits (t_R_bits l hfl G N x3 M r ((fun z => (.inl (some (.int z)), M, r)) z7) (by rw [hz]; rfl)) ⟨Nat.le_of_ble_eq_true rfl, Nat.le_of_ble_eq_true rfl⟩ hw rfl hl.1 rfl (Nat.le_of_ble_eq_true rfl) dX12_spared_93 ⟨Nat.le_of_ble_eq_true rfl, Nat.le_of_ble_eq_true rfl⟩) hw rfl (Nat.le_of_ble_eq_true rfl) (Nat.le_of_ble_eq_true rfl) (fun H locs hw => ?_)
            refine W.eq (g2 := F0 m 96 ls [.int z7, .int z6]) rfl ?_
            have hw : w_W G M r s H locs := hw
            refine cx_icmp_lt (tgt := 102) E dX12_spared_96 (by decide) (fun _ => ?_) (fun _ => ?_)
            · exact w102 (f_R_spared_59 N a0 a1 n) ih x3 x4 r _ _ _ hw (lv_sub hl [0, 1, 2, 3, 4] rfl)
            · refine lv_goto (tgt := 119) hx hb dX12_spared_99 (by decide) ?_
              refine lv_iinc (v := x4 + 1) (lv' := [(4, .int (x4 + 1)), (0, .ref (g_r G)), (1, .int a0), (2, .int a1), (3, .int x3)]) hx hb dX12_spared_119 hl (k := 4) rfl rfl (by decide) rfl (fun ls hl => ?_)
              refine lv_goto (tgt := 59) hx hb dX12_spared_122 (by decide) ?_
              exact ih x3 (x4 + 1) r _ _ _ hw (lv_sub hl [1, 2, 3, 4, 0] rfl)
  have w28 : ∀ (y1 : Int32) (r : Rho) (H : Heap) (locs : List Loc) (ls : Array Slot), w_W G M r s H locs → lv_has ls 5 [(0, .ref (g_r G)), (1, .int a0), (2, .int a1)] → W p l e rm_R_spared s m args below meth c H locs 0 0 (PQ G below args s rm_R_spared.cells rm_R_spared.slots (fun z => (.inl (some (.int z.1)), M, z.2)) (f_R_spared_28 N a0 a1 y1 r)) (F0 m 28 ls [.int y1, .ref (g_r G)]) := by
    intro y1 r H locs ls hw hl
    unfold f_R_spared_28
    refine rx_putI E hw on kF_R_56_11 (by decide) kT_11_0 dX12_spared_28 (fun H locs hw => ?_)
    refine lv_aload_n hx hb dX12_spared_31 rfl (lv_at hl 0 rfl) ?_
    refine rx_getI E hw on kF_R_56_11 (by decide) dX12_spared_32 ?_
    refine cx_if_le (tgt := 40) E dX12_spared_35 (by decide) (fun _ => ?_) (fun _ => ?_)
    · refine lv_aload_n hx hb dX12_spared_40 rfl (lv_at hl 0 rfl) ?_
      refine lv_iload_n hx hb dX12_spared_41 rfl (lv_at hl 1 rfl) ?_
      refine lv_iconst (v := 4) hx hb dX12_spared_42 (by decide) ?_
      refine W_bind fun z3 hz => ?_
      refine w_after (cells1 := 0) (slots1 := 0) (w_runV E kV_R_257 kc_X12_of (t_R_of l hfl G on a0 4 M (r_set r 0 y1) ((fun z => (.inl (some (.int z)), M, (r_set r 0 y1))) z3) (by rw [hz]; rfl)) ⟨Nat.le_of_ble_eq_true rfl, Nat.le_of_ble_eq_true rfl⟩ hw (w_recvR E hw on) rfl hl.1 rfl (Nat.le_of_ble_eq_true rfl) dX12_spared_43 ⟨Nat.le_of_ble_eq_true rfl, Nat.le_of_ble_eq_true rfl⟩) hw rfl (Nat.le_of_ble_eq_true rfl) (Nat.le_of_ble_eq_true rfl) (fun H locs hw => ?_)
      refine W.eq (g2 := F0 m 46 ls [.int z3]) rfl ?_
      have hw : w_W G M (r_set r 0 y1) s H locs := hw
      refine lv_iconst (v := 1) hx hb dX12_spared_46 (by decide) ?_
      refine cx_icmp_ne (tgt := 53) E dX12_spared_47 (by decide) (fun _ => ?_) (fun _ => ?_)
      · refine lv_bipush (v := (-2)) hx hb dX12_spared_53 (by decide) ?_
        refine lv_istore_n (lv' := [(3, .int (-2)), (0, .ref (g_r G)), (1, .int a0), (2, .int a1)]) hx hb dX12_spared_55 rfl hl (by decide) rfl (fun ls hl => ?_)
        refine lv_iconst (v := 0) hx hb dX12_spared_56 (by decide) ?_
        refine lv_istore (lv' := [(4, .int 0), (3, .int (-2)), (0, .ref (g_r G)), (1, .int a0), (2, .int a1)]) hx hb dX12_spared_57 hl (by decide) rfl (fun ls hl => ?_)
        exact w59  N (-2) 0 (r_set r 0 y1) _ _ _ hw (lv_sub hl [2, 3, 4, 1, 0] rfl)
      · refine lv_bipush (v := (-2)) hx hb dX12_spared_50 (by decide) ?_
        exact p_iret E hw hr (Nat.le_of_ble_eq_true rfl) (Nat.le_of_ble_eq_true rfl) rfl dX12_spared_52
    · refine lv_iconst (v := 0) hx hb dX12_spared_38 (by decide) ?_
      exact p_iret E hw hr (Nat.le_of_ble_eq_true rfl) (Nat.le_of_ble_eq_true rfl) rfl dX12_spared_39
  unfold f_R_spared
  refine lv_aload_n hx hb dX12_spared_0 rfl (lv_at hl 0 rfl) ?_
  refine lv_aload_n hx hb dX12_spared_1 rfl (lv_at hl 0 rfl) ?_
  refine lv_iload_n hx hb dX12_spared_2 rfl (lv_at hl 1 rfl) ?_
  refine W_bind fun z1 hz => ?_
  refine w_after (cells1 := 0) (slots1 := 0) (w_runV E kV_R_271 kc_X12_isPerson (t_R_isPerson l hfl G on a0 M r ((fun z => (.inl (some (.int z)), M, r)) z1) (by rw [hz]; rfl)) ⟨Nat.le_of_ble_eq_true rfl, Nat.le_of_ble_eq_true rfl⟩ hw (w_recvR E hw on) rfl hl.1 rfl (Nat.le_of_ble_eq_true rfl) dX12_spared_3 ⟨Nat.le_of_ble_eq_true rfl, Nat.le_of_ble_eq_true rfl⟩) hw rfl (Nat.le_of_ble_eq_true rfl) (Nat.le_of_ble_eq_true rfl) (fun H locs hw => ?_)
  refine W.eq (g2 := F0 m 6 ls [.int z1, .ref (g_r G)]) rfl ?_
  have hw : w_W G M r s H locs := hw
  refine cx_if_ne (tgt := 13) E dX12_spared_6 (by decide) (fun _ => ?_) (fun _ => ?_)
  · refine lv_iload_n hx hb dX12_spared_13 rfl (lv_at hl 2 rfl) ?_
    refine lv_iconst (v := 0) hx hb dX12_spared_14 (by decide) ?_
    refine lv_bipush (v := 20) hx hb dX12_spared_15 (by decide) ?_
    refine W_bind fun z2 hz => ?_
    refine w_after (cells1 := 0) (slots1 := 0) (w_runS E kS_R_59 kc_X12_isIn (t_R_isIn l hfl G a1 0 20 M r ((fun z => (.inl (some (.int z)), M, r)) z2) (by rw [hz]; rfl)) ⟨Nat.le_of_ble_eq_true rfl, Nat.le_of_ble_eq_true rfl⟩ hw rfl hl.1 rfl (Nat.le_of_ble_eq_true rfl) dX12_spared_17 ⟨Nat.le_of_ble_eq_true rfl, Nat.le_of_ble_eq_true rfl⟩) hw rfl (Nat.le_of_ble_eq_true rfl) (Nat.le_of_ble_eq_true rfl) (fun H locs hw => ?_)
    refine W.eq (g2 := F0 m 20 ls [.int z2, .ref (g_r G)]) rfl ?_
    have hw : w_W G M r s H locs := hw
    refine cx_if_ne (tgt := 27) E dX12_spared_20 (by decide) (fun _ => ?_) (fun _ => ?_)
    · refine lv_iconst (v := 0) hx hb dX12_spared_27 (by decide) ?_
      exact w28  0 r _ _ _ hw (lv_sub hl [0, 1, 2] rfl)
    · refine lv_iconst (v := 2) hx hb dX12_spared_23 (by decide) ?_
      refine lv_goto (tgt := 28) hx hb dX12_spared_24 (by decide) ?_
      exact w28  2 r _ _ _ hw (lv_sub hl [0, 1, 2] rfl)
  · refine lv_iconst (v := 1) hx hb dX12_spared_9 (by decide) ?_
    refine lv_goto (tgt := 28) hx hb dX12_spared_10 (by decide) ?_
    exact w28  1 r _ _ _ hw (lv_sub hl [0, 1, 2] rfl)
set_option maxHeartbeats 4000000 in
set_option maxRecDepth 100000 in
theorem t_R_logged (l : Launch) (hfl : l.stackTraces = false) (G : wG) (on : g_on G = true) (a0 : Int32) (a1 : Int32) (M : Mem) (r : Rho) : Ctr l yX12_logged (wWs yX12_logged cX12_logged 3 (some .int)) rm_R_logged rm_R_logged.cells rm_R_logged.slots G [.ref (g_r G), .int a0, .int a1] M r ((f_R_logged a0 a1 r).map (fun z => (.inl (some (.int z)), M, r))) := by
  refine Ctr.ofF (own := "CheekTownModel") (by decide +kernel) hfl rfl (Nat.le_of_ble_eq_true rfl) (fun p e s m args below meth c E hno hr hnm hw ls hl => ?_)
  obtain ⟨hx, hb, hts, hown, hml, hTT, -⟩ := id E
  have hl : lv_has ls 3 [(0, .ref (g_r G)), (1, .int a0), (2, .int a1)] := hl
  obtain ⟨H, hH⟩ : ∃ H, H = s.heap := ⟨_, rfl⟩
  obtain ⟨locs, hlo⟩ : ∃ L : List Loc, L = [] := ⟨_, rfl⟩
  rw [← hH, ← hlo]
  rw [← hlo] at hw
  replace hw : w_W G M r s H locs := by rw [hH]; exact hw
  unfold f_R_logged
  refine lv_aload_n hx hb dX12_logged_0 rfl (lv_at hl 0 rfl) ?_
  refine rx_getA E hw on kF_R_7_11 (by decide) dX12_logged_1 ?_
  refine lv_sipush (v := 420) hx hb dX12_logged_4 (by decide) ?_
  refine lv_bipush (v := 8) hx hb dX12_logged_7 (by decide) ?_
  refine lv_iload_n hx hb dX12_logged_9 rfl (lv_at hl 1 rfl) ?_
  refine lv_imul hx hb dX12_logged_10 ?_
  refine lv_iadd hx hb dX12_logged_11 ?_
  refine lv_iload_n hx hb dX12_logged_12 rfl (lv_at hl 2 rfl) ?_
  refine lv_iadd hx hb dX12_logged_13 ?_
  refine rx_iald E hw on (by decide) dX12_logged_14 (fun v1 => ?_)
  exact p_iret E hw hr (Nat.le_of_ble_eq_true rfl) (Nat.le_of_ble_eq_true rfl) rfl dX12_logged_15
set_option maxHeartbeats 4000000 in
set_option maxRecDepth 100000 in
theorem t_R_changed (l : Launch) (hfl : l.stackTraces = false) (G : wG) (on : g_on G = true) (N : Nat) (a0 : Int32) (M : Mem) (r : Rho) : Ctr l yX12_changed (wWs yX12_changed cX12_changed 9 (some .int)) rm_R_changed rm_R_changed.cells rm_R_changed.slots G [.ref (g_r G), .int a0] M r ((f_R_changed N a0 r).map (fun z => (.inl (some (.int z.1)), M, z.2))) := by
  refine Ctr.ofF (own := "CheekTownModel") (by decide +kernel) hfl rfl (Nat.le_of_ble_eq_true rfl) (fun p e s m args below meth c E hno hr hnm hw ls hl => ?_)
  obtain ⟨hx, hb, hts, hown, hml, hTT, -⟩ := id E
  have hl : lv_has ls 9 [(0, .ref (g_r G)), (1, .int a0)] := hl
  obtain ⟨H, hH⟩ : ∃ H, H = s.heap := ⟨_, rfl⟩
  obtain ⟨locs, hlo⟩ : ∃ L : List Loc, L = [] := ⟨_, rfl⟩
  rw [← hH, ← hlo]
  rw [← hlo] at hw
  replace hw : w_W G M r s H locs := by rw [hH]; exact hw
  have w130 : ∀ (k41 : Int32 → Int32 → Int32 → Rho → Option (Int32 × Rho)) (hk41 : ∀ (x2 : Int32) (x3 : Int32) (x4 : Int32) (r : Rho) (H : Heap) (locs : List Loc) (ls : Array Slot), w_W G M r s H locs → lv_has ls 9 [(0, .ref (g_r G)), (1, .int a0), (2, .int x2), (3, .int x3), (4, .int x4)] → W p l e rm_R_changed s m args below meth c H locs 0 0 (PQ G below args s rm_R_changed.cells rm_R_changed.slots (fun z => (.inl (some (.int z.1)), M, z.2)) (k41 x2 x3 x4 r)) (F0 m 41 ls [])) (k49 : Int32 → Int32 → Int32 → Int32 → Rho → Option (Int32 × Rho)) (hk49 : ∀ (x2 : Int32) (x3 : Int32) (x4 : Int32) (x5 : Int32) (r : Rho) (H : Heap) (locs : List Loc) (ls : Array Slot), w_W G M r s H locs → lv_has ls 9 [(0, .ref (g_r G)), (1, .int a0), (2, .int x2), (3, .int x3), (4, .int x4), (5, .int x5)] → W p l e rm_R_changed s m args below meth c H locs 0 0 (PQ G below args s rm_R_changed.cells rm_R_changed.slots (fun z => (.inl (some (.int z.1)), M, z.2)) (k49 x2 x3 x4 x5 r)) (F0 m 49 ls [])) (x2 : Int32) (x3 : Int32) (x4 : Int32) (x5 : Int32) (x7 : Int32) (x8 : Int32) (r : Rho) (H : Heap) (locs : List Loc) (ls : Array Slot), w_W G M r s H locs → lv_has ls 9 [(0, .ref (g_r G)), (1, .int a0), (2, .int x2), (3, .int x3), (4, .int x4), (5, .int x5), (7, .int x7), (8, .int x8)] → W p l e rm_R_changed s m args below meth c H locs 0 0 (PQ G below args s rm_R_changed.cells rm_R_changed.slots (fun z => (.inl (some (.int z.1)), M, z.2)) (f_R_changed_130 N a0 k41 k49 x2 x3 x4 x5 x7 x8 r)) (F0 m 130 ls []) := by
    intro k41 hk41 k49 hk49 x2 x3 x4 x5 x7 x8 r H locs ls hw hl
    unfold f_R_changed_130
    refine lv_aload_n hx hb dX12_changed_130 rfl (lv_at hl 0 rfl) ?_
    refine rx_getA E hw on kF_R_53_11 (by decide) dX12_changed_131 ?_
    refine lv_iload hx hb dX12_changed_134 (lv_at hl 6 rfl) ?_
    refine lv_iload hx hb dX12_changed_136 (lv_at hl 7 rfl) ?_
    refine rx_iast E hw on (by decide) dX12_changed_138 (fun r8 H locs hw => ?_)
    refine lv_iinc (v := x5 + 1) (lv' := [(5, .int (x5 + 1)), (0, .ref (g_r G)), (1, .int a0), (2, .int x2), (3, .int x3), (4, .int x4), (7, .int x7), (8, .int x8)]) hx hb dX12_changed_139 hl (k := 5) rfl rfl (by decide) rfl (fun ls hl => ?_)
    refine lv_goto (tgt := 49) hx hb dX12_changed_142 (by decide) ?_
    exact hk49 x2 x3 x4 (x5 + 1) r8 _ _ _ hw (lv_sub hl [1, 2, 3, 4, 5, 0] rfl)
  have w49 : ∀ (k41 : Int32 → Int32 → Int32 → Rho → Option (Int32 × Rho)) (hk41 : ∀ (x2 : Int32) (x3 : Int32) (x4 : Int32) (r : Rho) (H : Heap) (locs : List Loc) (ls : Array Slot), w_W G M r s H locs → lv_has ls 9 [(0, .ref (g_r G)), (1, .int a0), (2, .int x2), (3, .int x3), (4, .int x4)] → W p l e rm_R_changed s m args below meth c H locs 0 0 (PQ G below args s rm_R_changed.cells rm_R_changed.slots (fun z => (.inl (some (.int z.1)), M, z.2)) (k41 x2 x3 x4 r)) (F0 m 41 ls [])) (n : Nat) (x2 : Int32) (x3 : Int32) (x4 : Int32) (x5 : Int32) (r : Rho) (H : Heap) (locs : List Loc) (ls : Array Slot), w_W G M r s H locs → lv_has ls 9 [(0, .ref (g_r G)), (1, .int a0), (2, .int x2), (3, .int x3), (4, .int x4), (5, .int x5)] → W p l e rm_R_changed s m args below meth c H locs 0 0 (PQ G below args s rm_R_changed.cells rm_R_changed.slots (fun z => (.inl (some (.int z.1)), M, z.2)) (f_R_changed_49 N a0 k41 n x2 x3 x4 x5 r)) (F0 m 49 ls []) := by
    intro k41 hk41 n
    induction n with
    | zero => intros; exact W_none
    | succ n ih =>
      intro x2 x3 x4 x5 r H locs ls hw hl
      rw [f_R_changed_49]
      refine lv_iload hx hb dX12_changed_49 (lv_at hl 5 rfl) ?_
      refine lv_iconst (v := 2) hx hb dX12_changed_51 (by decide) ?_
      refine cx_icmp_ge (tgt := 145) E dX12_changed_52 (by decide) (fun _ => ?_) (fun _ => ?_)
      · refine lv_iinc (v := x4 + (-1)) (lv' := [(4, .int (x4 + (-1))), (0, .ref (g_r G)), (1, .int a0), (2, .int x2), (3, .int x3), (5, .int x5)]) hx hb dX12_changed_145 hl (k := 4) rfl rfl (by decide) rfl (fun ls hl => ?_)
        refine lv_goto (tgt := 41) hx hb dX12_changed_148 (by decide) ?_
        exact hk41 x2 x3 (x4 + (-1)) r _ _ _ hw (lv_sub hl [1, 2, 3, 4, 0] rfl)
      · refine lv_aload_n hx hb dX12_changed_55 rfl (lv_at hl 0 rfl) ?_
        refine lv_iload hx hb dX12_changed_56 (lv_at hl 4 rfl) ?_
        refine lv_iconst (v := 1) hx hb dX12_changed_58 (by decide) ?_
        refine lv_iload hx hb dX12_changed_59 (lv_at hl 5 rfl) ?_
        refine lv_iadd hx hb dX12_changed_61 ?_
        refine W_bind fun z3 hz => ?_
        refine w_after (cells1 := 0) (slots1 := 0) (w_runV E kV_R_378 kc_X12_logged (t_R_logged l hfl G on x4 (1 + x5) M r ((fun z => (.inl (some (.int z)), M, r)) z3) (by rw [hz]; rfl)) ⟨Nat.le_of_ble_eq_true rfl, Nat.le_of_ble_eq_true rfl⟩ hw (w_recvR E hw on) rfl hl.1 rfl (Nat.le_of_ble_eq_true rfl) dX12_changed_62 ⟨Nat.le_of_ble_eq_true rfl, Nat.le_of_ble_eq_true rfl⟩) hw rfl (Nat.le_of_ble_eq_true rfl) (Nat.le_of_ble_eq_true rfl) (fun H locs hw => ?_)
        refine W.eq (g2 := F0 m 65 ls [.int z3]) rfl ?_
        have hw : w_W G M r s H locs := hw
        refine lv_istore (lv' := [(6, .int z3), (0, .ref (g_r G)), (1, .int a0), (2, .int x2), (3, .int x3), (4, .int x4), (5, .int x5)]) hx hb dX12_changed_65 hl (by decide) rfl (fun ls hl => ?_)
        refine lv_bipush (v := 10) hx hb dX12_changed_67 (by decide) ?_
        refine lv_iload hx hb dX12_changed_69 (lv_at hl 0 rfl) ?_
        refine lv_imul hx hb dX12_changed_71 ?_
        refine lv_aload_n hx hb dX12_changed_72 rfl (lv_at hl 1 rfl) ?_
        refine lv_iload hx hb dX12_changed_73 (lv_at hl 5 rfl) ?_
        refine lv_iconst (v := 2) hx hb dX12_changed_75 (by decide) ?_
        refine lv_iload hx hb dX12_changed_76 (lv_at hl 6 rfl) ?_
        refine lv_isub hx hb dX12_changed_78 ?_
        refine W_bind fun z4 hz => ?_
        refine w_after (cells1 := 0) (slots1 := 0) (w_runV E kV_R_378 kc_X12_logged (t_R_logged l hfl G on x4 (2 - x5) M r ((fun z => (.inl (some (.int z)), M, r)) z4) (by rw [hz]; rfl)) ⟨Nat.le_of_ble_eq_true rfl, Nat.le_of_ble_eq_true rfl⟩ hw (w_recvR E hw on) rfl hl.1 rfl (Nat.le_of_ble_eq_true rfl) dX12_changed_79 ⟨Nat.le_of_ble_eq_true rfl, Nat.le_of_ble_eq_true rfl⟩) hw rfl (Nat.le_of_ble_eq_true rfl) (Nat.le_of_ble_eq_true rfl) (fun H locs hw => ?_)
        refine W.eq (g2 := F0 m 82 ls [.int z4, .int (10 * z3)]) rfl ?_
        have hw : w_W G M r s H locs := hw
        refine lv_iadd hx hb dX12_changed_82 ?_
        refine lv_istore (lv' := [(7, .int ((10 * z3) + z4)), (6, .int z3), (0, .ref (g_r G)), (1, .int a0), (2, .int x2), (3, .int x3), (4, .int x4), (5, .int x5)]) hx hb dX12_changed_83 hl (by decide) rfl (fun ls hl => ?_)
        refine lv_aload_n hx hb dX12_changed_85 rfl (lv_at hl 2 rfl) ?_
        refine lv_iload hx hb dX12_changed_86 (lv_at hl 6 rfl) ?_
        refine lv_iconst (v := 3) hx hb dX12_changed_88 (by decide) ?_
        refine lv_iload hx hb dX12_changed_89 (lv_at hl 7 rfl) ?_
        refine lv_iadd hx hb dX12_changed_91 ?_
        refine W_bind fun z5 hz => ?_
        refine w_after (cells1 := 0) (slots1 := 0) (w_runV E kV_R_378 kc_X12_logged (t_R_logged l hfl G on x4 (3 + x5) M r ((fun z => (.inl (some (.int z)), M, r)) z5) (by rw [hz]; rfl)) ⟨Nat.le_of_ble_eq_true rfl, Nat.le_of_ble_eq_true rfl⟩ hw (w_recvR E hw on) rfl hl.1 rfl (Nat.le_of_ble_eq_true rfl) dX12_changed_92 ⟨Nat.le_of_ble_eq_true rfl, Nat.le_of_ble_eq_true rfl⟩) hw rfl (Nat.le_of_ble_eq_true rfl) (Nat.le_of_ble_eq_true rfl) (fun H locs hw => ?_)
        refine W.eq (g2 := F0 m 95 ls [.int z5]) rfl ?_
        have hw : w_W G M r s H locs := hw
        refine lv_istore (lv' := [(8, .int z5), (7, .int ((10 * z3) + z4)), (6, .int z3), (0, .ref (g_r G)), (1, .int a0), (2, .int x2), (3, .int x3), (4, .int x4), (5, .int x5)]) hx hb dX12_changed_95 hl (by decide) rfl (fun ls hl => ?_)
        refine lv_aload_n hx hb dX12_changed_97 rfl (lv_at hl 3 rfl) ?_
        refine rx_getA E hw on kF_R_53_11 (by decide) dX12_changed_98 ?_
        refine lv_iload hx hb dX12_changed_101 (lv_at hl 1 rfl) ?_
        refine rx_iald E hw on (by decide) dX12_changed_103 (fun v6 => ?_)
        refine lv_iconst (v := (-1)) hx hb dX12_changed_104 (by decide) ?_
        refine cx_icmp_eq (tgt := 130) E dX12_changed_105 (by decide) (fun _ => ?_) (fun _ => ?_)
        · exact w130 k41 hk41 (f_R_changed_49 N a0 k41 n) ih x2 x3 x4 x5 ((10 * z3) + z4) z5 r _ _ _ hw (lv_sub hl [3, 4, 5, 6, 7, 8, 1, 0] rfl)
        · refine lv_aload_n hx hb dX12_changed_108 rfl (lv_at hl 3 rfl) ?_
          refine rx_getA E hw on kF_R_53_11 (by decide) dX12_changed_109 ?_
          refine lv_iload hx hb dX12_changed_112 (lv_at hl 1 rfl) ?_
          refine rx_iald E hw on (by decide) dX12_changed_114 (fun v7 => ?_)
          refine lv_iload hx hb dX12_changed_115 (lv_at hl 0 rfl) ?_
          refine cx_icmp_eq (tgt := 130) E dX12_changed_117 (by decide) (fun _ => ?_) (fun _ => ?_)
          · exact w130 k41 hk41 (f_R_changed_49 N a0 k41 n) ih x2 x3 x4 x5 ((10 * z3) + z4) z5 r _ _ _ hw (lv_sub hl [3, 4, 5, 6, 7, 8, 1, 0] rfl)
          · refine lv_iload_n hx hb dX12_changed_120 rfl (lv_at hl 5 rfl) ?_
            refine lv_iconst (v := 1) hx hb dX12_changed_121 (by decide) ?_
            refine lv_iload hx hb dX12_changed_122 (lv_at hl 2 rfl) ?_
            refine lv_ishl hx hb dX12_changed_124 ?_
            refine lv_ior hx hb dX12_changed_125 ?_
            refine lv_istore_n (lv' := [(2, .int (x2 ||| (1 <<< (z3 &&& 31)))), (8, .int z5), (7, .int ((10 * z3) + z4)), (6, .int z3), (0, .ref (g_r G)), (1, .int a0), (3, .int x3), (4, .int x4), (5, .int x5)]) hx hb dX12_changed_126 rfl hl (by decide) rfl (fun ls hl => ?_)
            refine lv_iinc (v := x3 + 1) (lv' := [(3, .int (x3 + 1)), (2, .int (x2 ||| (1 <<< (z3 &&& 31)))), (8, .int z5), (7, .int ((10 * z3) + z4)), (6, .int z3), (0, .ref (g_r G)), (1, .int a0), (4, .int x4), (5, .int x5)]) hx hb dX12_changed_127 hl (k := 6) rfl rfl (by decide) rfl (fun ls hl => ?_)
            exact w130 k41 hk41 (f_R_changed_49 N a0 k41 n) ih (x2 ||| (1 <<< (z3 &&& 31))) (x3 + 1) x4 x5 ((10 * z3) + z4) z5 r _ _ _ hw (lv_sub hl [5, 6, 1, 0, 7, 8, 3, 2] rfl)
  have w41 : ∀ (n : Nat) (x2 : Int32) (x3 : Int32) (x4 : Int32) (r : Rho) (H : Heap) (locs : List Loc) (ls : Array Slot), w_W G M r s H locs → lv_has ls 9 [(0, .ref (g_r G)), (1, .int a0), (2, .int x2), (3, .int x3), (4, .int x4)] → W p l e rm_R_changed s m args below meth c H locs 0 0 (PQ G below args s rm_R_changed.cells rm_R_changed.slots (fun z => (.inl (some (.int z.1)), M, z.2)) (f_R_changed_41 N a0 n x2 x3 x4 r)) (F0 m 41 ls []) := by
    intro n
    induction n with
    | zero => intros; exact W_none
    | succ n ih =>
      intro x2 x3 x4 r H locs ls hw hl
      rw [f_R_changed_41]
      refine lv_iload hx hb dX12_changed_41 (lv_at hl 4 rfl) ?_
      refine cx_if_lt (tgt := 151) E dX12_changed_43 (by decide) (fun _ => ?_) (fun _ => ?_)
      · refine lv_iload_n hx hb dX12_changed_151 rfl (lv_at hl 1 rfl) ?_
        refine cx_if_eq (tgt := 159) E dX12_changed_152 (by decide) (fun _ => ?_) (fun _ => ?_)
        · refine lv_iload_n hx hb dX12_changed_159 rfl (lv_at hl 2 rfl) ?_
          exact p_iret E hw hr (Nat.le_of_ble_eq_true rfl) (Nat.le_of_ble_eq_true rfl) rfl dX12_changed_160
        · refine lv_iload_n hx hb dX12_changed_155 rfl (lv_at hl 3 rfl) ?_
          refine lv_goto (tgt := 160) hx hb dX12_changed_156 (by decide) ?_
          exact p_iret E hw hr (Nat.le_of_ble_eq_true rfl) (Nat.le_of_ble_eq_true rfl) rfl dX12_changed_160
      · refine lv_iconst (v := 0) hx hb dX12_changed_46 (by decide) ?_
        refine lv_istore (lv' := [(5, .int 0), (0, .ref (g_r G)), (1, .int a0), (2, .int x2), (3, .int x3), (4, .int x4)]) hx hb dX12_changed_47 hl (by decide) rfl (fun ls hl => ?_)
        exact w49 (f_R_changed_41 N a0 n) ih N x2 x3 x4 0 r _ _ _ hw (lv_sub hl [1, 2, 3, 4, 5, 0] rfl)
  have w7 : ∀ (n : Nat) (x2 : Int32) (r : Rho) (H : Heap) (locs : List Loc) (ls : Array Slot), w_W G M r s H locs → lv_has ls 9 [(0, .ref (g_r G)), (1, .int a0), (2, .int x2)] → W p l e rm_R_changed s m args below meth c H locs 0 0 (PQ G below args s rm_R_changed.cells rm_R_changed.slots (fun z => (.inl (some (.int z.1)), M, z.2)) (f_R_changed_7 N a0 n x2 r)) (F0 m 7 ls []) := by
    intro n
    induction n with
    | zero => intros; exact W_none
    | succ n ih =>
      intro x2 r H locs ls hw hl
      rw [f_R_changed_7]
      refine lv_iload_n hx hb dX12_changed_7 rfl (lv_at hl 2 rfl) ?_
      refine lv_bipush (v := 100) hx hb dX12_changed_8 (by decide) ?_
      refine cx_icmp_ge (tgt := 26) E dX12_changed_10 (by decide) (fun _ => ?_) (fun _ => ?_)
      · refine lv_iconst (v := 0) hx hb dX12_changed_26 (by decide) ?_
        refine lv_istore_n (lv' := [(2, .int 0), (0, .ref (g_r G)), (1, .int a0)]) hx hb dX12_changed_27 rfl hl (by decide) rfl (fun ls hl => ?_)
        refine lv_iconst (v := 0) hx hb dX12_changed_28 (by decide) ?_
        refine lv_istore_n (lv' := [(3, .int 0), (2, .int 0), (0, .ref (g_r G)), (1, .int a0)]) hx hb dX12_changed_29 rfl hl (by decide) rfl (fun ls hl => ?_)
        refine lv_aload_n hx hb dX12_changed_30 rfl (lv_at hl 2 rfl) ?_
        refine rx_getA E hw on kF_R_7_11 (by decide) dX12_changed_31 ?_
        refine lv_bipush (v := 12) hx hb dX12_changed_34 (by decide) ?_
        refine rx_iald E hw on (by decide) dX12_changed_36 (fun v1 => ?_)
        refine lv_iconst (v := 1) hx hb dX12_changed_37 (by decide) ?_
        refine lv_isub hx hb dX12_changed_38 ?_
        refine lv_istore (lv' := [(4, .int (v1 - 1)), (3, .int 0), (2, .int 0), (0, .ref (g_r G)), (1, .int a0)]) hx hb dX12_changed_39 hl (by decide) rfl (fun ls hl => ?_)
        exact w41  N 0 0 (v1 - 1) r _ _ _ hw (lv_sub hl [3, 4, 2, 1, 0] rfl)
      · refine lv_aload_n hx hb dX12_changed_13 rfl (lv_at hl 0 rfl) ?_
        refine rx_getA E hw on kF_R_53_11 (by decide) dX12_changed_14 ?_
        refine lv_iload_n hx hb dX12_changed_17 rfl (lv_at hl 2 rfl) ?_
        refine lv_iconst (v := (-1)) hx hb dX12_changed_18 (by decide) ?_
        refine rx_iast E hw on (by decide) dX12_changed_19 (fun r2 H locs hw => ?_)
        refine lv_iinc (v := x2 + 1) (lv' := [(2, .int (x2 + 1)), (0, .ref (g_r G)), (1, .int a0)]) hx hb dX12_changed_20 hl (k := 2) rfl rfl (by decide) rfl (fun ls hl => ?_)
        refine lv_goto (tgt := 7) hx hb dX12_changed_23 (by decide) ?_
        exact ih (x2 + 1) r2 _ _ _ hw (lv_sub hl [1, 2, 0] rfl)
  unfold f_R_changed
  refine lv_aload_n hx hb dX12_changed_0 rfl (lv_at hl 0 rfl) ?_
  refine lv_iconst (v := 0) hx hb dX12_changed_1 (by decide) ?_
  refine rx_putI E hw on kF_R_56_11 (by decide) kT_11_0 dX12_changed_2 (fun H locs hw => ?_)
  refine lv_iconst (v := 0) hx hb dX12_changed_5 (by decide) ?_
  refine lv_istore_n (lv' := [(2, .int 0), (0, .ref (g_r G)), (1, .int a0)]) hx hb dX12_changed_6 rfl hl (by decide) rfl (fun ls hl => ?_)
  exact w7  N 0 (r_set r 0 0) _ _ _ hw (lv_sub hl [1, 2, 0] rfl)
set_option maxHeartbeats 4000000 in
set_option maxRecDepth 100000 in
theorem t_R_tries (l : Launch) (hfl : l.stackTraces = false) (G : wG) (on : g_on G = true) (N : Nat) (a0 : Int32) (a1 : Int32) (M : Mem) (r : Rho) : Ctr l yX12_tries (wWs yX12_tries cX12_tries 6 (some .int)) rm_R_tries rm_R_tries.cells rm_R_tries.slots G [.ref (g_r G), .int a0, .int a1] M r ((f_R_tries N a0 a1 r).map (fun z => (.inl (some (.int z.1)), M, z.2))) := by
  refine Ctr.ofF (own := "CheekTownModel") (by decide +kernel) hfl rfl (Nat.le_of_ble_eq_true rfl) (fun p e s m args below meth c E hno hr hnm hw ls hl => ?_)
  obtain ⟨hx, hb, hts, hown, hml, hTT, -⟩ := id E
  have hl : lv_has ls 6 [(0, .ref (g_r G)), (1, .int a0), (2, .int a1)] := hl
  obtain ⟨H, hH⟩ : ∃ H, H = s.heap := ⟨_, rfl⟩
  obtain ⟨locs, hlo⟩ : ∃ L : List Loc, L = [] := ⟨_, rfl⟩
  rw [← hH, ← hlo]
  rw [← hlo] at hw
  replace hw : w_W G M r s H locs := by rw [hH]; exact hw
  have w64 : ∀ (x5 : Int32) (r : Rho) (H : Heap) (locs : List Loc) (ls : Array Slot), w_W G M r s H locs → lv_has ls 6 [(0, .ref (g_r G)), (5, .int x5)] → W p l e rm_R_tries s m args below meth c H locs 0 0 (PQ G below args s rm_R_tries.cells rm_R_tries.slots (fun z => (.inl (some (.int z.1)), M, z.2)) (f_R_tries_64 N a0 a1 x5 r)) (F0 m 64 ls []) := by
    intro x5 r H locs ls hw hl
    unfold f_R_tries_64
    refine lv_aload_n hx hb dX12_tries_64 rfl (lv_at hl 0 rfl) ?_
    refine W_bind fun z7 hz => ?_
    refine w_after (cells1 := 0) (slots1 := 0) (w_runV E kV_R_204 kc_X12_comesBack (t_R_comesBack l hfl G on N M r ((fun z => (.inl none, M, z)) z7) (by rw [hz]; rfl)) ⟨Nat.le_of_ble_eq_true rfl, Nat.le_of_ble_eq_true rfl⟩ hw (w_recvR E hw on) rfl hl.1 rfl (Nat.le_of_ble_eq_true rfl) dX12_tries_65 ⟨Nat.le_of_ble_eq_true rfl, Nat.le_of_ble_eq_true rfl⟩) hw rfl (Nat.le_of_ble_eq_true rfl) (Nat.le_of_ble_eq_true rfl) (fun H locs hw => ?_)
    refine W.eq (g2 := F0 m 68 ls []) rfl ?_
    have hw : w_W G M z7 s H locs := hw
    refine lv_iload hx hb dX12_tries_68 (lv_at hl 1 rfl) ?_
    exact p_iret E hw hr (Nat.le_of_ble_eq_true rfl) (Nat.le_of_ble_eq_true rfl) rfl dX12_tries_70
  have w45 : ∀ (y0 : Int32) (r : Rho) (H : Heap) (locs : List Loc) (ls : Array Slot), w_W G M r s H locs → lv_has ls 6 [(0, .ref (g_r G)), (2, .int a1)] → W p l e rm_R_tries s m args below meth c H locs 0 0 (PQ G below args s rm_R_tries.cells rm_R_tries.slots (fun z => (.inl (some (.int z.1)), M, z.2)) (f_R_tries_45 N a0 a1 y0 r)) (F0 m 45 ls [.int y0]) := by
    intro y0 r H locs ls hw hl
    unfold f_R_tries_45
    refine lv_istore (lv' := [(5, .int y0), (0, .ref (g_r G)), (2, .int a1)]) hx hb dX12_tries_45 hl (by decide) rfl (fun ls hl => ?_)
    refine lv_iload_n hx hb dX12_tries_47 rfl (lv_at hl 2 rfl) ?_
    refine lv_iconst (v := 2) hx hb dX12_tries_48 (by decide) ?_
    refine cx_icmp_ne (tgt := 64) E dX12_tries_49 (by decide) (fun _ => ?_) (fun _ => ?_)
    · exact w64  y0 r _ _ _ hw (lv_sub hl [1, 0] rfl)
    · refine lv_aload_n hx hb dX12_tries_52 rfl (lv_at hl 1 rfl) ?_
      refine lv_iconst (v := 0) hx hb dX12_tries_53 (by decide) ?_
      refine lv_iconst (v := 0) hx hb dX12_tries_54 (by decide) ?_
      refine W_bind fun z5 hz => ?_
      refine w_after (cells1 := 0) (slots1 := 0) (w_runV E kV_R_360 kc_X12_starts (t_R_starts l hfl G on N 0 0 M r ((fun z => (.inl none, M, z)) z5) (by rw [hz]; rfl)) ⟨Nat.le_of_ble_eq_true rfl, Nat.le_of_ble_eq_true rfl⟩ hw (w_recvR E hw on) rfl hl.1 rfl (Nat.le_of_ble_eq_true rfl) dX12_tries_55 ⟨Nat.le_of_ble_eq_true rfl, Nat.le_of_ble_eq_true rfl⟩) hw rfl (Nat.le_of_ble_eq_true rfl) (Nat.le_of_ble_eq_true rfl) (fun H locs hw => ?_)
      refine W.eq (g2 := F0 m 58 ls []) rfl ?_
      have hw : w_W G M z5 s H locs := hw
      refine lv_aload_n hx hb dX12_tries_58 rfl (lv_at hl 1 rfl) ?_
      refine W_bind fun z6 hz => ?_
      refine w_after (cells1 := 0) (slots1 := 0) (w_runV E kV_R_366 kc_X12_counts (t_R_counts l hfl G on N M z5 ((fun z => (.inl (some (.int z.1)), M, z.2)) z6) (by rw [hz]; rfl)) ⟨Nat.le_of_ble_eq_true rfl, Nat.le_of_ble_eq_true rfl⟩ hw (w_recvR E hw on) rfl hl.1 rfl (Nat.le_of_ble_eq_true rfl) dX12_tries_59 ⟨Nat.le_of_ble_eq_true rfl, Nat.le_of_ble_eq_true rfl⟩) hw rfl (Nat.le_of_ble_eq_true rfl) (Nat.le_of_ble_eq_true rfl) (fun H locs hw => ?_)
      refine W.eq (g2 := F0 m 62 ls [.int z6.1]) rfl ?_
      have hw : w_W G M z6.2 s H locs := hw
      refine lv_istore (lv' := [(5, .int z6.1), (0, .ref (g_r G)), (2, .int a1)]) hx hb dX12_tries_62 hl (by decide) rfl (fun ls hl => ?_)
      exact w64  z6.1 z6.2 _ _ _ hw (lv_sub hl [1, 0] rfl)
  unfold f_R_tries
  refine lv_aload_n hx hb dX12_tries_0 rfl (lv_at hl 0 rfl) ?_
  refine rx_getA E hw on kF_R_7_11 (by decide) dX12_tries_1 ?_
  refine lv_bipush (v := 10) hx hb dX12_tries_4 (by decide) ?_
  refine rx_iald E hw on (by decide) dX12_tries_6 (fun v1 => ?_)
  refine lv_istore_n (lv' := [(3, .int v1), (0, .ref (g_r G)), (1, .int a0), (2, .int a1)]) hx hb dX12_tries_7 rfl hl (by decide) rfl (fun ls hl => ?_)
  refine lv_aload_n hx hb dX12_tries_8 rfl (lv_at hl 1 rfl) ?_
  refine lv_iload_n hx hb dX12_tries_9 rfl (lv_at hl 2 rfl) ?_
  refine W_bind fun z2 hz => ?_
  refine w_after (cells1 := 0) (slots1 := 0) (w_runV E kV_R_302 kc_X12_goes (t_R_goes l hfl G on N a0 M r ((fun z => (.inl (some (.int z.1)), M, z.2)) z2) (by rw [hz]; rfl)) ⟨Nat.le_of_ble_eq_true rfl, Nat.le_of_ble_eq_true rfl⟩ hw (w_recvR E hw on) rfl hl.1 rfl (Nat.le_of_ble_eq_true rfl) dX12_tries_10 ⟨Nat.le_of_ble_eq_true rfl, Nat.le_of_ble_eq_true rfl⟩) hw rfl (Nat.le_of_ble_eq_true rfl) (Nat.le_of_ble_eq_true rfl) (fun H locs hw => ?_)
  refine W.eq (g2 := F0 m 13 ls [.int z2.1]) rfl ?_
  have hw : w_W G M z2.2 s H locs := hw
  refine lv_istore (lv' := [(4, .int z2.1), (3, .int v1), (0, .ref (g_r G)), (1, .int a0), (2, .int a1)]) hx hb dX12_tries_13 hl (by decide) rfl (fun ls hl => ?_)
  refine lv_iload_n hx hb dX12_tries_15 rfl (lv_at hl 4 rfl) ?_
  refine cx_if_ne (tgt := 24) E dX12_tries_16 (by decide) (fun _ => ?_) (fun _ => ?_)
  · refine lv_iload_n hx hb dX12_tries_24 rfl (lv_at hl 4 rfl) ?_
    refine lv_iconst (v := 1) hx hb dX12_tries_25 (by decide) ?_
    refine cx_icmp_ne (tgt := 41) E dX12_tries_26 (by decide) (fun _ => ?_) (fun _ => ?_)
    · refine lv_aload_n hx hb dX12_tries_41 rfl (lv_at hl 2 rfl) ?_
      refine W_bind fun z3 hz => ?_
      refine w_after (cells1 := 0) (slots1 := 0) (w_runV E kV_R_372 kc_X12_coldsNow (t_R_coldsNow l hfl G on N M z2.2 ((fun z => (.inl (some (.int z)), M, z2.2)) z3) (by rw [hz]; rfl)) ⟨Nat.le_of_ble_eq_true rfl, Nat.le_of_ble_eq_true rfl⟩ hw (w_recvR E hw on) rfl hl.1 rfl (Nat.le_of_ble_eq_true rfl) dX12_tries_42 ⟨Nat.le_of_ble_eq_true rfl, Nat.le_of_ble_eq_true rfl⟩) hw rfl (Nat.le_of_ble_eq_true rfl) (Nat.le_of_ble_eq_true rfl) (fun H locs hw => ?_)
      refine W.eq (g2 := F0 m 45 ls [.int z3]) rfl ?_
      have hw : w_W G M z2.2 s H locs := hw
      exact w45  z3 z2.2 _ _ _ hw (lv_sub hl [2, 4] rfl)
    · refine lv_aload_n hx hb dX12_tries_29 rfl (lv_at hl 2 rfl) ?_
      refine rx_getA E hw on kF_R_7_11 (by decide) dX12_tries_30 ?_
      refine lv_bipush (v := 10) hx hb dX12_tries_33 (by decide) ?_
      refine rx_iald E hw on (by decide) dX12_tries_35 (fun v4 => ?_)
      refine lv_iload_n hx hb dX12_tries_36 rfl (lv_at hl 1 rfl) ?_
      refine lv_isub hx hb dX12_tries_37 ?_
      refine lv_goto (tgt := 45) hx hb dX12_tries_38 (by decide) ?_
      exact w45  (v4 - v1) z2.2 _ _ _ hw (lv_sub hl [2, 4] rfl)
  · refine lv_iload hx hb dX12_tries_19 (lv_at hl 0 rfl) ?_
    refine lv_goto (tgt := 45) hx hb dX12_tries_21 (by decide) ?_
    exact w45  z2.1 z2.2 _ _ _ hw (lv_sub hl [2, 4] rfl)
set_option maxHeartbeats 4000000 in
set_option maxRecDepth 100000 in
theorem t_R_trial (l : Launch) (hfl : l.stackTraces = false) (G : wG) (on : g_on G = true) (N : Nat) (a0 : Int32) (a1 : Int32) (M : Mem) (r : Rho) : Ctr l yX12_trial (wWs yX12_trial cX12_trial 4 (some .int)) rm_R_trial rm_R_trial.cells rm_R_trial.slots G [.ref (g_r G), .int a0, .int a1] M r ((f_R_trial N a0 a1 r).map (fun z => (.inl (some (.int z.1)), M, z.2))) := by
  refine Ctr.ofF (own := "CheekTownModel") (by decide +kernel) hfl rfl (Nat.le_of_ble_eq_true rfl) (fun p e s m args below meth c E hno hr hnm hw ls hl => ?_)
  obtain ⟨hx, hb, hts, hown, hml, hTT, -⟩ := id E
  have hl : lv_has ls 4 [(0, .ref (g_r G)), (1, .int a0), (2, .int a1)] := hl
  obtain ⟨H, hH⟩ : ∃ H, H = s.heap := ⟨_, rfl⟩
  obtain ⟨locs, hlo⟩ : ∃ L : List Loc, L = [] := ⟨_, rfl⟩
  rw [← hH, ← hlo]
  rw [← hlo] at hw
  replace hw : w_W G M r s H locs := by rw [hH]; exact hw
  have w43 : ∀ (n : Nat) (x3 : Int32) (r : Rho) (H : Heap) (locs : List Loc) (ls : Array Slot), w_W G M r s H locs → lv_has ls 4 [(0, .ref (g_r G)), (1, .int a0), (2, .int a1), (3, .int x3)] → W p l e rm_R_trial s m args below meth c H locs 0 0 (PQ G below args s rm_R_trial.cells rm_R_trial.slots (fun z => (.inl (some (.int z.1)), M, z.2)) (f_R_trial_43 N a0 a1 n x3 r)) (F0 m 43 ls []) := by
    intro n
    induction n with
    | zero => intros; exact W_none
    | succ n ih =>
      intro x3 r H locs ls hw hl
      rw [f_R_trial_43]
      refine lv_iload_n hx hb dX12_trial_43 rfl (lv_at hl 3 rfl) ?_
      refine lv_sipush (v := 900) hx hb dX12_trial_44 (by decide) ?_
      refine cx_icmp_ge (tgt := 68) E dX12_trial_47 (by decide) (fun _ => ?_) (fun _ => ?_)
      · refine lv_aload_n hx hb dX12_trial_68 rfl (lv_at hl 0 rfl) ?_
        refine lv_iload_n hx hb dX12_trial_69 rfl (lv_at hl 1 rfl) ?_
        refine lv_iload_n hx hb dX12_trial_70 rfl (lv_at hl 2 rfl) ?_
        refine W_bind fun z3 hz => ?_
        refine w_after (cells1 := 0) (slots1 := 0) (w_runV E kV_R_381 kc_X12_tries (t_R_tries l hfl G on N a0 a1 M r ((fun z => (.inl (some (.int z.1)), M, z.2)) z3) (by rw [hz]; rfl)) ⟨Nat.le_of_ble_eq_true rfl, Nat.le_of_ble_eq_true rfl⟩ hw (w_recvR E hw on) rfl hl.1 rfl (Nat.le_of_ble_eq_true rfl) dX12_trial_71 ⟨Nat.le_of_ble_eq_true rfl, Nat.le_of_ble_eq_true rfl⟩) hw rfl (Nat.le_of_ble_eq_true rfl) (Nat.le_of_ble_eq_true rfl) (fun H locs hw => ?_)
        refine W.eq (g2 := F0 m 74 ls [.int z3.1]) rfl ?_
        have hw : w_W G M z3.2 s H locs := hw
        exact p_iret E hw hr (Nat.le_of_ble_eq_true rfl) (Nat.le_of_ble_eq_true rfl) rfl dX12_trial_74
      · refine lv_aload_n hx hb dX12_trial_50 rfl (lv_at hl 0 rfl) ?_
        refine rx_getA E hw on kF_R_16_11 (by decide) dX12_trial_51 ?_
        refine lv_iload_n hx hb dX12_trial_54 rfl (lv_at hl 3 rfl) ?_
        refine lv_aload_n hx hb dX12_trial_55 rfl (lv_at hl 0 rfl) ?_
        refine rx_getA E hw on kF_R_7_11 (by decide) dX12_trial_56 ?_
        refine lv_iload_n hx hb dX12_trial_59 rfl (lv_at hl 3 rfl) ?_
        refine rx_iald E hw on (by decide) dX12_trial_60 (fun v4 => ?_)
        refine rx_iast E hw on (by decide) dX12_trial_61 (fun r5 H locs hw => ?_)
        refine lv_iinc (v := x3 + 1) (lv' := [(3, .int (x3 + 1)), (0, .ref (g_r G)), (1, .int a0), (2, .int a1)]) hx hb dX12_trial_62 hl (k := 3) rfl rfl (by decide) rfl (fun ls hl => ?_)
        refine lv_goto (tgt := 43) hx hb dX12_trial_65 (by decide) ?_
        exact ih (x3 + 1) r5 _ _ _ hw (lv_sub hl [1, 2, 3, 0] rfl)
  have w29 : ∀ (y1 : Int32) (r : Rho) (H : Heap) (locs : List Loc) (ls : Array Slot), w_W G M r s H locs → lv_has ls 4 [(0, .ref (g_r G)), (1, .int a0), (2, .int a1)] → W p l e rm_R_trial s m args below meth c H locs 0 0 (PQ G below args s rm_R_trial.cells rm_R_trial.slots (fun z => (.inl (some (.int z.1)), M, z.2)) (f_R_trial_29 N a0 a1 y1 r)) (F0 m 29 ls [.int y1, .ref (g_r G)]) := by
    intro y1 r H locs ls hw hl
    unfold f_R_trial_29
    refine rx_putI E hw on kF_R_56_11 (by decide) kT_11_0 dX12_trial_29 (fun H locs hw => ?_)
    refine lv_aload_n hx hb dX12_trial_32 rfl (lv_at hl 0 rfl) ?_
    refine rx_getI E hw on kF_R_56_11 (by decide) dX12_trial_33 ?_
    refine cx_if_le (tgt := 41) E dX12_trial_36 (by decide) (fun _ => ?_) (fun _ => ?_)
    · refine lv_iconst (v := 0) hx hb dX12_trial_41 (by decide) ?_
      refine lv_istore_n (lv' := [(3, .int 0), (0, .ref (g_r G)), (1, .int a0), (2, .int a1)]) hx hb dX12_trial_42 rfl hl (by decide) rfl (fun ls hl => ?_)
      exact w43  N 0 (r_set r 0 y1) _ _ _ hw (lv_sub hl [1, 2, 3, 0] rfl)
    · refine lv_iconst (v := 0) hx hb dX12_trial_39 (by decide) ?_
      exact p_iret E hw hr (Nat.le_of_ble_eq_true rfl) (Nat.le_of_ble_eq_true rfl) rfl dX12_trial_40
  unfold f_R_trial
  refine lv_aload_n hx hb dX12_trial_0 rfl (lv_at hl 0 rfl) ?_
  refine lv_iload_n hx hb dX12_trial_1 rfl (lv_at hl 1 rfl) ?_
  refine lv_iconst (v := 0) hx hb dX12_trial_2 (by decide) ?_
  refine lv_bipush (v := 20) hx hb dX12_trial_3 (by decide) ?_
  refine W_bind fun z1 hz => ?_
  refine w_after (cells1 := 0) (slots1 := 0) (w_runS E kS_R_59 kc_X12_isIn (t_R_isIn l hfl G a0 0 20 M r ((fun z => (.inl (some (.int z)), M, r)) z1) (by rw [hz]; rfl)) ⟨Nat.le_of_ble_eq_true rfl, Nat.le_of_ble_eq_true rfl⟩ hw rfl hl.1 rfl (Nat.le_of_ble_eq_true rfl) dX12_trial_5 ⟨Nat.le_of_ble_eq_true rfl, Nat.le_of_ble_eq_true rfl⟩) hw rfl (Nat.le_of_ble_eq_true rfl) (Nat.le_of_ble_eq_true rfl) (fun H locs hw => ?_)
  refine W.eq (g2 := F0 m 8 ls [.int z1, .ref (g_r G)]) rfl ?_
  have hw : w_W G M r s H locs := hw
  refine cx_if_ne (tgt := 15) E dX12_trial_8 (by decide) (fun _ => ?_) (fun _ => ?_)
  · refine lv_iload_n hx hb dX12_trial_15 rfl (lv_at hl 2 rfl) ?_
    refine lv_iconst (v := 0) hx hb dX12_trial_16 (by decide) ?_
    refine lv_iconst (v := 3) hx hb dX12_trial_17 (by decide) ?_
    refine W_bind fun z2 hz => ?_
    refine w_after (cells1 := 0) (slots1 := 0) (w_runS E kS_R_59 kc_X12_isIn (t_R_isIn l hfl G a1 0 3 M r ((fun z => (.inl (some (.int z)), M, r)) z2) (by rw [hz]; rfl)) ⟨Nat.le_of_ble_eq_true rfl, Nat.le_of_ble_eq_true rfl⟩ hw rfl hl.1 rfl (Nat.le_of_ble_eq_true rfl) dX12_trial_18 ⟨Nat.le_of_ble_eq_true rfl, Nat.le_of_ble_eq_true rfl⟩) hw rfl (Nat.le_of_ble_eq_true rfl) (Nat.le_of_ble_eq_true rfl) (fun H locs hw => ?_)
    refine W.eq (g2 := F0 m 21 ls [.int z2, .ref (g_r G)]) rfl ?_
    have hw : w_W G M r s H locs := hw
    refine cx_if_ne (tgt := 28) E dX12_trial_21 (by decide) (fun _ => ?_) (fun _ => ?_)
    · refine lv_iconst (v := 0) hx hb dX12_trial_28 (by decide) ?_
      exact w29  0 r _ _ _ hw (lv_sub hl [0, 1, 2] rfl)
    · refine lv_iconst (v := 2) hx hb dX12_trial_24 (by decide) ?_
      refine lv_goto (tgt := 29) hx hb dX12_trial_25 (by decide) ?_
      exact w29  2 r _ _ _ hw (lv_sub hl [0, 1, 2] rfl)
  · refine lv_iconst (v := 1) hx hb dX12_trial_11 (by decide) ?_
    refine lv_goto (tgt := 29) hx hb dX12_trial_12 (by decide) ?_
    exact w29  1 r _ _ _ hw (lv_sub hl [0, 1, 2] rfl)
set_option maxHeartbeats 4000000 in
set_option maxRecDepth 100000 in
theorem t_R_span (l : Launch) (hfl : l.stackTraces = false) (G : wG) (on : g_on G = true) (N : Nat) (a0 : Int32) (a1 : Int32) (M : Mem) (r : Rho) : Ctr l yX12_span (wWs yX12_span cX12_span 6 (some .int)) rm_R_span rm_R_span.cells rm_R_span.slots G [.ref (g_r G), .int a0, .int a1] M r ((f_R_span N a0 a1 r).map (fun z => (.inl (some (.int z.1)), M, z.2))) := by
  refine Ctr.ofF (own := "CheekTownModel") (by decide +kernel) hfl rfl (Nat.le_of_ble_eq_true rfl) (fun p e s m args below meth c E hno hr hnm hw ls hl => ?_)
  obtain ⟨hx, hb, hts, hown, hml, hTT, -⟩ := id E
  have hl : lv_has ls 6 [(0, .ref (g_r G)), (1, .int a0), (2, .int a1)] := hl
  obtain ⟨H, hH⟩ : ∃ H, H = s.heap := ⟨_, rfl⟩
  obtain ⟨locs, hlo⟩ : ∃ L : List Loc, L = [] := ⟨_, rfl⟩
  rw [← hH, ← hlo]
  rw [← hlo] at hw
  replace hw : w_W G M r s H locs := by rw [hH]; exact hw
  have w113 : ∀ (k60 : Int32 → Int32 → Rho → Option (Int32 × Rho)) (hk60 : ∀ (x3 : Int32) (x4 : Int32) (r : Rho) (H : Heap) (locs : List Loc) (ls : Array Slot), w_W G M r s H locs → lv_has ls 6 [(0, .ref (g_r G)), (1, .int a0), (2, .int a1), (3, .int x3), (4, .int x4)] → W p l e rm_R_span s m args below meth c H locs 0 0 (PQ G below args s rm_R_span.cells rm_R_span.slots (fun z => (.inl (some (.int z.1)), M, z.2)) (k60 x3 x4 r)) (F0 m 60 ls [])) (x4 : Int32) (y0 : Int32) (r : Rho) (H : Heap) (locs : List Loc) (ls : Array Slot), w_W G M r s H locs → lv_has ls 6 [(0, .ref (g_r G)), (1, .int a0), (2, .int a1), (4, .int x4)] → W p l e rm_R_span s m args below meth c H locs 0 0 (PQ G below args s rm_R_span.cells rm_R_span.slots (fun z => (.inl (some (.int z.1)), M, z.2)) (f_R_span_113 N a0 a1 k60 x4 y0 r)) (F0 m 113 ls [.int y0]) := by
    intro k60 hk60 x4 y0 r H locs ls hw hl
    unfold f_R_span_113
    refine lv_istore_n (lv' := [(3, .int y0), (0, .ref (g_r G)), (1, .int a0), (2, .int a1), (4, .int x4)]) hx hb dX12_span_113 rfl hl (by decide) rfl (fun ls hl => ?_)
    refine lv_iinc (v := x4 + 1) (lv' := [(4, .int (x4 + 1)), (3, .int y0), (0, .ref (g_r G)), (1, .int a0), (2, .int a1)]) hx hb dX12_span_114 hl (k := 4) rfl rfl (by decide) rfl (fun ls hl => ?_)
    refine lv_goto (tgt := 60) hx hb dX12_span_117 (by decide) ?_
    exact hk60 y0 (x4 + 1) r _ _ _ hw (lv_sub hl [2, 3, 4, 1, 0] rfl)
  have w60 : ∀ (n : Nat) (x3 : Int32) (x4 : Int32) (r : Rho) (H : Heap) (locs : List Loc) (ls : Array Slot), w_W G M r s H locs → lv_has ls 6 [(0, .ref (g_r G)), (1, .int a0), (2, .int a1), (3, .int x3), (4, .int x4)] → W p l e rm_R_span s m args below meth c H locs 0 0 (PQ G below args s rm_R_span.cells rm_R_span.slots (fun z => (.inl (some (.int z.1)), M, z.2)) (f_R_span_60 N a0 a1 n x3 x4 r)) (F0 m 60 ls []) := by
    intro n
    induction n with
    | zero => intros; exact W_none
    | succ n ih =>
      intro x3 x4 r H locs ls hw hl
      rw [f_R_span_60]
      refine lv_iload hx hb dX12_span_60 (lv_at hl 4 rfl) ?_
      refine lv_bipush (v := 6) hx hb dX12_span_62 (by decide) ?_
      refine cx_icmp_gt (tgt := 120) E dX12_span_64 (by decide) (fun _ => ?_) (fun _ => ?_)
      · refine lv_iload_n hx hb dX12_span_120 rfl (lv_at hl 3 rfl) ?_
        exact p_iret E hw hr (Nat.le_of_ble_eq_true rfl) (Nat.le_of_ble_eq_true rfl) rfl dX12_span_121
      · refine lv_aload_n hx hb dX12_span_67 rfl (lv_at hl 0 rfl) ?_
        refine rx_getA E hw on kF_R_7_11 (by decide) dX12_span_68 ?_
        refine lv_bipush (v := 16) hx hb dX12_span_71 (by decide) ?_
        refine lv_iload hx hb dX12_span_73 (lv_at hl 4 rfl) ?_
        refine rx_iast E hw on (by decide) dX12_span_75 (fun r4 H locs hw => ?_)
        refine lv_aload_n hx hb dX12_span_76 rfl (lv_at hl 0 rfl) ?_
        refine lv_iload_n hx hb dX12_span_77 rfl (lv_at hl 1 rfl) ?_
        refine lv_iconst (v := 0) hx hb dX12_span_78 (by decide) ?_
        refine W_bind fun z5 hz => ?_
        refine w_after (cells1 := 0) (slots1 := 0) (w_runV E kV_R_381 kc_X12_tries (t_R_tries l hfl G on N a0 0 M r4 ((fun z => (.inl (some (.int z.1)), M, z.2)) z5) (by rw [hz]; rfl)) ⟨Nat.le_of_ble_eq_true rfl, Nat.le_of_ble_eq_true rfl⟩ hw (w_recvR E hw on) rfl hl.1 rfl (Nat.le_of_ble_eq_true rfl) dX12_span_79 ⟨Nat.le_of_ble_eq_true rfl, Nat.le_of_ble_eq_true rfl⟩) hw rfl (Nat.le_of_ble_eq_true rfl) (Nat.le_of_ble_eq_true rfl) (fun H locs hw => ?_)
        refine W.eq (g2 := F0 m 82 ls [.int z5.1]) rfl ?_
        have hw : w_W G M z5.2 s H locs := hw
        refine lv_istore (lv' := [(5, .int z5.1), (0, .ref (g_r G)), (1, .int a0), (2, .int a1), (3, .int x3), (4, .int x4)]) hx hb dX12_span_82 hl (by decide) rfl (fun ls hl => ?_)
        refine lv_iload_n hx hb dX12_span_84 rfl (lv_at hl 4 rfl) ?_
        refine lv_iconst (v := (-1)) hx hb dX12_span_85 (by decide) ?_
        refine cx_icmp_ne (tgt := 94) E dX12_span_86 (by decide) (fun _ => ?_) (fun _ => ?_)
        · refine lv_iload_n hx hb dX12_span_94 rfl (lv_at hl 3 rfl) ?_
          refine cx_if_eq (tgt := 107) E dX12_span_95 (by decide) (fun _ => ?_) (fun _ => ?_)
          · refine lv_iload_n hx hb dX12_span_107 rfl (lv_at hl 4 rfl) ?_
            refine lv_iload hx hb dX12_span_108 (lv_at hl 0 rfl) ?_
            refine W_bind fun z6 hz => ?_
            refine w_after (cells1 := 0) (slots1 := 0) (w_runS E kS_R_284 kc_X12_lesser (t_R_lesser l hfl G x3 z5.1 M z5.2 ((fun z => (.inl (some (.int z)), M, z5.2)) z6) (by rw [hz]; rfl)) ⟨Nat.le_of_ble_eq_true rfl, Nat.le_of_ble_eq_true rfl⟩ hw rfl hl.1 rfl (Nat.le_of_ble_eq_true rfl) dX12_span_110 ⟨Nat.le_of_ble_eq_true rfl, Nat.le_of_ble_eq_true rfl⟩) hw rfl (Nat.le_of_ble_eq_true rfl) (Nat.le_of_ble_eq_true rfl) (fun H locs hw => ?_)
            refine W.eq (g2 := F0 m 113 ls [.int z6]) rfl ?_
            have hw : w_W G M z5.2 s H locs := hw
            exact w113 (f_R_span_60 N a0 a1 n) ih x4 z6 z5.2 _ _ _ hw (lv_sub hl [1, 2, 3, 5] rfl)
          · refine lv_iload_n hx hb dX12_span_98 rfl (lv_at hl 4 rfl) ?_
            refine lv_iload hx hb dX12_span_99 (lv_at hl 0 rfl) ?_
            refine W_bind fun z7 hz => ?_
            refine w_after (cells1 := 0) (slots1 := 0) (w_runS E kS_R_287 kc_X12_greater (t_R_greater l hfl G x3 z5.1 M z5.2 ((fun z => (.inl (some (.int z)), M, z5.2)) z7) (by rw [hz]; rfl)) ⟨Nat.le_of_ble_eq_true rfl, Nat.le_of_ble_eq_true rfl⟩ hw rfl hl.1 rfl (Nat.le_of_ble_eq_true rfl) dX12_span_101 ⟨Nat.le_of_ble_eq_true rfl, Nat.le_of_ble_eq_true rfl⟩) hw rfl (Nat.le_of_ble_eq_true rfl) (Nat.le_of_ble_eq_true rfl) (fun H locs hw => ?_)
            refine W.eq (g2 := F0 m 104 ls [.int z7]) rfl ?_
            have hw : w_W G M z5.2 s H locs := hw
            refine lv_goto (tgt := 113) hx hb dX12_span_104 (by decide) ?_
            exact w113 (f_R_span_60 N a0 a1 n) ih x4 z7 z5.2 _ _ _ hw (lv_sub hl [1, 2, 3, 5] rfl)
        · refine lv_iload hx hb dX12_span_89 (lv_at hl 0 rfl) ?_
          refine lv_goto (tgt := 113) hx hb dX12_span_91 (by decide) ?_
          exact w113 (f_R_span_60 N a0 a1 n) ih x4 z5.1 z5.2 _ _ _ hw (lv_sub hl [1, 2, 3, 5] rfl)
  have w30 : ∀ (n : Nat) (x3 : Int32) (r : Rho) (H : Heap) (locs : List Loc) (ls : Array Slot), w_W G M r s H locs → lv_has ls 6 [(0, .ref (g_r G)), (1, .int a0), (2, .int a1), (3, .int x3)] → W p l e rm_R_span s m args below meth c H locs 0 0 (PQ G below args s rm_R_span.cells rm_R_span.slots (fun z => (.inl (some (.int z.1)), M, z.2)) (f_R_span_30 N a0 a1 n x3 r)) (F0 m 30 ls []) := by
    intro n
    induction n with
    | zero => intros; exact W_none
    | succ n ih =>
      intro x3 r H locs ls hw hl
      rw [f_R_span_30]
      refine lv_iload_n hx hb dX12_span_30 rfl (lv_at hl 3 rfl) ?_
      refine lv_sipush (v := 900) hx hb dX12_span_31 (by decide) ?_
      refine cx_icmp_ge (tgt := 55) E dX12_span_34 (by decide) (fun _ => ?_) (fun _ => ?_)
      · refine lv_iconst (v := (-1)) hx hb dX12_span_55 (by decide) ?_
        refine lv_istore_n (lv' := [(3, .int (-1)), (0, .ref (g_r G)), (1, .int a0), (2, .int a1)]) hx hb dX12_span_56 rfl hl (by decide) rfl (fun ls hl => ?_)
        refine lv_iconst (v := 1) hx hb dX12_span_57 (by decide) ?_
        refine lv_istore (lv' := [(4, .int 1), (3, .int (-1)), (0, .ref (g_r G)), (1, .int a0), (2, .int a1)]) hx hb dX12_span_58 hl (by decide) rfl (fun ls hl => ?_)
        exact w60  N (-1) 1 r _ _ _ hw (lv_sub hl [2, 3, 4, 1, 0] rfl)
      · refine lv_aload_n hx hb dX12_span_37 rfl (lv_at hl 0 rfl) ?_
        refine rx_getA E hw on kF_R_16_11 (by decide) dX12_span_38 ?_
        refine lv_iload_n hx hb dX12_span_41 rfl (lv_at hl 3 rfl) ?_
        refine lv_aload_n hx hb dX12_span_42 rfl (lv_at hl 0 rfl) ?_
        refine rx_getA E hw on kF_R_7_11 (by decide) dX12_span_43 ?_
        refine lv_iload_n hx hb dX12_span_46 rfl (lv_at hl 3 rfl) ?_
        refine rx_iald E hw on (by decide) dX12_span_47 (fun v2 => ?_)
        refine rx_iast E hw on (by decide) dX12_span_48 (fun r3 H locs hw => ?_)
        refine lv_iinc (v := x3 + 1) (lv' := [(3, .int (x3 + 1)), (0, .ref (g_r G)), (1, .int a0), (2, .int a1)]) hx hb dX12_span_49 hl (k := 3) rfl rfl (by decide) rfl (fun ls hl => ?_)
        refine lv_goto (tgt := 30) hx hb dX12_span_52 (by decide) ?_
        exact ih (x3 + 1) r3 _ _ _ hw (lv_sub hl [1, 2, 3, 0] rfl)
  have w16 : ∀ (y1 : Int32) (r : Rho) (H : Heap) (locs : List Loc) (ls : Array Slot), w_W G M r s H locs → lv_has ls 6 [(0, .ref (g_r G)), (1, .int a0), (2, .int a1)] → W p l e rm_R_span s m args below meth c H locs 0 0 (PQ G below args s rm_R_span.cells rm_R_span.slots (fun z => (.inl (some (.int z.1)), M, z.2)) (f_R_span_16 N a0 a1 y1 r)) (F0 m 16 ls [.int y1, .ref (g_r G)]) := by
    intro y1 r H locs ls hw hl
    unfold f_R_span_16
    refine rx_putI E hw on kF_R_56_11 (by decide) kT_11_0 dX12_span_16 (fun H locs hw => ?_)
    refine lv_aload_n hx hb dX12_span_19 rfl (lv_at hl 0 rfl) ?_
    refine rx_getI E hw on kF_R_56_11 (by decide) dX12_span_20 ?_
    refine cx_if_le (tgt := 28) E dX12_span_23 (by decide) (fun _ => ?_) (fun _ => ?_)
    · refine lv_iconst (v := 0) hx hb dX12_span_28 (by decide) ?_
      refine lv_istore_n (lv' := [(3, .int 0), (0, .ref (g_r G)), (1, .int a0), (2, .int a1)]) hx hb dX12_span_29 rfl hl (by decide) rfl (fun ls hl => ?_)
      exact w30  N 0 (r_set r 0 y1) _ _ _ hw (lv_sub hl [1, 2, 3, 0] rfl)
    · refine lv_iconst (v := 0) hx hb dX12_span_26 (by decide) ?_
      exact p_iret E hw hr (Nat.le_of_ble_eq_true rfl) (Nat.le_of_ble_eq_true rfl) rfl dX12_span_27
  unfold f_R_span
  refine lv_aload_n hx hb dX12_span_0 rfl (lv_at hl 0 rfl) ?_
  refine lv_iload_n hx hb dX12_span_1 rfl (lv_at hl 1 rfl) ?_
  refine lv_iconst (v := 0) hx hb dX12_span_2 (by decide) ?_
  refine lv_bipush (v := 20) hx hb dX12_span_3 (by decide) ?_
  refine W_bind fun z1 hz => ?_
  refine w_after (cells1 := 0) (slots1 := 0) (w_runS E kS_R_59 kc_X12_isIn (t_R_isIn l hfl G a0 0 20 M r ((fun z => (.inl (some (.int z)), M, r)) z1) (by rw [hz]; rfl)) ⟨Nat.le_of_ble_eq_true rfl, Nat.le_of_ble_eq_true rfl⟩ hw rfl hl.1 rfl (Nat.le_of_ble_eq_true rfl) dX12_span_5 ⟨Nat.le_of_ble_eq_true rfl, Nat.le_of_ble_eq_true rfl⟩) hw rfl (Nat.le_of_ble_eq_true rfl) (Nat.le_of_ble_eq_true rfl) (fun H locs hw => ?_)
  refine W.eq (g2 := F0 m 8 ls [.int z1, .ref (g_r G)]) rfl ?_
  have hw : w_W G M r s H locs := hw
  refine cx_if_ne (tgt := 15) E dX12_span_8 (by decide) (fun _ => ?_) (fun _ => ?_)
  · refine lv_iconst (v := 0) hx hb dX12_span_15 (by decide) ?_
    exact w16  0 r _ _ _ hw (lv_sub hl [0, 1, 2] rfl)
  · refine lv_iconst (v := 1) hx hb dX12_span_11 (by decide) ?_
    refine lv_goto (tgt := 16) hx hb dX12_span_12 (by decide) ?_
    exact w16  1 r _ _ _ hw (lv_sub hl [0, 1, 2] rfl)
set_option maxHeartbeats 4000000 in
set_option maxRecDepth 100000 in
theorem t_R_log (l : Launch) (hfl : l.stackTraces = false) (G : wG) (on : g_on G = true) (a0 : Int32) (a1 : Int32) (M : Mem) (r : Rho) : Ctr l yX12_log (wWs yX12_log cX12_log 3 (some .int)) rm_R_log rm_R_log.cells rm_R_log.slots G [.ref (g_r G), .int a0, .int a1] M r ((f_R_log a0 a1 r).map (fun z => (.inl (some (.int z.1)), M, z.2))) := by
  refine Ctr.ofF (own := "CheekTownModel") (by decide +kernel) hfl rfl (Nat.le_of_ble_eq_true rfl) (fun p e s m args below meth c E hno hr hnm hw ls hl => ?_)
  obtain ⟨hx, hb, hts, hown, hml, hTT, -⟩ := id E
  have hl : lv_has ls 3 [(0, .ref (g_r G)), (1, .int a0), (2, .int a1)] := hl
  obtain ⟨H, hH⟩ : ∃ H, H = s.heap := ⟨_, rfl⟩
  obtain ⟨locs, hlo⟩ : ∃ L : List Loc, L = [] := ⟨_, rfl⟩
  rw [← hH, ← hlo]
  rw [← hlo] at hw
  replace hw : w_W G M r s H locs := by rw [hH]; exact hw
  have w16 : ∀ (y1 : Int32) (r : Rho) (H : Heap) (locs : List Loc) (ls : Array Slot), w_W G M r s H locs → lv_has ls 3 [(0, .ref (g_r G)), (1, .int a0), (2, .int a1)] → W p l e rm_R_log s m args below meth c H locs 0 0 (PQ G below args s rm_R_log.cells rm_R_log.slots (fun z => (.inl (some (.int z.1)), M, z.2)) (f_R_log_16 a0 a1 y1 r)) (F0 m 16 ls [.int y1, .ref (g_r G)]) := by
    intro y1 r H locs ls hw hl
    unfold f_R_log_16
    refine rx_putI E hw on kF_R_56_11 (by decide) kT_11_0 dX12_log_16 (fun H locs hw => ?_)
    refine lv_aload_n hx hb dX12_log_19 rfl (lv_at hl 0 rfl) ?_
    refine rx_getI E hw on kF_R_56_11 (by decide) dX12_log_20 ?_
    refine cx_if_le (tgt := 28) E dX12_log_23 (by decide) (fun _ => ?_) (fun _ => ?_)
    · refine lv_iload_n hx hb dX12_log_28 rfl (lv_at hl 1 rfl) ?_
      refine lv_iconst (v := 0) hx hb dX12_log_29 (by decide) ?_
      refine lv_aload_n hx hb dX12_log_30 rfl (lv_at hl 0 rfl) ?_
      refine rx_getA E hw on kF_R_7_11 (by decide) dX12_log_31 ?_
      refine lv_bipush (v := 12) hx hb dX12_log_34 (by decide) ?_
      refine rx_iald E hw on (by decide) dX12_log_36 (fun v2 => ?_)
      refine lv_iconst (v := 1) hx hb dX12_log_37 (by decide) ?_
      refine lv_isub hx hb dX12_log_38 ?_
      refine W_bind fun z3 hz => ?_
      refine w_after (cells1 := 0) (slots1 := 0) (w_runS E kS_R_59 kc_X12_isIn (t_R_isIn l hfl G a0 0 (v2 - 1) M (r_set r 0 y1) ((fun z => (.inl (some (.int z)), M, (r_set r 0 y1))) z3) (by rw [hz]; rfl)) ⟨Nat.le_of_ble_eq_true rfl, Nat.le_of_ble_eq_true rfl⟩ hw rfl hl.1 rfl (Nat.le_of_ble_eq_true rfl) dX12_log_39 ⟨Nat.le_of_ble_eq_true rfl, Nat.le_of_ble_eq_true rfl⟩) hw rfl (Nat.le_of_ble_eq_true rfl) (Nat.le_of_ble_eq_true rfl) (fun H locs hw => ?_)
      refine W.eq (g2 := F0 m 42 ls [.int z3]) rfl ?_
      have hw : w_W G M (r_set r 0 y1) s H locs := hw
      refine cx_if_eq (tgt := 54) E dX12_log_42 (by decide) (fun _ => ?_) (fun _ => ?_)
      · refine lv_iconst (v := (-1)) hx hb dX12_log_54 (by decide) ?_
        exact p_iret E hw hr (Nat.le_of_ble_eq_true rfl) (Nat.le_of_ble_eq_true rfl) rfl dX12_log_55
      · refine lv_aload_n hx hb dX12_log_45 rfl (lv_at hl 0 rfl) ?_
        refine lv_iload_n hx hb dX12_log_46 rfl (lv_at hl 1 rfl) ?_
        refine lv_iload_n hx hb dX12_log_47 rfl (lv_at hl 2 rfl) ?_
        refine W_bind fun z4 hz => ?_
        refine w_after (cells1 := 0) (slots1 := 0) (w_runV E kV_R_378 kc_X12_logged (t_R_logged l hfl G on a0 a1 M (r_set r 0 y1) ((fun z => (.inl (some (.int z)), M, (r_set r 0 y1))) z4) (by rw [hz]; rfl)) ⟨Nat.le_of_ble_eq_true rfl, Nat.le_of_ble_eq_true rfl⟩ hw (w_recvR E hw on) rfl hl.1 rfl (Nat.le_of_ble_eq_true rfl) dX12_log_48 ⟨Nat.le_of_ble_eq_true rfl, Nat.le_of_ble_eq_true rfl⟩) hw rfl (Nat.le_of_ble_eq_true rfl) (Nat.le_of_ble_eq_true rfl) (fun H locs hw => ?_)
        refine W.eq (g2 := F0 m 51 ls [.int z4]) rfl ?_
        have hw : w_W G M (r_set r 0 y1) s H locs := hw
        refine lv_goto (tgt := 55) hx hb dX12_log_51 (by decide) ?_
        exact p_iret E hw hr (Nat.le_of_ble_eq_true rfl) (Nat.le_of_ble_eq_true rfl) rfl dX12_log_55
    · refine lv_iconst (v := 0) hx hb dX12_log_26 (by decide) ?_
      exact p_iret E hw hr (Nat.le_of_ble_eq_true rfl) (Nat.le_of_ble_eq_true rfl) rfl dX12_log_27
  unfold f_R_log
  refine lv_aload_n hx hb dX12_log_0 rfl (lv_at hl 0 rfl) ?_
  refine lv_iload_n hx hb dX12_log_1 rfl (lv_at hl 2 rfl) ?_
  refine lv_iconst (v := 0) hx hb dX12_log_2 (by decide) ?_
  refine lv_bipush (v := 7) hx hb dX12_log_3 (by decide) ?_
  refine W_bind fun z1 hz => ?_
  refine w_after (cells1 := 0) (slots1 := 0) (w_runS E kS_R_59 kc_X12_isIn (t_R_isIn l hfl G a1 0 7 M r ((fun z => (.inl (some (.int z)), M, r)) z1) (by rw [hz]; rfl)) ⟨Nat.le_of_ble_eq_true rfl, Nat.le_of_ble_eq_true rfl⟩ hw rfl hl.1 rfl (Nat.le_of_ble_eq_true rfl) dX12_log_5 ⟨Nat.le_of_ble_eq_true rfl, Nat.le_of_ble_eq_true rfl⟩) hw rfl (Nat.le_of_ble_eq_true rfl) (Nat.le_of_ble_eq_true rfl) (fun H locs hw => ?_)
  refine W.eq (g2 := F0 m 8 ls [.int z1, .ref (g_r G)]) rfl ?_
  have hw : w_W G M r s H locs := hw
  refine cx_if_ne (tgt := 15) E dX12_log_8 (by decide) (fun _ => ?_) (fun _ => ?_)
  · refine lv_iconst (v := 0) hx hb dX12_log_15 (by decide) ?_
    exact w16  0 r _ _ _ hw (lv_sub hl [0, 1, 2] rfl)
  · refine lv_iconst (v := 1) hx hb dX12_log_11 (by decide) ?_
    refine lv_goto (tgt := 16) hx hb dX12_log_12 (by decide) ?_
    exact w16  1 r _ _ _ hw (lv_sub hl [0, 1, 2] rfl)
set_option maxHeartbeats 4000000 in
set_option maxRecDepth 100000 in
theorem t_R_seed (l : Launch) (hfl : l.stackTraces = false) (G : wG) (on : g_on G = true) (a0 : Int32) (M : Mem) (r : Rho) : Ctr l yX12_seed (wWs yX12_seed cX12_seed 3 (some .int)) rm_R_seed rm_R_seed.cells rm_R_seed.slots G [.ref (g_r G), .int a0] M r ((f_R_seed a0 r).map (fun z => (.inl (some (.int z.1)), M, z.2))) := by
  refine Ctr.ofF (own := "CheekTownModel") (by decide +kernel) hfl rfl (Nat.le_of_ble_eq_true rfl) (fun p e s m args below meth c E hno hr hnm hw ls hl => ?_)
  obtain ⟨hx, hb, hts, hown, hml, hTT, -⟩ := id E
  have hl : lv_has ls 3 [(0, .ref (g_r G)), (1, .int a0)] := hl
  obtain ⟨H, hH⟩ : ∃ H, H = s.heap := ⟨_, rfl⟩
  obtain ⟨locs, hlo⟩ : ∃ L : List Loc, L = [] := ⟨_, rfl⟩
  rw [← hH, ← hlo]
  rw [← hlo] at hw
  replace hw : w_W G M r s H locs := by rw [hH]; exact hw
  unfold f_R_seed
  refine lv_aload_n hx hb dX12_seed_0 rfl (lv_at hl 0 rfl) ?_
  refine lv_iconst (v := 0) hx hb dX12_seed_1 (by decide) ?_
  refine rx_putI E hw on kF_R_56_11 (by decide) kT_11_0 dX12_seed_2 (fun H locs hw => ?_)
  refine lv_aload_n hx hb dX12_seed_5 rfl (lv_at hl 0 rfl) ?_
  refine rx_getA E hw on kF_R_7_11 (by decide) dX12_seed_6 ?_
  refine lv_bipush (v := 16) hx hb dX12_seed_9 (by decide) ?_
  refine rx_iald E hw on (by decide) dX12_seed_11 (fun v1 => ?_)
  refine lv_istore_n (lv' := [(2, .int v1), (0, .ref (g_r G)), (1, .int a0)]) hx hb dX12_seed_12 rfl hl (by decide) rfl (fun ls hl => ?_)
  refine lv_aload_n hx hb dX12_seed_13 rfl (lv_at hl 1 rfl) ?_
  refine rx_getA E hw on kF_R_7_11 (by decide) dX12_seed_14 ?_
  refine lv_bipush (v := 16) hx hb dX12_seed_17 (by decide) ?_
  refine lv_iload_n hx hb dX12_seed_19 rfl (lv_at hl 2 rfl) ?_
  refine rx_iast E hw on (by decide) dX12_seed_20 (fun r2 H locs hw => ?_)
  refine lv_iload_n hx hb dX12_seed_21 rfl (lv_at hl 0 rfl) ?_
  exact p_iret E hw hr (Nat.le_of_ble_eq_true rfl) (Nat.le_of_ble_eq_true rfl) rfl dX12_seed_22
set_option maxHeartbeats 4000000 in
set_option maxRecDepth 100000 in
theorem t_R_undo (l : Launch) (hfl : l.stackTraces = false) (G : wG) (on : g_on G = true) (N : Nat) (M : Mem) (r : Rho) : Ctr l yX12_undo (wWs yX12_undo cX12_undo 2 (some .boolean)) rm_R_undo rm_R_undo.cells rm_R_undo.slots G [.ref (g_r G)] M r ((f_R_undo N r).map (fun z => (.inl (some (.int z.1)), M, z.2))) := by
  refine Ctr.ofF (own := "CheekTownModel") (by decide +kernel) hfl rfl (Nat.le_of_ble_eq_true rfl) (fun p e s m args below meth c E hno hr hnm hw ls hl => ?_)
  obtain ⟨hx, hb, hts, hown, hml, hTT, -⟩ := id E
  have hl : lv_has ls 2 [(0, .ref (g_r G))] := hl
  obtain ⟨H, hH⟩ : ∃ H, H = s.heap := ⟨_, rfl⟩
  obtain ⟨locs, hlo⟩ : ∃ L : List Loc, L = [] := ⟨_, rfl⟩
  rw [← hH, ← hlo]
  rw [← hlo] at hw
  replace hw : w_W G M r s H locs := by rw [hH]; exact hw
  have w26 : ∀ (n : Nat) (x1 : Int32) (r : Rho) (H : Heap) (locs : List Loc) (ls : Array Slot), w_W G M r s H locs → lv_has ls 2 [(0, .ref (g_r G)), (1, .int x1)] → W p l e rm_R_undo s m args below meth c H locs 0 0 (PQ G below args s rm_R_undo.cells rm_R_undo.slots (fun z => (.inl (some (.int z.1)), M, z.2)) (f_R_undo_26 N n x1 r)) (F0 m 26 ls []) := by
    intro n
    induction n with
    | zero => intros; exact W_none
    | succ n ih =>
      intro x1 r H locs ls hw hl
      rw [f_R_undo_26]
      refine lv_iload_n hx hb dX12_undo_26 rfl (lv_at hl 1 rfl) ?_
      refine lv_sipush (v := 900) hx hb dX12_undo_27 (by decide) ?_
      refine cx_icmp_ge (tgt := 60) E dX12_undo_30 (by decide) (fun _ => ?_) (fun _ => ?_)
      · refine lv_iconst (v := 1) hx hb dX12_undo_60 (by decide) ?_
        exact p_zret E hw hr (by decide) (Nat.le_of_ble_eq_true rfl) (Nat.le_of_ble_eq_true rfl) rfl dX12_undo_61
      · refine lv_aload_n hx hb dX12_undo_33 rfl (lv_at hl 0 rfl) ?_
        refine rx_getA E hw on kF_R_7_11 (by decide) dX12_undo_34 ?_
        refine lv_iload_n hx hb dX12_undo_37 rfl (lv_at hl 1 rfl) ?_
        refine lv_aload_n hx hb dX12_undo_38 rfl (lv_at hl 0 rfl) ?_
        refine rx_getA E hw on kF_R_19_11 (by decide) dX12_undo_39 ?_
        refine lv_sipush (v := 900) hx hb dX12_undo_42 (by decide) ?_
        refine lv_aload_n hx hb dX12_undo_45 rfl (lv_at hl 0 rfl) ?_
        refine rx_getI E hw on kF_R_207_11 (by decide) dX12_undo_46 ?_
        refine lv_imul hx hb dX12_undo_49 ?_
        refine lv_iload_n hx hb dX12_undo_50 rfl (lv_at hl 1 rfl) ?_
        refine lv_iadd hx hb dX12_undo_51 ?_
        refine rx_iald E hw on (by decide) dX12_undo_52 (fun v1 => ?_)
        refine rx_iast E hw on (by decide) dX12_undo_53 (fun r2 H locs hw => ?_)
        refine lv_iinc (v := x1 + 1) (lv' := [(1, .int (x1 + 1)), (0, .ref (g_r G))]) hx hb dX12_undo_54 hl (k := 1) rfl rfl (by decide) rfl (fun ls hl => ?_)
        refine lv_goto (tgt := 26) hx hb dX12_undo_57 (by decide) ?_
        exact ih (x1 + 1) r2 _ _ _ hw (lv_sub hl [1, 0] rfl)
  unfold f_R_undo
  refine lv_aload_n hx hb dX12_undo_0 rfl (lv_at hl 0 rfl) ?_
  refine lv_iconst (v := 0) hx hb dX12_undo_1 (by decide) ?_
  refine rx_putI E hw on kF_R_56_11 (by decide) kT_11_0 dX12_undo_2 (fun H locs hw => ?_)
  refine lv_aload_n hx hb dX12_undo_5 rfl (lv_at hl 0 rfl) ?_
  refine rx_getI E hw on kF_R_207_11 (by decide) dX12_undo_6 ?_
  refine cx_if_ne (tgt := 14) E dX12_undo_9 (by decide) (fun _ => ?_) (fun _ => ?_)
  · refine lv_aload_n hx hb dX12_undo_14 rfl (lv_at hl 0 rfl) ?_
    refine lv_dup hx hb dX12_undo_15 rfl ?_
    refine rx_getI E hw on kF_R_207_11 (by decide) dX12_undo_16 ?_
    refine lv_iconst (v := 1) hx hb dX12_undo_19 (by decide) ?_
    refine lv_isub hx hb dX12_undo_20 ?_
    refine rx_putI E hw on kF_R_207_11 (by decide) kT_11_6 dX12_undo_21 (fun H locs hw => ?_)
    refine lv_iconst (v := 0) hx hb dX12_undo_24 (by decide) ?_
    refine lv_istore_n (lv' := [(1, .int 0), (0, .ref (g_r G))]) hx hb dX12_undo_25 rfl hl (by decide) rfl (fun ls hl => ?_)
    exact w26  N 0 (r_set (r_set r 0 0) 6 (((r_set r 0 0).1 6) - 1)) _ _ _ hw (lv_sub hl [1, 0] rfl)
  · refine lv_iconst (v := 0) hx hb dX12_undo_12 (by decide) ?_
    exact p_zret E hw hr (by decide) (Nat.le_of_ble_eq_true rfl) (Nat.le_of_ble_eq_true rfl) rfl dX12_undo_13
set_option maxHeartbeats 4000000 in
set_option maxRecDepth 100000 in
theorem t_R_image (l : Launch) (hfl : l.stackTraces = false) (G : wG) (on : g_on G = true) (N : Nat) (M : Mem) (r : Rho) : Ctr l yX12_image (wWs yX12_image cX12_image 2 none) rm_R_image rm_R_image.cells rm_R_image.slots G [.ref (g_r G)] M r ((f_R_image N r).map (fun z => (.inl none, M, z))) := by
  refine Ctr.ofF (own := "CheekTownModel") (by decide +kernel) hfl rfl (Nat.le_of_ble_eq_true rfl) (fun p e s m args below meth c E hno hr hnm hw ls hl => ?_)
  obtain ⟨hx, hb, hts, hown, hml, hTT, -⟩ := id E
  have hl : lv_has ls 2 [(0, .ref (g_r G))] := hl
  obtain ⟨H, hH⟩ : ∃ H, H = s.heap := ⟨_, rfl⟩
  obtain ⟨locs, hlo⟩ : ∃ L : List Loc, L = [] := ⟨_, rfl⟩
  rw [← hH, ← hlo]
  rw [← hlo] at hw
  replace hw : w_W G M r s H locs := by rw [hH]; exact hw
  have w7 : ∀ (n : Nat) (x1 : Int32) (r : Rho) (H : Heap) (locs : List Loc) (ls : Array Slot), w_W G M r s H locs → lv_has ls 2 [(0, .ref (g_r G)), (1, .int x1)] → W p l e rm_R_image s m args below meth c H locs 0 0 (PQ G below args s rm_R_image.cells rm_R_image.slots (fun z => (.inl none, M, z)) (f_R_image_7 N n x1 r)) (F0 m 7 ls []) := by
    intro n
    induction n with
    | zero => intros; exact W_none
    | succ n ih =>
      intro x1 r H locs ls hw hl
      rw [f_R_image_7]
      refine lv_iload_n hx hb dX12_image_7 rfl (lv_at hl 1 rfl) ?_
      refine lv_sipush (v := 1300) hx hb dX12_image_8 (by decide) ?_
      refine cx_icmp_ge (tgt := 32) E dX12_image_11 (by decide) (fun _ => ?_) (fun _ => ?_)
      · refine lv_aload_n hx hb dX12_image_32 rfl (lv_at hl 0 rfl) ?_
        refine lv_iconst (v := 1) hx hb dX12_image_33 (by decide) ?_
        refine rx_putZ E hw on kF_R_384_11 (by decide) kT_11_3 dX12_image_34 (fun r1 H locs hw => ?_)
        exact p_vret E hw hr (Nat.le_of_ble_eq_true rfl) (Nat.le_of_ble_eq_true rfl) rfl dX12_image_37
      · refine lv_aload_n hx hb dX12_image_14 rfl (lv_at hl 0 rfl) ?_
        refine rx_getA E hw on kF_R_13_11 (by decide) dX12_image_15 ?_
        refine lv_iload_n hx hb dX12_image_18 rfl (lv_at hl 1 rfl) ?_
        refine lv_aload_n hx hb dX12_image_19 rfl (lv_at hl 0 rfl) ?_
        refine rx_getA E hw on kF_R_7_11 (by decide) dX12_image_20 ?_
        refine lv_iload_n hx hb dX12_image_23 rfl (lv_at hl 1 rfl) ?_
        refine rx_iald E hw on (by decide) dX12_image_24 (fun v2 => ?_)
        refine rx_iast E hw on (by decide) dX12_image_25 (fun r3 H locs hw => ?_)
        refine lv_iinc (v := x1 + 1) (lv' := [(1, .int (x1 + 1)), (0, .ref (g_r G))]) hx hb dX12_image_26 hl (k := 1) rfl rfl (by decide) rfl (fun ls hl => ?_)
        refine lv_goto (tgt := 7) hx hb dX12_image_29 (by decide) ?_
        exact ih (x1 + 1) r3 _ _ _ hw (lv_sub hl [1, 0] rfl)
  unfold f_R_image
  refine lv_aload_n hx hb dX12_image_0 rfl (lv_at hl 0 rfl) ?_
  refine lv_iconst (v := 0) hx hb dX12_image_1 (by decide) ?_
  refine rx_putI E hw on kF_R_56_11 (by decide) kT_11_0 dX12_image_2 (fun H locs hw => ?_)
  refine lv_iconst (v := 0) hx hb dX12_image_5 (by decide) ?_
  refine lv_istore_n (lv' := [(1, .int 0), (0, .ref (g_r G))]) hx hb dX12_image_6 rfl hl (by decide) rfl (fun ls hl => ?_)
  exact w7  N 0 (r_set r 0 0) _ _ _ hw (lv_sub hl [1, 0] rfl)
set_option maxHeartbeats 4000000 in
set_option maxRecDepth 100000 in
theorem t_R_back (l : Launch) (hfl : l.stackTraces = false) (G : wG) (on : g_on G = true) (N : Nat) (M : Mem) (r : Rho) : Ctr l yX12_back (wWs yX12_back cX12_back 2 (some .boolean)) rm_R_back rm_R_back.cells rm_R_back.slots G [.ref (g_r G)] M r ((f_R_back N r).map (fun z => (.inl (some (.int z.1)), M, z.2))) := by
  refine Ctr.ofF (own := "CheekTownModel") (by decide +kernel) hfl rfl (Nat.le_of_ble_eq_true rfl) (fun p e s m args below meth c E hno hr hnm hw ls hl => ?_)
  obtain ⟨hx, hb, hts, hown, hml, hTT, -⟩ := id E
  have hl : lv_has ls 2 [(0, .ref (g_r G))] := hl
  obtain ⟨H, hH⟩ : ∃ H, H = s.heap := ⟨_, rfl⟩
  obtain ⟨locs, hlo⟩ : ∃ L : List Loc, L = [] := ⟨_, rfl⟩
  rw [← hH, ← hlo]
  rw [← hlo] at hw
  replace hw : w_W G M r s H locs := by rw [hH]; exact hw
  have w16 : ∀ (n : Nat) (x1 : Int32) (r : Rho) (H : Heap) (locs : List Loc) (ls : Array Slot), w_W G M r s H locs → lv_has ls 2 [(0, .ref (g_r G)), (1, .int x1)] → W p l e rm_R_back s m args below meth c H locs 0 0 (PQ G below args s rm_R_back.cells rm_R_back.slots (fun z => (.inl (some (.int z.1)), M, z.2)) (f_R_back_16 N n x1 r)) (F0 m 16 ls []) := by
    intro n
    induction n with
    | zero => intros; exact W_none
    | succ n ih =>
      intro x1 r H locs ls hw hl
      rw [f_R_back_16]
      refine lv_iload_n hx hb dX12_back_16 rfl (lv_at hl 1 rfl) ?_
      refine lv_sipush (v := 1300) hx hb dX12_back_17 (by decide) ?_
      refine cx_icmp_ge (tgt := 41) E dX12_back_20 (by decide) (fun _ => ?_) (fun _ => ?_)
      · refine lv_aload_n hx hb dX12_back_41 rfl (lv_at hl 0 rfl) ?_
        refine lv_iconst (v := 0) hx hb dX12_back_42 (by decide) ?_
        refine rx_putI E hw on kF_R_207_11 (by decide) kT_11_6 dX12_back_43 (fun H locs hw => ?_)
        refine lv_iconst (v := 1) hx hb dX12_back_46 (by decide) ?_
        exact p_zret E hw hr (by decide) (Nat.le_of_ble_eq_true rfl) (Nat.le_of_ble_eq_true rfl) rfl dX12_back_47
      · refine lv_aload_n hx hb dX12_back_23 rfl (lv_at hl 0 rfl) ?_
        refine rx_getA E hw on kF_R_7_11 (by decide) dX12_back_24 ?_
        refine lv_iload_n hx hb dX12_back_27 rfl (lv_at hl 1 rfl) ?_
        refine lv_aload_n hx hb dX12_back_28 rfl (lv_at hl 0 rfl) ?_
        refine rx_getA E hw on kF_R_13_11 (by decide) dX12_back_29 ?_
        refine lv_iload_n hx hb dX12_back_32 rfl (lv_at hl 1 rfl) ?_
        refine rx_iald E hw on (by decide) dX12_back_33 (fun v1 => ?_)
        refine rx_iast E hw on (by decide) dX12_back_34 (fun r2 H locs hw => ?_)
        refine lv_iinc (v := x1 + 1) (lv' := [(1, .int (x1 + 1)), (0, .ref (g_r G))]) hx hb dX12_back_35 hl (k := 1) rfl rfl (by decide) rfl (fun ls hl => ?_)
        refine lv_goto (tgt := 16) hx hb dX12_back_38 (by decide) ?_
        exact ih (x1 + 1) r2 _ _ _ hw (lv_sub hl [1, 0] rfl)
  unfold f_R_back
  refine lv_aload_n hx hb dX12_back_0 rfl (lv_at hl 0 rfl) ?_
  refine lv_iconst (v := 0) hx hb dX12_back_1 (by decide) ?_
  refine rx_putI E hw on kF_R_56_11 (by decide) kT_11_0 dX12_back_2 (fun H locs hw => ?_)
  refine lv_aload_n hx hb dX12_back_5 rfl (lv_at hl 0 rfl) ?_
  refine rx_getI E hw on kF_R_384_11 (by decide) dX12_back_6 ?_
  refine cx_if_ne (tgt := 14) E dX12_back_9 (by decide) (fun _ => ?_) (fun _ => ?_)
  · refine lv_iconst (v := 0) hx hb dX12_back_14 (by decide) ?_
    refine lv_istore_n (lv' := [(1, .int 0), (0, .ref (g_r G))]) hx hb dX12_back_15 rfl hl (by decide) rfl (fun ls hl => ?_)
    exact w16  N 0 (r_set r 0 0) _ _ _ hw (lv_sub hl [1, 0] rfl)
  · refine lv_iconst (v := 0) hx hb dX12_back_12 (by decide) ?_
    exact p_zret E hw hr (by decide) (Nat.le_of_ble_eq_true rfl) (Nat.le_of_ble_eq_true rfl) rfl dX12_back_13
set_option maxHeartbeats 4000000 in
set_option maxRecDepth 100000 in
theorem t_R_count (l : Launch) (hfl : l.stackTraces = false) (G : wG) (on : g_on G = true) (N : Nat) (a0 : Int32) (M : Mem) (r : Rho) : Ctr l yX12_count (wWs yX12_count cX12_count 2 (some .int)) rm_R_count rm_R_count.cells rm_R_count.slots G [.ref (g_r G), .int a0] M r ((f_R_count N a0 r).map (fun z => (.inl (some (.int z.1)), M, z.2))) := by
  refine Ctr.ofF (own := "CheekTownModel") (by decide +kernel) hfl rfl (Nat.le_of_ble_eq_true rfl) (fun p e s m args below meth c E hno hr hnm hw ls hl => ?_)
  obtain ⟨hx, hb, hts, hown, hml, hTT, -⟩ := id E
  have hl : lv_has ls 2 [(0, .ref (g_r G)), (1, .int a0)] := hl
  obtain ⟨H, hH⟩ : ∃ H, H = s.heap := ⟨_, rfl⟩
  obtain ⟨locs, hlo⟩ : ∃ L : List Loc, L = [] := ⟨_, rfl⟩
  rw [← hH, ← hlo]
  rw [← hlo] at hw
  replace hw : w_W G M r s H locs := by rw [hH]; exact hw
  unfold f_R_count
  refine lv_aload_n hx hb dX12_count_0 rfl (lv_at hl 0 rfl) ?_
  refine lv_iconst (v := 0) hx hb dX12_count_1 (by decide) ?_
  refine rx_putI E hw on kF_R_56_11 (by decide) kT_11_0 dX12_count_2 (fun H locs hw => ?_)
  refine lv_iload_n hx hb dX12_count_5 rfl (lv_at hl 1 rfl) ?_
  refine cx_if_ne (tgt := 16) E dX12_count_6 (by decide) (fun _ => ?_) (fun _ => ?_)
  · refine lv_iload_n hx hb dX12_count_16 rfl (lv_at hl 1 rfl) ?_
    refine lv_iconst (v := 1) hx hb dX12_count_17 (by decide) ?_
    refine cx_icmp_ne (tgt := 28) E dX12_count_18 (by decide) (fun _ => ?_) (fun _ => ?_)
    · refine lv_iload_n hx hb dX12_count_28 rfl (lv_at hl 1 rfl) ?_
      refine lv_iconst (v := 2) hx hb dX12_count_29 (by decide) ?_
      refine cx_icmp_ne (tgt := 40) E dX12_count_30 (by decide) (fun _ => ?_) (fun _ => ?_)
      · refine lv_iload_n hx hb dX12_count_40 rfl (lv_at hl 1 rfl) ?_
        refine lv_iconst (v := 3) hx hb dX12_count_41 (by decide) ?_
        refine cx_icmp_ne (tgt := 53) E dX12_count_42 (by decide) (fun _ => ?_) (fun _ => ?_)
        · refine lv_iload_n hx hb dX12_count_53 rfl (lv_at hl 1 rfl) ?_
          refine lv_iconst (v := 4) hx hb dX12_count_54 (by decide) ?_
          refine cx_icmp_ne (tgt := 65) E dX12_count_55 (by decide) (fun _ => ?_) (fun _ => ?_)
          · refine lv_iload_n hx hb dX12_count_65 rfl (lv_at hl 1 rfl) ?_
            refine lv_iconst (v := 5) hx hb dX12_count_66 (by decide) ?_
            refine cx_icmp_ne (tgt := 77) E dX12_count_67 (by decide) (fun _ => ?_) (fun _ => ?_)
            · refine lv_iload_n hx hb dX12_count_77 rfl (lv_at hl 1 rfl) ?_
              refine lv_bipush (v := 6) hx hb dX12_count_78 (by decide) ?_
              refine lv_bipush (v := 10) hx hb dX12_count_80 (by decide) ?_
              refine W_bind fun z1 hz => ?_
              refine w_after (cells1 := 0) (slots1 := 0) (w_runS E kS_R_59 kc_X12_isIn (t_R_isIn l hfl G a0 6 10 M (r_set r 0 0) ((fun z => (.inl (some (.int z)), M, (r_set r 0 0))) z1) (by rw [hz]; rfl)) ⟨Nat.le_of_ble_eq_true rfl, Nat.le_of_ble_eq_true rfl⟩ hw rfl hl.1 rfl (Nat.le_of_ble_eq_true rfl) dX12_count_82 ⟨Nat.le_of_ble_eq_true rfl, Nat.le_of_ble_eq_true rfl⟩) hw rfl (Nat.le_of_ble_eq_true rfl) (Nat.le_of_ble_eq_true rfl) (fun H locs hw => ?_)
              refine W.eq (g2 := F0 m 85 ls [.int z1]) rfl ?_
              have hw : w_W G M (r_set r 0 0) s H locs := hw
              refine cx_if_eq (tgt := 101) E dX12_count_85 (by decide) (fun _ => ?_) (fun _ => ?_)
              · refine lv_iload_n hx hb dX12_count_101 rfl (lv_at hl 1 rfl) ?_
                refine lv_bipush (v := 11) hx hb dX12_count_102 (by decide) ?_
                refine cx_icmp_ne (tgt := 112) E dX12_count_104 (by decide) (fun _ => ?_) (fun _ => ?_)
                · refine lv_iload_n hx hb dX12_count_112 rfl (lv_at hl 1 rfl) ?_
                  refine lv_bipush (v := 12) hx hb dX12_count_113 (by decide) ?_
                  refine cx_icmp_ne (tgt := 126) E dX12_count_115 (by decide) (fun _ => ?_) (fun _ => ?_)
                  · refine lv_iload_n hx hb dX12_count_126 rfl (lv_at hl 1 rfl) ?_
                    refine lv_bipush (v := 13) hx hb dX12_count_127 (by decide) ?_
                    refine cx_icmp_ne (tgt := 137) E dX12_count_129 (by decide) (fun _ => ?_) (fun _ => ?_)
                    · refine lv_iload_n hx hb dX12_count_137 rfl (lv_at hl 1 rfl) ?_
                      refine lv_bipush (v := 14) hx hb dX12_count_138 (by decide) ?_
                      refine lv_bipush (v := 16) hx hb dX12_count_140 (by decide) ?_
                      refine W_bind fun z2 hz => ?_
                      refine w_after (cells1 := 0) (slots1 := 0) (w_runS E kS_R_59 kc_X12_isIn (t_R_isIn l hfl G a0 14 16 M (r_set r 0 0) ((fun z => (.inl (some (.int z)), M, (r_set r 0 0))) z2) (by rw [hz]; rfl)) ⟨Nat.le_of_ble_eq_true rfl, Nat.le_of_ble_eq_true rfl⟩ hw rfl hl.1 rfl (Nat.le_of_ble_eq_true rfl) dX12_count_142 ⟨Nat.le_of_ble_eq_true rfl, Nat.le_of_ble_eq_true rfl⟩) hw rfl (Nat.le_of_ble_eq_true rfl) (Nat.le_of_ble_eq_true rfl) (fun H locs hw => ?_)
                      refine W.eq (g2 := F0 m 145 ls [.int z2]) rfl ?_
                      have hw : w_W G M (r_set r 0 0) s H locs := hw
                      refine cx_if_eq (tgt := 163) E dX12_count_145 (by decide) (fun _ => ?_) (fun _ => ?_)
                      · refine lv_iconst (v := (-1)) hx hb dX12_count_163 (by decide) ?_
                        exact p_iret E hw hr (Nat.le_of_ble_eq_true rfl) (Nat.le_of_ble_eq_true rfl) rfl dX12_count_164
                      · refine lv_aload_n hx hb dX12_count_148 rfl (lv_at hl 0 rfl) ?_
                        refine rx_getA E hw on kF_R_7_11 (by decide) dX12_count_149 ?_
                        refine lv_bipush (v := 13) hx hb dX12_count_152 (by decide) ?_
                        refine lv_iload_n hx hb dX12_count_154 rfl (lv_at hl 1 rfl) ?_
                        refine lv_iadd hx hb dX12_count_155 ?_
                        refine lv_bipush (v := 14) hx hb dX12_count_156 (by decide) ?_
                        refine lv_isub hx hb dX12_count_158 ?_
                        refine rx_iald E hw on (by decide) dX12_count_159 (fun v3 => ?_)
                        refine lv_goto (tgt := 164) hx hb dX12_count_160 (by decide) ?_
                        exact p_iret E hw hr (Nat.le_of_ble_eq_true rfl) (Nat.le_of_ble_eq_true rfl) rfl dX12_count_164
                    · refine lv_aload_n hx hb dX12_count_132 rfl (lv_at hl 0 rfl) ?_
                      refine rx_getI E hw on kF_R_207_11 (by decide) dX12_count_133 ?_
                      exact p_iret E hw hr (Nat.le_of_ble_eq_true rfl) (Nat.le_of_ble_eq_true rfl) rfl dX12_count_136
                  · refine lv_aload_n hx hb dX12_count_118 rfl (lv_at hl 0 rfl) ?_
                    refine rx_getA E hw on kF_R_7_11 (by decide) dX12_count_119 ?_
                    refine lv_bipush (v := 12) hx hb dX12_count_122 (by decide) ?_
                    refine rx_iald E hw on (by decide) dX12_count_124 (fun v4 => ?_)
                    exact p_iret E hw hr (Nat.le_of_ble_eq_true rfl) (Nat.le_of_ble_eq_true rfl) rfl dX12_count_125
                · refine lv_aload_n hx hb dX12_count_107 rfl (lv_at hl 0 rfl) ?_
                  refine W_bind fun z5 hz => ?_
                  refine w_after (cells1 := 0) (slots1 := 0) (w_runV E kV_R_372 kc_X12_coldsNow (t_R_coldsNow l hfl G on N M (r_set r 0 0) ((fun z => (.inl (some (.int z)), M, (r_set r 0 0))) z5) (by rw [hz]; rfl)) ⟨Nat.le_of_ble_eq_true rfl, Nat.le_of_ble_eq_true rfl⟩ hw (w_recvR E hw on) rfl hl.1 rfl (Nat.le_of_ble_eq_true rfl) dX12_count_108 ⟨Nat.le_of_ble_eq_true rfl, Nat.le_of_ble_eq_true rfl⟩) hw rfl (Nat.le_of_ble_eq_true rfl) (Nat.le_of_ble_eq_true rfl) (fun H locs hw => ?_)
                  refine W.eq (g2 := F0 m 111 ls [.int z5]) rfl ?_
                  have hw : w_W G M (r_set r 0 0) s H locs := hw
                  exact p_iret E hw hr (Nat.le_of_ble_eq_true rfl) (Nat.le_of_ble_eq_true rfl) rfl dX12_count_111
              · refine lv_aload_n hx hb dX12_count_88 rfl (lv_at hl 0 rfl) ?_
                refine rx_getA E hw on kF_R_7_11 (by decide) dX12_count_89 ?_
                refine lv_bipush (v := 7) hx hb dX12_count_92 (by decide) ?_
                refine lv_iload_n hx hb dX12_count_94 rfl (lv_at hl 1 rfl) ?_
                refine lv_iadd hx hb dX12_count_95 ?_
                refine lv_bipush (v := 6) hx hb dX12_count_96 (by decide) ?_
                refine lv_isub hx hb dX12_count_98 ?_
                refine rx_iald E hw on (by decide) dX12_count_99 (fun v6 => ?_)
                exact p_iret E hw hr (Nat.le_of_ble_eq_true rfl) (Nat.le_of_ble_eq_true rfl) rfl dX12_count_100
            · refine lv_aload_n hx hb dX12_count_70 rfl (lv_at hl 0 rfl) ?_
              refine rx_getA E hw on kF_R_7_11 (by decide) dX12_count_71 ?_
              refine lv_iconst (v := 1) hx hb dX12_count_74 (by decide) ?_
              refine rx_iald E hw on (by decide) dX12_count_75 (fun v7 => ?_)
              exact p_iret E hw hr (Nat.le_of_ble_eq_true rfl) (Nat.le_of_ble_eq_true rfl) rfl dX12_count_76
          · refine lv_aload_n hx hb dX12_count_58 rfl (lv_at hl 0 rfl) ?_
            refine rx_getA E hw on kF_R_7_11 (by decide) dX12_count_59 ?_
            refine lv_iconst (v := 0) hx hb dX12_count_62 (by decide) ?_
            refine rx_iald E hw on (by decide) dX12_count_63 (fun v8 => ?_)
            exact p_iret E hw hr (Nat.le_of_ble_eq_true rfl) (Nat.le_of_ble_eq_true rfl) rfl dX12_count_64
        · refine lv_aload_n hx hb dX12_count_45 rfl (lv_at hl 0 rfl) ?_
          refine rx_getA E hw on kF_R_7_11 (by decide) dX12_count_46 ?_
          refine lv_bipush (v := 6) hx hb dX12_count_49 (by decide) ?_
          refine rx_iald E hw on (by decide) dX12_count_51 (fun v9 => ?_)
          exact p_iret E hw hr (Nat.le_of_ble_eq_true rfl) (Nat.le_of_ble_eq_true rfl) rfl dX12_count_52
      · refine lv_aload_n hx hb dX12_count_33 rfl (lv_at hl 0 rfl) ?_
        refine rx_getA E hw on kF_R_7_11 (by decide) dX12_count_34 ?_
        refine lv_iconst (v := 5) hx hb dX12_count_37 (by decide) ?_
        refine rx_iald E hw on (by decide) dX12_count_38 (fun v10 => ?_)
        exact p_iret E hw hr (Nat.le_of_ble_eq_true rfl) (Nat.le_of_ble_eq_true rfl) rfl dX12_count_39
    · refine lv_aload_n hx hb dX12_count_21 rfl (lv_at hl 0 rfl) ?_
      refine rx_getA E hw on kF_R_7_11 (by decide) dX12_count_22 ?_
      refine lv_iconst (v := 4) hx hb dX12_count_25 (by decide) ?_
      refine rx_iald E hw on (by decide) dX12_count_26 (fun v11 => ?_)
      exact p_iret E hw hr (Nat.le_of_ble_eq_true rfl) (Nat.le_of_ble_eq_true rfl) rfl dX12_count_27
  · refine lv_aload_n hx hb dX12_count_9 rfl (lv_at hl 0 rfl) ?_
    refine rx_getA E hw on kF_R_7_11 (by decide) dX12_count_10 ?_
    refine lv_iconst (v := 3) hx hb dX12_count_13 (by decide) ?_
    refine rx_iald E hw on (by decide) dX12_count_14 (fun v12 => ?_)
    exact p_iret E hw hr (Nat.le_of_ble_eq_true rfl) (Nat.le_of_ble_eq_true rfl) rfl dX12_count_15

