set_option maxHeartbeats 4000000 in
set_option maxRecDepth 100000 in
theorem t_R_byRule (l : Launch) (hfl : l.stackTraces = false) (G : wG) (on : g_on G = true) (N : Nat) (a0 : Int32) (M : Mem) (r : Rho) : Ctr l yX12_byRule (wWs yX12_byRule cX12_byRule 6 (some .int)) rm_R_byRule rm_R_byRule.cells rm_R_byRule.slots G [.ref (g_r G), .int a0] M r ((f_R_byRule N a0 r).map (fun z => (.inl (some (.int z.1)), M, z.2))) := by
  refine Ctr.ofF (own := "CheekTownModel") (by decide +kernel) hfl rfl (Nat.le_of_ble_eq_true rfl) (fun p e s m args below meth c E hno hr hnm hw ls hl => ?_)
  obtain ⟨hx, hb, hts, hown, hml, hTT, -⟩ := id E
  have hl : lv_has ls 6 [(0, .ref (g_r G)), (1, .int a0)] := hl
  obtain ⟨H, hH⟩ : ∃ H, H = s.heap := ⟨_, rfl⟩
  obtain ⟨locs, hlo⟩ : ∃ L : List Loc, L = [] := ⟨_, rfl⟩
  rw [← hH, ← hlo]
  rw [← hlo] at hw
  replace hw : w_W G M r s H locs := by rw [hH]; exact hw
  have w4 : ∀ (n : Nat) (x2 : Int32) (x3 : Int32) (r : Rho) (H : Heap) (locs : List Loc) (ls : Array Slot), w_W G M r s H locs → lv_has ls 6 [(0, .ref (g_r G)), (1, .int a0), (2, .int x2), (3, .int x3)] → W p l e rm_R_byRule s m args below meth c H locs 0 0 (PQ G below args s rm_R_byRule.cells rm_R_byRule.slots (fun z => (.inl (some (.int z.1)), M, z.2)) (f_R_byRule_4 N a0 n x2 x3 r)) (F0 m 4 ls []) := by
    intro n
    induction n with
    | zero => intros; exact W_none
    | succ n ih =>
      intro x2 x3 r H locs ls hw hl
      rw [f_R_byRule_4]
      refine lv_iload_n hx hb dX12_byRule_4 rfl (lv_at hl 3 rfl) ?_
      refine lv_aload_n hx hb dX12_byRule_5 rfl (lv_at hl 0 rfl) ?_
      refine rx_getA E hw on kF_R_7_11 (by decide) dX12_byRule_6 ?_
      refine lv_bipush (v := 6) hx hb dX12_byRule_9 (by decide) ?_
      refine rx_iald E hw on (by decide) dX12_byRule_11 (fun v1 => ?_)
      refine cx_icmp_ge (tgt := 88) E dX12_byRule_12 (by decide) (fun _ => ?_) (fun _ => ?_)
      · refine lv_iload_n hx hb dX12_byRule_88 rfl (lv_at hl 2 rfl) ?_
        exact p_iret E hw hr (Nat.le_of_ble_eq_true rfl) (Nat.le_of_ble_eq_true rfl) rfl dX12_byRule_89
      · refine lv_aload_n hx hb dX12_byRule_15 rfl (lv_at hl 0 rfl) ?_
        refine lv_aload_n hx hb dX12_byRule_16 rfl (lv_at hl 0 rfl) ?_
        refine lv_iload_n hx hb dX12_byRule_17 rfl (lv_at hl 3 rfl) ?_
        refine W_bind fun z2 hz => ?_
        refine w_after (cells1 := 0) (slots1 := 0) (w_runV E kV_R_63 kc_X12_who (t_R_who l hfl G on x3 M r ((fun z => (.inl (some (.int z)), M, r)) z2) (by rw [hz]; rfl)) ⟨Nat.le_of_ble_eq_true rfl, Nat.le_of_ble_eq_true rfl⟩ hw (w_recvR E hw on) rfl hl.1 rfl (Nat.le_of_ble_eq_true rfl) dX12_byRule_18 ⟨Nat.le_of_ble_eq_true rfl, Nat.le_of_ble_eq_true rfl⟩) hw rfl (Nat.le_of_ble_eq_true rfl) (Nat.le_of_ble_eq_true rfl) (fun H locs hw => ?_)
        refine W.eq (g2 := F0 m 21 ls [.int z2, .ref (g_r G)]) rfl ?_
        have hw : w_W G M r s H locs := hw
        refine lv_aload_n hx hb dX12_byRule_21 rfl (lv_at hl 0 rfl) ?_
        refine lv_iload_n hx hb dX12_byRule_22 rfl (lv_at hl 3 rfl) ?_
        refine W_bind fun z3 hz => ?_
        refine w_after (cells1 := 0) (slots1 := 0) (w_runV E kV_R_67 kc_X12_whom (t_R_whom l hfl G on x3 M r ((fun z => (.inl (some (.int z)), M, r)) z3) (by rw [hz]; rfl)) ⟨Nat.le_of_ble_eq_true rfl, Nat.le_of_ble_eq_true rfl⟩ hw (w_recvR E hw on) rfl hl.1 rfl (Nat.le_of_ble_eq_true rfl) dX12_byRule_23 ⟨Nat.le_of_ble_eq_true rfl, Nat.le_of_ble_eq_true rfl⟩) hw rfl (Nat.le_of_ble_eq_true rfl) (Nat.le_of_ble_eq_true rfl) (fun H locs hw => ?_)
        refine W.eq (g2 := F0 m 26 ls [.int z3, .int z2, .ref (g_r G)]) rfl ?_
        have hw : w_W G M r s H locs := hw
        refine lv_iload_n hx hb dX12_byRule_26 rfl (lv_at hl 1 rfl) ?_
        refine W_bind fun z4 hz => ?_
        refine w_after (cells1 := 0) (slots1 := 0) (w_runV E kV_R_347 kc_X12_beginner (t_R_beginner l hfl G on z2 z3 a0 M r ((fun z => (.inl (some (.int z)), M, r)) z4) (by rw [hz]; rfl)) ⟨Nat.le_of_ble_eq_true rfl, Nat.le_of_ble_eq_true rfl⟩ hw (w_recvR E hw on) rfl hl.1 rfl (Nat.le_of_ble_eq_true rfl) dX12_byRule_27 ⟨Nat.le_of_ble_eq_true rfl, Nat.le_of_ble_eq_true rfl⟩) hw rfl (Nat.le_of_ble_eq_true rfl) (Nat.le_of_ble_eq_true rfl) (fun H locs hw => ?_)
        refine W.eq (g2 := F0 m 30 ls [.int z4]) rfl ?_
        have hw : w_W G M r s H locs := hw
        refine lv_istore (lv' := [(4, .int z4), (0, .ref (g_r G)), (1, .int a0), (2, .int x2), (3, .int x3)]) hx hb dX12_byRule_30 hl (by decide) rfl (fun ls hl => ?_)
        refine lv_aload_n hx hb dX12_byRule_32 rfl (lv_at hl 1 rfl) ?_
        refine lv_iload_n hx hb dX12_byRule_33 rfl (lv_at hl 4 rfl) ?_
        refine W_bind fun z5 hz => ?_
        refine w_after (cells1 := 0) (slots1 := 0) (w_runV E kV_R_63 kc_X12_who (t_R_who l hfl G on x3 M r ((fun z => (.inl (some (.int z)), M, r)) z5) (by rw [hz]; rfl)) ⟨Nat.le_of_ble_eq_true rfl, Nat.le_of_ble_eq_true rfl⟩ hw (w_recvR E hw on) rfl hl.1 rfl (Nat.le_of_ble_eq_true rfl) dX12_byRule_34 ⟨Nat.le_of_ble_eq_true rfl, Nat.le_of_ble_eq_true rfl⟩) hw rfl (Nat.le_of_ble_eq_true rfl) (Nat.le_of_ble_eq_true rfl) (fun H locs hw => ?_)
        refine W.eq (g2 := F0 m 37 ls [.int z5]) rfl ?_
        have hw : w_W G M r s H locs := hw
        refine lv_aload_n hx hb dX12_byRule_37 rfl (lv_at hl 1 rfl) ?_
        refine lv_iload_n hx hb dX12_byRule_38 rfl (lv_at hl 4 rfl) ?_
        refine W_bind fun z6 hz => ?_
        refine w_after (cells1 := 0) (slots1 := 0) (w_runV E kV_R_67 kc_X12_whom (t_R_whom l hfl G on x3 M r ((fun z => (.inl (some (.int z)), M, r)) z6) (by rw [hz]; rfl)) ⟨Nat.le_of_ble_eq_true rfl, Nat.le_of_ble_eq_true rfl⟩ hw (w_recvR E hw on) rfl hl.1 rfl (Nat.le_of_ble_eq_true rfl) dX12_byRule_39 ⟨Nat.le_of_ble_eq_true rfl, Nat.le_of_ble_eq_true rfl⟩) hw rfl (Nat.le_of_ble_eq_true rfl) (Nat.le_of_ble_eq_true rfl) (fun H locs hw => ?_)
        refine W.eq (g2 := F0 m 42 ls [.int z6, .int z5]) rfl ?_
        have hw : w_W G M r s H locs := hw
        refine lv_iadd hx hb dX12_byRule_42 ?_
        refine lv_iload hx hb dX12_byRule_43 (lv_at hl 0 rfl) ?_
        refine lv_isub hx hb dX12_byRule_45 ?_
        refine lv_istore (lv' := [(5, .int ((z5 + z6) - z4)), (4, .int z4), (0, .ref (g_r G)), (1, .int a0), (2, .int x2), (3, .int x3)]) hx hb dX12_byRule_46 hl (by decide) rfl (fun ls hl => ?_)
        refine lv_iload_n hx hb dX12_byRule_48 rfl (lv_at hl 4 rfl) ?_
        refine lv_aload_n hx hb dX12_byRule_49 rfl (lv_at hl 2 rfl) ?_
        refine lv_aload_n hx hb dX12_byRule_50 rfl (lv_at hl 2 rfl) ?_
        refine lv_iload hx hb dX12_byRule_51 (lv_at hl 1 rfl) ?_
        refine lv_iload hx hb dX12_byRule_53 (lv_at hl 0 rfl) ?_
        refine W_bind fun z7 hz => ?_
        refine w_after (cells1 := 0) (slots1 := 0) (w_runV E kV_R_280 kc_X12_beginning (t_R_beginning l hfl G on N z4 ((z5 + z6) - z4) M r ((fun z => (.inl (some (.int z.1)), M, z.2)) z7) (by rw [hz]; rfl)) ⟨Nat.le_of_ble_eq_true rfl, Nat.le_of_ble_eq_true rfl⟩ hw (w_recvR E hw on) rfl hl.1 rfl (Nat.le_of_ble_eq_true rfl) dX12_byRule_55 ⟨Nat.le_of_ble_eq_true rfl, Nat.le_of_ble_eq_true rfl⟩) hw rfl (Nat.le_of_ble_eq_true rfl) (Nat.le_of_ble_eq_true rfl) (fun H locs hw => ?_)
        refine W.eq (g2 := F0 m 58 ls [.int z7.1, .ref (g_r G), .int x2]) rfl ?_
        have hw : w_W G M z7.2 s H locs := hw
        refine lv_aload_n hx hb dX12_byRule_58 rfl (lv_at hl 2 rfl) ?_
        refine lv_iload hx hb dX12_byRule_59 (lv_at hl 0 rfl) ?_
        refine lv_iload hx hb dX12_byRule_61 (lv_at hl 1 rfl) ?_
        refine W_bind fun z8 hz => ?_
        refine w_after (cells1 := 0) (slots1 := 0) (w_runV E kV_R_280 kc_X12_beginning (t_R_beginning l hfl G on N ((z5 + z6) - z4) z4 M z7.2 ((fun z => (.inl (some (.int z.1)), M, z.2)) z8) (by rw [hz]; rfl)) ⟨Nat.le_of_ble_eq_true rfl, Nat.le_of_ble_eq_true rfl⟩ hw (w_recvR E hw on) rfl hl.1 rfl (Nat.le_of_ble_eq_true rfl) dX12_byRule_63 ⟨Nat.le_of_ble_eq_true rfl, Nat.le_of_ble_eq_true rfl⟩) hw rfl (Nat.le_of_ble_eq_true rfl) (Nat.le_of_ble_eq_true rfl) (fun H locs hw => ?_)
        refine W.eq (g2 := F0 m 66 ls [.int z8.1, .int z7.1, .ref (g_r G), .int x2]) rfl ?_
        have hw : w_W G M z8.2 s H locs := hw
        refine W_bind fun z9 hz => ?_
        refine w_after (cells1 := 0) (slots1 := 0) (w_runV E kV_R_263 kc_X12_costOf (t_R_costOf l hfl G on z7.1 z8.1 M z8.2 ((fun z => (.inl (some (.int z)), M, z8.2)) z9) (by rw [hz]; rfl)) ⟨Nat.le_of_ble_eq_true rfl, Nat.le_of_ble_eq_true rfl⟩ hw (w_recvR E hw on) rfl hl.1 rfl (Nat.le_of_ble_eq_true rfl) dX12_byRule_66 ⟨Nat.le_of_ble_eq_true rfl, Nat.le_of_ble_eq_true rfl⟩) hw rfl (Nat.le_of_ble_eq_true rfl) (Nat.le_of_ble_eq_true rfl) (fun H locs hw => ?_)
        refine W.eq (g2 := F0 m 69 ls [.int z9, .int x2]) rfl ?_
        have hw : w_W G M z8.2 s H locs := hw
        refine lv_bipush (v := 100) hx hb dX12_byRule_69 (by decide) ?_
        refine lv_aload_n hx hb dX12_byRule_71 rfl (lv_at hl 2 rfl) ?_
        refine lv_iload hx hb dX12_byRule_72 (lv_at hl 0 rfl) ?_
        refine lv_iconst (v := 3) hx hb dX12_byRule_74 (by decide) ?_
        refine W_bind fun z10 hz => ?_
        refine w_after (cells1 := 0) (slots1 := 0) (w_runV E kV_R_257 kc_X12_of (t_R_of l hfl G on ((z5 + z6) - z4) 3 M z8.2 ((fun z => (.inl (some (.int z)), M, z8.2)) z10) (by rw [hz]; rfl)) ⟨Nat.le_of_ble_eq_true rfl, Nat.le_of_ble_eq_true rfl⟩ hw (w_recvR E hw on) rfl hl.1 rfl (Nat.le_of_ble_eq_true rfl) dX12_byRule_75 ⟨Nat.le_of_ble_eq_true rfl, Nat.le_of_ble_eq_true rfl⟩) hw rfl (Nat.le_of_ble_eq_true rfl) (Nat.le_of_ble_eq_true rfl) (fun H locs hw => ?_)
        refine W.eq (g2 := F0 m 78 ls [.int z10, .int 100, .int z9, .int x2]) rfl ?_
        have hw : w_W G M z8.2 s H locs := hw
        refine lv_isub hx hb dX12_byRule_78 ?_
        refine lv_imul hx hb dX12_byRule_79 ?_
        refine lv_iadd hx hb dX12_byRule_80 ?_
        refine lv_istore_n (lv' := [(2, .int (x2 + (z9 * (100 - z10)))), (5, .int ((z5 + z6) - z4)), (4, .int z4), (0, .ref (g_r G)), (1, .int a0), (3, .int x3)]) hx hb dX12_byRule_81 rfl hl (by decide) rfl (fun ls hl => ?_)
        refine lv_iinc (v := x3 + 1) (lv' := [(3, .int (x3 + 1)), (2, .int (x2 + (z9 * (100 - z10)))), (5, .int ((z5 + z6) - z4)), (4, .int z4), (0, .ref (g_r G)), (1, .int a0)]) hx hb dX12_byRule_82 hl (k := 5) rfl rfl (by decide) rfl (fun ls hl => ?_)
        refine lv_goto (tgt := 4) hx hb dX12_byRule_85 (by decide) ?_
        exact ih (x2 + (z9 * (100 - z10))) (x3 + 1) z8.2 _ _ _ hw (lv_sub hl [4, 5, 1, 0] rfl)
  unfold f_R_byRule
  refine lv_iconst (v := 0) hx hb dX12_byRule_0 (by decide) ?_
  refine lv_istore_n (lv' := [(2, .int 0), (0, .ref (g_r G)), (1, .int a0)]) hx hb dX12_byRule_1 rfl hl (by decide) rfl (fun ls hl => ?_)
  refine lv_iconst (v := 0) hx hb dX12_byRule_2 (by decide) ?_
  refine lv_istore_n (lv' := [(3, .int 0), (2, .int 0), (0, .ref (g_r G)), (1, .int a0)]) hx hb dX12_byRule_3 rfl hl (by decide) rfl (fun ls hl => ?_)
  exact w4  N 0 0 r _ _ _ hw (lv_sub hl [2, 3, 1, 0] rfl)
set_option maxHeartbeats 4000000 in
set_option maxRecDepth 100000 in
theorem t_R_begins_ (l : Launch) (hfl : l.stackTraces = false) (G : wG) (on : g_on G = true) (N : Nat) (a0 : Int32) (M : Mem) (r : Rho) : Ctr l yX12_begins_ (wWs yX12_begins_ cX12_begins_ 4 (some .int)) rm_R_begins_ rm_R_begins_.cells rm_R_begins_.slots G [.ref (g_r G), .int a0] M r ((f_R_begins_ N a0 r).map (fun z => (.inl (some (.int z.1)), M, z.2))) := by
  refine Ctr.ofF (own := "CheekTownModel") (by decide +kernel) hfl rfl (Nat.le_of_ble_eq_true rfl) (fun p e s m args below meth c E hno hr hnm hw ls hl => ?_)
  obtain ⟨hx, hb, hts, hown, hml, hTT, -⟩ := id E
  have hl : lv_has ls 4 [(0, .ref (g_r G)), (1, .int a0)] := hl
  obtain ⟨H, hH⟩ : ∃ H, H = s.heap := ⟨_, rfl⟩
  obtain ⟨locs, hlo⟩ : ∃ L : List Loc, L = [] := ⟨_, rfl⟩
  rw [← hH, ← hlo]
  rw [← hlo] at hw
  replace hw : w_W G M r s H locs := by rw [hH]; exact hw
  have w42 : ∀ (n : Nat) (x2 : Int32) (x3 : Int32) (r : Rho) (H : Heap) (locs : List Loc) (ls : Array Slot), w_W G M r s H locs → lv_has ls 4 [(0, .ref (g_r G)), (2, .int x2), (3, .int x3)] → W p l e rm_R_begins_ s m args below meth c H locs 0 0 (PQ G below args s rm_R_begins_.cells rm_R_begins_.slots (fun z => (.inl (some (.int z.1)), M, z.2)) (f_R_begins__42 N a0 n x2 x3 r)) (F0 m 42 ls []) := by
    intro n
    induction n with
    | zero => intros; exact W_none
    | succ n ih =>
      intro x2 x3 r H locs ls hw hl
      rw [f_R_begins__42]
      refine lv_iload_n hx hb dX12_begins__42 rfl (lv_at hl 2 rfl) ?_
      refine lv_iconst (v := 3) hx hb dX12_begins__43 (by decide) ?_
      refine cx_icmp_ge (tgt := 68) E dX12_begins__44 (by decide) (fun _ => ?_) (fun _ => ?_)
      · refine lv_iload_n hx hb dX12_begins__68 rfl (lv_at hl 1 rfl) ?_
        exact p_iret E hw hr (Nat.le_of_ble_eq_true rfl) (Nat.le_of_ble_eq_true rfl) rfl dX12_begins__69
      · refine lv_aload_n hx hb dX12_begins__47 rfl (lv_at hl 0 rfl) ?_
        refine lv_iload_n hx hb dX12_begins__48 rfl (lv_at hl 2 rfl) ?_
        refine W_bind fun z3 hz => ?_
        refine w_after (cells1 := 0) (slots1 := 0) (w_runV E kV_R_351 kc_X12_byRule (t_R_byRule l hfl G on N x3 M r ((fun z => (.inl (some (.int z.1)), M, z.2)) z3) (by rw [hz]; rfl)) ⟨Nat.le_of_ble_eq_true rfl, Nat.le_of_ble_eq_true rfl⟩ hw (w_recvR E hw on) rfl hl.1 rfl (Nat.le_of_ble_eq_true rfl) dX12_begins__49 ⟨Nat.le_of_ble_eq_true rfl, Nat.le_of_ble_eq_true rfl⟩) hw rfl (Nat.le_of_ble_eq_true rfl) (Nat.le_of_ble_eq_true rfl) (fun H locs hw => ?_)
        refine W.eq (g2 := F0 m 52 ls [.int z3.1]) rfl ?_
        have hw : w_W G M z3.2 s H locs := hw
        refine lv_aload_n hx hb dX12_begins__52 rfl (lv_at hl 0 rfl) ?_
        refine lv_iload_n hx hb dX12_begins__53 rfl (lv_at hl 1 rfl) ?_
        refine W_bind fun z4 hz => ?_
        refine w_after (cells1 := 0) (slots1 := 0) (w_runV E kV_R_351 kc_X12_byRule (t_R_byRule l hfl G on N x2 M z3.2 ((fun z => (.inl (some (.int z.1)), M, z.2)) z4) (by rw [hz]; rfl)) ⟨Nat.le_of_ble_eq_true rfl, Nat.le_of_ble_eq_true rfl⟩ hw (w_recvR E hw on) rfl hl.1 rfl (Nat.le_of_ble_eq_true rfl) dX12_begins__54 ⟨Nat.le_of_ble_eq_true rfl, Nat.le_of_ble_eq_true rfl⟩) hw rfl (Nat.le_of_ble_eq_true rfl) (Nat.le_of_ble_eq_true rfl) (fun H locs hw => ?_)
        refine W.eq (g2 := F0 m 57 ls [.int z4.1, .int z3.1]) rfl ?_
        have hw : w_W G M z4.2 s H locs := hw
        refine cx_icmp_ge (tgt := 62) E dX12_begins__57 (by decide) (fun _ => ?_) (fun _ => ?_)
        · refine lv_iinc (v := x3 + 1) (lv' := [(3, .int (x3 + 1)), (0, .ref (g_r G)), (2, .int x2)]) hx hb dX12_begins__62 hl (k := 2) rfl rfl (by decide) rfl (fun ls hl => ?_)
          refine lv_goto (tgt := 42) hx hb dX12_begins__65 (by decide) ?_
          exact ih x2 (x3 + 1) z4.2 _ _ _ hw (lv_sub hl [1, 2, 0] rfl)
        · refine lv_iload_n hx hb dX12_begins__60 rfl (lv_at hl 2 rfl) ?_
          refine lv_istore_n (lv' := [(2, .int x3), (0, .ref (g_r G)), (3, .int x3)]) hx hb dX12_begins__61 rfl hl (by decide) rfl (fun ls hl => ?_)
          refine lv_iinc (v := x3 + 1) (lv' := [(3, .int (x3 + 1)), (2, .int x3), (0, .ref (g_r G))]) hx hb dX12_begins__62 hl (k := 2) rfl rfl (by decide) rfl (fun ls hl => ?_)
          refine lv_goto (tgt := 42) hx hb dX12_begins__65 (by decide) ?_
          exact ih x3 (x3 + 1) z4.2 _ _ _ hw (lv_sub hl [2, 1, 0] rfl)
  have w15 : ∀ (y1 : Int32) (r : Rho) (H : Heap) (locs : List Loc) (ls : Array Slot), w_W G M r s H locs → lv_has ls 4 [(0, .ref (g_r G)), (1, .int a0)] → W p l e rm_R_begins_ s m args below meth c H locs 0 0 (PQ G below args s rm_R_begins_.cells rm_R_begins_.slots (fun z => (.inl (some (.int z.1)), M, z.2)) (f_R_begins__15 N a0 y1 r)) (F0 m 15 ls [.int y1, .ref (g_r G)]) := by
    intro y1 r H locs ls hw hl
    unfold f_R_begins__15
    refine rx_putI E hw on kF_R_56_11 (by decide) kT_11_0 dX12_begins__15 (fun H locs hw => ?_)
    refine lv_aload_n hx hb dX12_begins__18 rfl (lv_at hl 0 rfl) ?_
    refine rx_getI E hw on kF_R_56_11 (by decide) dX12_begins__19 ?_
    refine cx_if_le (tgt := 27) E dX12_begins__22 (by decide) (fun _ => ?_) (fun _ => ?_)
    · refine lv_iload_n hx hb dX12_begins__27 rfl (lv_at hl 1 rfl) ?_
      refine lv_iconst (v := (-1)) hx hb dX12_begins__28 (by decide) ?_
      refine cx_icmp_eq (tgt := 38) E dX12_begins__29 (by decide) (fun _ => ?_) (fun _ => ?_)
      · refine lv_iconst (v := 0) hx hb dX12_begins__38 (by decide) ?_
        refine lv_istore_n (lv' := [(2, .int 0), (0, .ref (g_r G)), (1, .int a0)]) hx hb dX12_begins__39 rfl hl (by decide) rfl (fun ls hl => ?_)
        refine lv_iconst (v := 1) hx hb dX12_begins__40 (by decide) ?_
        refine lv_istore_n (lv' := [(3, .int 1), (2, .int 0), (0, .ref (g_r G)), (1, .int a0)]) hx hb dX12_begins__41 rfl hl (by decide) rfl (fun ls hl => ?_)
        exact w42  N 0 1 (r_set r 0 y1) _ _ _ hw (lv_sub hl [2, 1, 0] rfl)
      · refine lv_aload_n hx hb dX12_begins__32 rfl (lv_at hl 0 rfl) ?_
        refine lv_iload_n hx hb dX12_begins__33 rfl (lv_at hl 1 rfl) ?_
        refine W_bind fun z2 hz => ?_
        refine w_after (cells1 := 0) (slots1 := 0) (w_runV E kV_R_351 kc_X12_byRule (t_R_byRule l hfl G on N a0 M (r_set r 0 y1) ((fun z => (.inl (some (.int z.1)), M, z.2)) z2) (by rw [hz]; rfl)) ⟨Nat.le_of_ble_eq_true rfl, Nat.le_of_ble_eq_true rfl⟩ hw (w_recvR E hw on) rfl hl.1 rfl (Nat.le_of_ble_eq_true rfl) dX12_begins__34 ⟨Nat.le_of_ble_eq_true rfl, Nat.le_of_ble_eq_true rfl⟩) hw rfl (Nat.le_of_ble_eq_true rfl) (Nat.le_of_ble_eq_true rfl) (fun H locs hw => ?_)
        refine W.eq (g2 := F0 m 37 ls [.int z2.1]) rfl ?_
        have hw : w_W G M z2.2 s H locs := hw
        exact p_iret E hw hr (Nat.le_of_ble_eq_true rfl) (Nat.le_of_ble_eq_true rfl) rfl dX12_begins__37
    · refine lv_iconst (v := 0) hx hb dX12_begins__25 (by decide) ?_
      exact p_iret E hw hr (Nat.le_of_ble_eq_true rfl) (Nat.le_of_ble_eq_true rfl) rfl dX12_begins__26
  unfold f_R_begins_
  refine lv_aload_n hx hb dX12_begins__0 rfl (lv_at hl 0 rfl) ?_
  refine lv_iload_n hx hb dX12_begins__1 rfl (lv_at hl 1 rfl) ?_
  refine lv_iconst (v := (-1)) hx hb dX12_begins__2 (by decide) ?_
  refine lv_iconst (v := 2) hx hb dX12_begins__3 (by decide) ?_
  refine W_bind fun z1 hz => ?_
  refine w_after (cells1 := 0) (slots1 := 0) (w_runS E kS_R_59 kc_X12_isIn (t_R_isIn l hfl G a0 (-1) 2 M r ((fun z => (.inl (some (.int z)), M, r)) z1) (by rw [hz]; rfl)) ⟨Nat.le_of_ble_eq_true rfl, Nat.le_of_ble_eq_true rfl⟩ hw rfl hl.1 rfl (Nat.le_of_ble_eq_true rfl) dX12_begins__4 ⟨Nat.le_of_ble_eq_true rfl, Nat.le_of_ble_eq_true rfl⟩) hw rfl (Nat.le_of_ble_eq_true rfl) (Nat.le_of_ble_eq_true rfl) (fun H locs hw => ?_)
  refine W.eq (g2 := F0 m 7 ls [.int z1, .ref (g_r G)]) rfl ?_
  have hw : w_W G M r s H locs := hw
  refine cx_if_ne (tgt := 14) E dX12_begins__7 (by decide) (fun _ => ?_) (fun _ => ?_)
  · refine lv_iconst (v := 0) hx hb dX12_begins__14 (by decide) ?_
    exact w15  0 r _ _ _ hw (lv_sub hl [0, 1] rfl)
  · refine lv_iconst (v := 1) hx hb dX12_begins__10 (by decide) ?_
    refine lv_goto (tgt := 15) hx hb dX12_begins__11 (by decide) ?_
    exact w15  1 r _ _ _ hw (lv_sub hl [0, 1] rfl)
set_option maxHeartbeats 4000000 in
set_option maxRecDepth 100000 in
theorem t_R_starts (l : Launch) (hfl : l.stackTraces = false) (G : wG) (on : g_on G = true) (N : Nat) (a0 : Int32) (a1 : Int32) (M : Mem) (r : Rho) : Ctr l yX12_starts (wWs yX12_starts cX12_starts 4 none) rm_R_starts rm_R_starts.cells rm_R_starts.slots G [.ref (g_r G), .int a0, .int a1] M r ((f_R_starts N a0 a1 r).map (fun z => (.inl none, M, z))) := by
  refine Ctr.ofF (own := "CheekTownModel") (by decide +kernel) hfl rfl (Nat.le_of_ble_eq_true rfl) (fun p e s m args below meth c E hno hr hnm hw ls hl => ?_)
  obtain ⟨hx, hb, hts, hown, hml, hTT, -⟩ := id E
  have hl : lv_has ls 4 [(0, .ref (g_r G)), (1, .int a0), (2, .int a1)] := hl
  obtain ⟨H, hH⟩ : ∃ H, H = s.heap := ⟨_, rfl⟩
  obtain ⟨locs, hlo⟩ : ∃ L : List Loc, L = [] := ⟨_, rfl⟩
  rw [← hH, ← hlo]
  rw [← hlo] at hw
  replace hw : w_W G M r s H locs := by rw [hH]; exact hw
  have w35 : ∀ (k2 : Int32 → Rho → Option (Rho)) (hk2 : ∀ (x3 : Int32) (r : Rho) (H : Heap) (locs : List Loc) (ls : Array Slot), w_W G M r s H locs → lv_has ls 4 [(0, .ref (g_r G)), (1, .int a0), (2, .int a1), (3, .int x3)] → W p l e rm_R_starts s m args below meth c H locs 0 0 (PQ G below args s rm_R_starts.cells rm_R_starts.slots (fun z => (.inl none, M, z)) (k2 x3 r)) (F0 m 2 ls [])) (x3 : Int32) (y1 : Int32) (y2 : Int32) (r : Rho) (H : Heap) (locs : List Loc) (ls : Array Slot), w_W G M r s H locs → lv_has ls 4 [(0, .ref (g_r G)), (1, .int a0), (2, .int a1), (3, .int x3)] → W p l e rm_R_starts s m args below meth c H locs 0 0 (PQ G below args s rm_R_starts.cells rm_R_starts.slots (fun z => (.inl none, M, z)) (f_R_starts_35 N a0 a1 k2 x3 y1 y2 r)) (F0 m 35 ls [.int y2, .int y1, .ref (g_r G + r_off 18)]) := by
    intro k2 hk2 x3 y1 y2 r H locs ls hw hl
    unfold f_R_starts_35
    refine rx_iast E hw on (by decide) dX12_starts_35 (fun r4 H locs hw => ?_)
    refine lv_aload_n hx hb dX12_starts_36 rfl (lv_at hl 0 rfl) ?_
    refine rx_getA E hw on kF_R_38_11 (by decide) dX12_starts_37 ?_
    refine lv_iload_n hx hb dX12_starts_40 rfl (lv_at hl 3 rfl) ?_
    refine lv_aload_n hx hb dX12_starts_41 rfl (lv_at hl 0 rfl) ?_
    refine lv_iload_n hx hb dX12_starts_42 rfl (lv_at hl 3 rfl) ?_
    refine W_bind fun z5 hz => ?_
    refine w_after (cells1 := 0) (slots1 := 0) (w_runV E kV_R_274 kc_X12_tiedTo (t_R_tiedTo l hfl G on N x3 M r4 ((fun z => (.inl (some (.int z)), M, r4)) z5) (by rw [hz]; rfl)) ⟨Nat.le_of_ble_eq_true rfl, Nat.le_of_ble_eq_true rfl⟩ hw (w_recvR E hw on) rfl hl.1 rfl (Nat.le_of_ble_eq_true rfl) dX12_starts_43 ⟨Nat.le_of_ble_eq_true rfl, Nat.le_of_ble_eq_true rfl⟩) hw rfl (Nat.le_of_ble_eq_true rfl) (Nat.le_of_ble_eq_true rfl) (fun H locs hw => ?_)
    refine W.eq (g2 := F0 m 46 ls [.int z5, .int x3, .ref (g_r G + r_off 20)]) rfl ?_
    have hw : w_W G M r4 s H locs := hw
    refine lv_iconst (v := 1) hx hb dX12_starts_46 (by decide) ?_
    refine lv_iload_n hx hb dX12_starts_47 rfl (lv_at hl 3 rfl) ?_
    refine lv_ishl hx hb dX12_starts_48 ?_
    refine lv_ior hx hb dX12_starts_49 ?_
    refine rx_iast E hw on (by decide) dX12_starts_50 (fun r6 H locs hw => ?_)
    refine lv_iinc (v := x3 + 1) (lv' := [(3, .int (x3 + 1)), (0, .ref (g_r G)), (1, .int a0), (2, .int a1)]) hx hb dX12_starts_51 hl (k := 3) rfl rfl (by decide) rfl (fun ls hl => ?_)
    refine lv_goto (tgt := 2) hx hb dX12_starts_54 (by decide) ?_
    exact hk2 (x3 + 1) r6 _ _ _ hw (lv_sub hl [1, 2, 3, 0] rfl)
  have w2 : ∀ (n : Nat) (x3 : Int32) (r : Rho) (H : Heap) (locs : List Loc) (ls : Array Slot), w_W G M r s H locs → lv_has ls 4 [(0, .ref (g_r G)), (1, .int a0), (2, .int a1), (3, .int x3)] → W p l e rm_R_starts s m args below meth c H locs 0 0 (PQ G below args s rm_R_starts.cells rm_R_starts.slots (fun z => (.inl none, M, z)) (f_R_starts_2 N a0 a1 n x3 r)) (F0 m 2 ls []) := by
    intro n
    induction n with
    | zero => intros; exact W_none
    | succ n ih =>
      intro x3 r H locs ls hw hl
      rw [f_R_starts_2]
      refine lv_iload_n hx hb dX12_starts_2 rfl (lv_at hl 3 rfl) ?_
      refine lv_aload_n hx hb dX12_starts_3 rfl (lv_at hl 0 rfl) ?_
      refine rx_getA E hw on kF_R_7_11 (by decide) dX12_starts_4 ?_
      refine lv_iconst (v := 5) hx hb dX12_starts_7 (by decide) ?_
      refine rx_iald E hw on (by decide) dX12_starts_8 (fun v1 => ?_)
      refine cx_icmp_ge (tgt := 57) E dX12_starts_9 (by decide) (fun _ => ?_) (fun _ => ?_)
      · exact p_vret E hw hr (Nat.le_of_ble_eq_true rfl) (Nat.le_of_ble_eq_true rfl) rfl dX12_starts_57
      · refine lv_aload_n hx hb dX12_starts_12 rfl (lv_at hl 0 rfl) ?_
        refine rx_getA E hw on kF_R_32_11 (by decide) dX12_starts_13 ?_
        refine lv_iload_n hx hb dX12_starts_16 rfl (lv_at hl 3 rfl) ?_
        refine lv_iload_n hx hb dX12_starts_17 rfl (lv_at hl 1 rfl) ?_
        refine lv_iload_n hx hb dX12_starts_18 rfl (lv_at hl 3 rfl) ?_
        refine W_bind fun z2 hz => ?_
        refine w_after (cells1 := 0) (slots1 := 0) (w_runS E kS_R_305 kc_X12_isOf (t_R_isOf l hfl G a0 x3 M r ((fun z => (.inl (some (.int z)), M, r)) z2) (by rw [hz]; rfl)) ⟨Nat.le_of_ble_eq_true rfl, Nat.le_of_ble_eq_true rfl⟩ hw rfl hl.1 rfl (Nat.le_of_ble_eq_true rfl) dX12_starts_19 ⟨Nat.le_of_ble_eq_true rfl, Nat.le_of_ble_eq_true rfl⟩) hw rfl (Nat.le_of_ble_eq_true rfl) (Nat.le_of_ble_eq_true rfl) (fun H locs hw => ?_)
        refine W.eq (g2 := F0 m 22 ls [.int z2, .int x3, .ref (g_r G + r_off 18)]) rfl ?_
        have hw : w_W G M r s H locs := hw
        refine cx_if_eq (tgt := 29) E dX12_starts_22 (by decide) (fun _ => ?_) (fun _ => ?_)
        · refine lv_aload_n hx hb dX12_starts_29 rfl (lv_at hl 0 rfl) ?_
          refine lv_iload_n hx hb dX12_starts_30 rfl (lv_at hl 3 rfl) ?_
          refine lv_iconst (v := 1) hx hb dX12_starts_31 (by decide) ?_
          refine W_bind fun z3 hz => ?_
          refine w_after (cells1 := 0) (slots1 := 0) (w_runV E kV_R_257 kc_X12_of (t_R_of l hfl G on x3 1 M r ((fun z => (.inl (some (.int z)), M, r)) z3) (by rw [hz]; rfl)) ⟨Nat.le_of_ble_eq_true rfl, Nat.le_of_ble_eq_true rfl⟩ hw (w_recvR E hw on) rfl hl.1 rfl (Nat.le_of_ble_eq_true rfl) dX12_starts_32 ⟨Nat.le_of_ble_eq_true rfl, Nat.le_of_ble_eq_true rfl⟩) hw rfl (Nat.le_of_ble_eq_true rfl) (Nat.le_of_ble_eq_true rfl) (fun H locs hw => ?_)
          refine W.eq (g2 := F0 m 35 ls [.int z3, .int x3, .ref (g_r G + r_off 18)]) rfl ?_
          have hw : w_W G M r s H locs := hw
          exact w35 (f_R_starts_2 N a0 a1 n) ih x3 x3 z3 r _ _ _ hw (lv_sub hl [0, 1, 2, 3] rfl)
        · refine lv_iload_n hx hb dX12_starts_25 rfl (lv_at hl 2 rfl) ?_
          refine lv_goto (tgt := 35) hx hb dX12_starts_26 (by decide) ?_
          exact w35 (f_R_starts_2 N a0 a1 n) ih x3 x3 a1 r _ _ _ hw (lv_sub hl [0, 1, 2, 3] rfl)
  unfold f_R_starts
  refine lv_iconst (v := 0) hx hb dX12_starts_0 (by decide) ?_
  refine lv_istore_n (lv' := [(3, .int 0), (0, .ref (g_r G)), (1, .int a0), (2, .int a1)]) hx hb dX12_starts_1 rfl hl (by decide) rfl (fun ls hl => ?_)
  exact w2  N 0 r _ _ _ hw (lv_sub hl [1, 2, 3, 0] rfl)
set_option maxHeartbeats 4000000 in
set_option maxRecDepth 100000 in
theorem t_R_takes (l : Launch) (hfl : l.stackTraces = false) (G : wG) (on : g_on G = true) (N : Nat) (a0 : Int32) (M : Mem) (r : Rho) : Ctr l yX12_takes (wWs yX12_takes cX12_takes 4 (some .int)) rm_R_takes rm_R_takes.cells rm_R_takes.slots G [.ref (g_r G), .int a0] M r ((f_R_takes N a0 r).map (fun z => (.inl (some (.int z.1)), M, z.2))) := by
  refine Ctr.ofF (own := "CheekTownModel") (by decide +kernel) hfl rfl (Nat.le_of_ble_eq_true rfl) (fun p e s m args below meth c E hno hr hnm hw ls hl => ?_)
  obtain ⟨hx, hb, hts, hown, hml, hTT, -⟩ := id E
  have hl : lv_has ls 4 [(0, .ref (g_r G)), (1, .int a0)] := hl
  obtain ⟨H, hH⟩ : ∃ H, H = s.heap := ⟨_, rfl⟩
  obtain ⟨locs, hlo⟩ : ∃ L : List Loc, L = [] := ⟨_, rfl⟩
  rw [← hH, ← hlo]
  rw [← hlo] at hw
  replace hw : w_W G M r s H locs := by rw [hH]; exact hw
  have w72 : ∀ (n : Nat) (x2 : Int32) (x3 : Int32) (r : Rho) (H : Heap) (locs : List Loc) (ls : Array Slot), w_W G M r s H locs → lv_has ls 4 [(0, .ref (g_r G)), (2, .int x2), (3, .int x3)] → W p l e rm_R_takes s m args below meth c H locs 0 0 (PQ G below args s rm_R_takes.cells rm_R_takes.slots (fun z => (.inl (some (.int z.1)), M, z.2)) (f_R_takes_72 N a0 n x2 x3 r)) (F0 m 72 ls []) := by
    intro n
    induction n with
    | zero => intros; exact W_none
    | succ n ih =>
      intro x2 x3 r H locs ls hw hl
      rw [f_R_takes_72]
      refine lv_iload_n hx hb dX12_takes_72 rfl (lv_at hl 2 rfl) ?_
      refine lv_bipush (v := 32) hx hb dX12_takes_73 (by decide) ?_
      refine cx_icmp_ge (tgt := 101) E dX12_takes_75 (by decide) (fun _ => ?_) (fun _ => ?_)
      · refine lv_iload_n hx hb dX12_takes_101 rfl (lv_at hl 1 rfl) ?_
        exact p_iret E hw hr (Nat.le_of_ble_eq_true rfl) (Nat.le_of_ble_eq_true rfl) rfl dX12_takes_102
      · refine lv_aload_n hx hb dX12_takes_78 rfl (lv_at hl 0 rfl) ?_
        refine rx_getA E hw on kF_R_41_11 (by decide) dX12_takes_79 ?_
        refine lv_iload_n hx hb dX12_takes_82 rfl (lv_at hl 2 rfl) ?_
        refine rx_iald E hw on (by decide) dX12_takes_83 (fun v8 => ?_)
        refine lv_aload_n hx hb dX12_takes_84 rfl (lv_at hl 0 rfl) ?_
        refine rx_getA E hw on kF_R_41_11 (by decide) dX12_takes_85 ?_
        refine lv_iload_n hx hb dX12_takes_88 rfl (lv_at hl 1 rfl) ?_
        refine rx_iald E hw on (by decide) dX12_takes_89 (fun v9 => ?_)
        refine cx_icmp_le (tgt := 95) E dX12_takes_90 (by decide) (fun _ => ?_) (fun _ => ?_)
        · refine lv_iinc (v := x3 + 1) (lv' := [(3, .int (x3 + 1)), (0, .ref (g_r G)), (2, .int x2)]) hx hb dX12_takes_95 hl (k := 2) rfl rfl (by decide) rfl (fun ls hl => ?_)
          refine lv_goto (tgt := 72) hx hb dX12_takes_98 (by decide) ?_
          exact ih x2 (x3 + 1) r _ _ _ hw (lv_sub hl [1, 2, 0] rfl)
        · refine lv_iload_n hx hb dX12_takes_93 rfl (lv_at hl 2 rfl) ?_
          refine lv_istore_n (lv' := [(2, .int x3), (0, .ref (g_r G)), (3, .int x3)]) hx hb dX12_takes_94 rfl hl (by decide) rfl (fun ls hl => ?_)
          refine lv_iinc (v := x3 + 1) (lv' := [(3, .int (x3 + 1)), (2, .int x3), (0, .ref (g_r G))]) hx hb dX12_takes_95 hl (k := 2) rfl rfl (by decide) rfl (fun ls hl => ?_)
          refine lv_goto (tgt := 72) hx hb dX12_takes_98 (by decide) ?_
          exact ih x3 (x3 + 1) r _ _ _ hw (lv_sub hl [2, 1, 0] rfl)
  have w23 : ∀ (n : Nat) (x2 : Int32) (r : Rho) (H : Heap) (locs : List Loc) (ls : Array Slot), w_W G M r s H locs → lv_has ls 4 [(0, .ref (g_r G)), (1, .int a0), (2, .int x2)] → W p l e rm_R_takes s m args below meth c H locs 0 0 (PQ G below args s rm_R_takes.cells rm_R_takes.slots (fun z => (.inl (some (.int z.1)), M, z.2)) (f_R_takes_23 N a0 n x2 r)) (F0 m 23 ls []) := by
    intro n
    induction n with
    | zero => intros; exact W_none
    | succ n ih =>
      intro x2 r H locs ls hw hl
      rw [f_R_takes_23]
      refine lv_iload_n hx hb dX12_takes_23 rfl (lv_at hl 2 rfl) ?_
      refine lv_aload_n hx hb dX12_takes_24 rfl (lv_at hl 0 rfl) ?_
      refine rx_getA E hw on kF_R_7_11 (by decide) dX12_takes_25 ?_
      refine lv_iconst (v := 5) hx hb dX12_takes_28 (by decide) ?_
      refine rx_iald E hw on (by decide) dX12_takes_29 (fun v2 => ?_)
      refine cx_icmp_ge (tgt := 63) E dX12_takes_30 (by decide) (fun _ => ?_) (fun _ => ?_)
      · refine lv_aload_n hx hb dX12_takes_63 rfl (lv_at hl 0 rfl) ?_
        refine rx_getA E hw on kF_R_32_11 (by decide) dX12_takes_64 ?_
        refine lv_iload_n hx hb dX12_takes_67 rfl (lv_at hl 1 rfl) ?_
        refine rx_iald E hw on (by decide) dX12_takes_68 (fun v3 => ?_)
        refine lv_istore_n (lv' := [(2, .int v3), (0, .ref (g_r G)), (1, .int a0)]) hx hb dX12_takes_69 rfl hl (by decide) rfl (fun ls hl => ?_)
        refine lv_iconst (v := 0) hx hb dX12_takes_70 (by decide) ?_
        refine lv_istore_n (lv' := [(3, .int 0), (2, .int v3), (0, .ref (g_r G)), (1, .int a0)]) hx hb dX12_takes_71 rfl hl (by decide) rfl (fun ls hl => ?_)
        exact w72  N v3 0 r _ _ _ hw (lv_sub hl [2, 1, 0] rfl)
      · refine lv_aload_n hx hb dX12_takes_33 rfl (lv_at hl 0 rfl) ?_
        refine rx_getA E hw on kF_R_41_11 (by decide) dX12_takes_34 ?_
        refine lv_aload_n hx hb dX12_takes_37 rfl (lv_at hl 0 rfl) ?_
        refine rx_getA E hw on kF_R_32_11 (by decide) dX12_takes_38 ?_
        refine lv_iload_n hx hb dX12_takes_41 rfl (lv_at hl 2 rfl) ?_
        refine rx_iald E hw on (by decide) dX12_takes_42 (fun v4 => ?_)
        refine lv_dup2_11 hx hb dX12_takes_43 rfl rfl ?_
        refine rx_iald E hw on (by decide) dX12_takes_44 (fun v5 => ?_)
        refine lv_aload_n hx hb dX12_takes_45 rfl (lv_at hl 0 rfl) ?_
        refine rx_getA E hw on kF_R_38_11 (by decide) dX12_takes_46 ?_
        refine lv_iload_n hx hb dX12_takes_49 rfl (lv_at hl 1 rfl) ?_
        refine rx_iald E hw on (by decide) dX12_takes_50 (fun v6 => ?_)
        refine lv_iload_n hx hb dX12_takes_51 rfl (lv_at hl 2 rfl) ?_
        refine lv_ishr hx hb dX12_takes_52 ?_
        refine lv_iconst (v := 1) hx hb dX12_takes_53 (by decide) ?_
        refine lv_iand hx hb dX12_takes_54 ?_
        refine lv_iadd hx hb dX12_takes_55 ?_
        refine rx_iast E hw on (by decide) dX12_takes_56 (fun r7 H locs hw => ?_)
        refine lv_iinc (v := x2 + 1) (lv' := [(2, .int (x2 + 1)), (0, .ref (g_r G)), (1, .int a0)]) hx hb dX12_takes_57 hl (k := 2) rfl rfl (by decide) rfl (fun ls hl => ?_)
        refine lv_goto (tgt := 23) hx hb dX12_takes_60 (by decide) ?_
        exact ih (x2 + 1) r7 _ _ _ hw (lv_sub hl [1, 2, 0] rfl)
  have w2 : ∀ (n : Nat) (x2 : Int32) (r : Rho) (H : Heap) (locs : List Loc) (ls : Array Slot), w_W G M r s H locs → lv_has ls 4 [(0, .ref (g_r G)), (1, .int a0), (2, .int x2)] → W p l e rm_R_takes s m args below meth c H locs 0 0 (PQ G below args s rm_R_takes.cells rm_R_takes.slots (fun z => (.inl (some (.int z.1)), M, z.2)) (f_R_takes_2 N a0 n x2 r)) (F0 m 2 ls []) := by
    intro n
    induction n with
    | zero => intros; exact W_none
    | succ n ih =>
      intro x2 r H locs ls hw hl
      rw [f_R_takes_2]
      refine lv_iload_n hx hb dX12_takes_2 rfl (lv_at hl 2 rfl) ?_
      refine lv_bipush (v := 32) hx hb dX12_takes_3 (by decide) ?_
      refine cx_icmp_ge (tgt := 21) E dX12_takes_5 (by decide) (fun _ => ?_) (fun _ => ?_)
      · refine lv_iconst (v := 0) hx hb dX12_takes_21 (by decide) ?_
        refine lv_istore_n (lv' := [(2, .int 0), (0, .ref (g_r G)), (1, .int a0)]) hx hb dX12_takes_22 rfl hl (by decide) rfl (fun ls hl => ?_)
        exact w23  N 0 r _ _ _ hw (lv_sub hl [1, 2, 0] rfl)
      · refine lv_aload_n hx hb dX12_takes_8 rfl (lv_at hl 0 rfl) ?_
        refine rx_getA E hw on kF_R_41_11 (by decide) dX12_takes_9 ?_
        refine lv_iload_n hx hb dX12_takes_12 rfl (lv_at hl 2 rfl) ?_
        refine lv_iconst (v := 0) hx hb dX12_takes_13 (by decide) ?_
        refine rx_iast E hw on (by decide) dX12_takes_14 (fun r1 H locs hw => ?_)
        refine lv_iinc (v := x2 + 1) (lv' := [(2, .int (x2 + 1)), (0, .ref (g_r G)), (1, .int a0)]) hx hb dX12_takes_15 hl (k := 2) rfl rfl (by decide) rfl (fun ls hl => ?_)
        refine lv_goto (tgt := 2) hx hb dX12_takes_18 (by decide) ?_
        exact ih (x2 + 1) r1 _ _ _ hw (lv_sub hl [1, 2, 0] rfl)
  unfold f_R_takes
  refine lv_iconst (v := 0) hx hb dX12_takes_0 (by decide) ?_
  refine lv_istore_n (lv' := [(2, .int 0), (0, .ref (g_r G)), (1, .int a0)]) hx hb dX12_takes_1 rfl hl (by decide) rfl (fun ls hl => ?_)
  exact w2  N 0 r _ _ _ hw (lv_sub hl [1, 2, 0] rfl)
set_option maxHeartbeats 4000000 in
set_option maxRecDepth 100000 in
theorem t_R_year (l : Launch) (hfl : l.stackTraces = false) (G : wG) (on : g_on G = true) (N : Nat) (M : Mem) (r : Rho) : Ctr l yX12_year (wWs yX12_year cX12_year 3 (some .boolean)) rm_R_year rm_R_year.cells rm_R_year.slots G [.ref (g_r G)] M r ((f_R_year N r).map (fun z => (.inl (some (.int z.1)), M, z.2))) := by
  refine Ctr.ofF (own := "CheekTownModel") (by decide +kernel) hfl rfl (Nat.le_of_ble_eq_true rfl) (fun p e s m args below meth c E hno hr hnm hw ls hl => ?_)
  obtain ⟨hx, hb, hts, hown, hml, hTT, -⟩ := id E
  have hl : lv_has ls 3 [(0, .ref (g_r G))] := hl
  obtain ⟨H, hH⟩ : ∃ H, H = s.heap := ⟨_, rfl⟩
  obtain ⟨locs, hlo⟩ : ∃ L : List Loc, L = [] := ⟨_, rfl⟩
  rw [← hH, ← hlo]
  rw [← hlo] at hw
  replace hw : w_W G M r s H locs := by rw [hH]; exact hw
  have w67 : ∀ (k33 : Int32 → Int32 → Rho → Option (Int32 × Rho)) (hk33 : ∀ (x1 : Int32) (x2 : Int32) (r : Rho) (H : Heap) (locs : List Loc) (ls : Array Slot), w_W G M r s H locs → lv_has ls 3 [(0, .ref (g_r G)), (1, .int x1), (2, .int x2)] → W p l e rm_R_year s m args below meth c H locs 0 0 (PQ G below args s rm_R_year.cells rm_R_year.slots (fun z => (.inl (some (.int z.1)), M, z.2)) (k33 x1 x2 r)) (F0 m 33 ls [])) (x2 : Int32) (y0 : Int32) (r : Rho) (H : Heap) (locs : List Loc) (ls : Array Slot), w_W G M r s H locs → lv_has ls 3 [(0, .ref (g_r G)), (2, .int x2)] → W p l e rm_R_year s m args below meth c H locs 0 0 (PQ G below args s rm_R_year.cells rm_R_year.slots (fun z => (.inl (some (.int z.1)), M, z.2)) (f_R_year_67 N k33 x2 y0 r)) (F0 m 67 ls [.int y0]) := by
    intro k33 hk33 x2 y0 r H locs ls hw hl
    unfold f_R_year_67
    refine lv_istore_n (lv' := [(1, .int y0), (0, .ref (g_r G)), (2, .int x2)]) hx hb dX12_year_67 rfl hl (by decide) rfl (fun ls hl => ?_)
    refine lv_aload_n hx hb dX12_year_68 rfl (lv_at hl 1 rfl) ?_
    refine rx_getA E hw on kF_R_32_11 (by decide) dX12_year_69 ?_
    refine lv_iload_n hx hb dX12_year_72 rfl (lv_at hl 2 rfl) ?_
    refine lv_aload_n hx hb dX12_year_73 rfl (lv_at hl 1 rfl) ?_
    refine rx_getA E hw on kF_R_35_11 (by decide) dX12_year_74 ?_
    refine lv_iload_n hx hb dX12_year_77 rfl (lv_at hl 2 rfl) ?_
    refine rx_iald E hw on (by decide) dX12_year_78 (fun v8 => ?_)
    refine rx_iast E hw on (by decide) dX12_year_79 (fun r9 H locs hw => ?_)
    refine lv_iinc (v := x2 + 1) (lv' := [(2, .int (x2 + 1)), (1, .int y0), (0, .ref (g_r G))]) hx hb dX12_year_80 hl (k := 2) rfl rfl (by decide) rfl (fun ls hl => ?_)
    refine lv_goto (tgt := 33) hx hb dX12_year_83 (by decide) ?_
    exact hk33 y0 (x2 + 1) r9 _ _ _ hw (lv_sub hl [2, 1, 0] rfl)
  have w62 : ∀ (k33 : Int32 → Int32 → Rho → Option (Int32 × Rho)) (hk33 : ∀ (x1 : Int32) (x2 : Int32) (r : Rho) (H : Heap) (locs : List Loc) (ls : Array Slot), w_W G M r s H locs → lv_has ls 3 [(0, .ref (g_r G)), (1, .int x1), (2, .int x2)] → W p l e rm_R_year s m args below meth c H locs 0 0 (PQ G below args s rm_R_year.cells rm_R_year.slots (fun z => (.inl (some (.int z.1)), M, z.2)) (k33 x1 x2 r)) (F0 m 33 ls [])) (x2 : Int32) (r : Rho) (H : Heap) (locs : List Loc) (ls : Array Slot), w_W G M r s H locs → lv_has ls 3 [(0, .ref (g_r G)), (2, .int x2)] → W p l e rm_R_year s m args below meth c H locs 0 0 (PQ G below args s rm_R_year.cells rm_R_year.slots (fun z => (.inl (some (.int z.1)), M, z.2)) (f_R_year_62 N k33 x2 r)) (F0 m 62 ls []) := by
    intro k33 hk33 x2 r H locs ls hw hl
    unfold f_R_year_62
    refine lv_iconst (v := 1) hx hb dX12_year_62 (by decide) ?_
    refine lv_goto (tgt := 67) hx hb dX12_year_63 (by decide) ?_
    exact w67 k33 hk33 x2 1 r _ _ _ hw (lv_sub hl [0, 1] rfl)
  have w33 : ∀ (n : Nat) (x1 : Int32) (x2 : Int32) (r : Rho) (H : Heap) (locs : List Loc) (ls : Array Slot), w_W G M r s H locs → lv_has ls 3 [(0, .ref (g_r G)), (1, .int x1), (2, .int x2)] → W p l e rm_R_year s m args below meth c H locs 0 0 (PQ G below args s rm_R_year.cells rm_R_year.slots (fun z => (.inl (some (.int z.1)), M, z.2)) (f_R_year_33 N n x1 x2 r)) (F0 m 33 ls []) := by
    intro n
    induction n with
    | zero => intros; exact W_none
    | succ n ih =>
      intro x1 x2 r H locs ls hw hl
      rw [f_R_year_33]
      refine lv_iload_n hx hb dX12_year_33 rfl (lv_at hl 2 rfl) ?_
      refine lv_aload_n hx hb dX12_year_34 rfl (lv_at hl 0 rfl) ?_
      refine rx_getA E hw on kF_R_7_11 (by decide) dX12_year_35 ?_
      refine lv_iconst (v := 5) hx hb dX12_year_38 (by decide) ?_
      refine rx_iald E hw on (by decide) dX12_year_39 (fun v4 => ?_)
      refine cx_icmp_ge (tgt := 86) E dX12_year_40 (by decide) (fun _ => ?_) (fun _ => ?_)
      · refine lv_iload_n hx hb dX12_year_86 rfl (lv_at hl 1 rfl) ?_
        refine W_bind fun z5 hz => ?_
        obtain ⟨rfl, hz0⟩ := zg_ok hz
        exact p_zret E hw hr hz0 (Nat.le_of_ble_eq_true rfl) (Nat.le_of_ble_eq_true rfl) rfl dX12_year_87
      · refine lv_iload_n hx hb dX12_year_43 rfl (lv_at hl 1 rfl) ?_
        refine cx_if_ne (tgt := 62) E dX12_year_44 (by decide) (fun _ => ?_) (fun _ => ?_)
        · exact w62 (f_R_year_33 N n) ih x2 r _ _ _ hw (lv_sub hl [0, 2] rfl)
        · refine lv_aload_n hx hb dX12_year_47 rfl (lv_at hl 0 rfl) ?_
          refine rx_getA E hw on kF_R_32_11 (by decide) dX12_year_48 ?_
          refine lv_iload_n hx hb dX12_year_51 rfl (lv_at hl 2 rfl) ?_
          refine rx_iald E hw on (by decide) dX12_year_52 (fun v6 => ?_)
          refine lv_aload_n hx hb dX12_year_53 rfl (lv_at hl 0 rfl) ?_
          refine rx_getA E hw on kF_R_35_11 (by decide) dX12_year_54 ?_
          refine lv_iload_n hx hb dX12_year_57 rfl (lv_at hl 2 rfl) ?_
          refine rx_iald E hw on (by decide) dX12_year_58 (fun v7 => ?_)
          refine cx_icmp_eq (tgt := 66) E dX12_year_59 (by decide) (fun _ => ?_) (fun _ => ?_)
          · refine lv_iconst (v := 0) hx hb dX12_year_66 (by decide) ?_
            exact w67 (f_R_year_33 N n) ih x2 0 r _ _ _ hw (lv_sub hl [0, 2] rfl)
          · exact w62 (f_R_year_33 N n) ih x2 r _ _ _ hw (lv_sub hl [0, 2] rfl)
  have w4 : ∀ (n : Nat) (x1 : Int32) (x2 : Int32) (r : Rho) (H : Heap) (locs : List Loc) (ls : Array Slot), w_W G M r s H locs → lv_has ls 3 [(0, .ref (g_r G)), (1, .int x1), (2, .int x2)] → W p l e rm_R_year s m args below meth c H locs 0 0 (PQ G below args s rm_R_year.cells rm_R_year.slots (fun z => (.inl (some (.int z.1)), M, z.2)) (f_R_year_4 N n x1 x2 r)) (F0 m 4 ls []) := by
    intro n
    induction n with
    | zero => intros; exact W_none
    | succ n ih =>
      intro x1 x2 r H locs ls hw hl
      rw [f_R_year_4]
      refine lv_iload_n hx hb dX12_year_4 rfl (lv_at hl 2 rfl) ?_
      refine lv_aload_n hx hb dX12_year_5 rfl (lv_at hl 0 rfl) ?_
      refine rx_getA E hw on kF_R_7_11 (by decide) dX12_year_6 ?_
      refine lv_iconst (v := 5) hx hb dX12_year_9 (by decide) ?_
      refine rx_iald E hw on (by decide) dX12_year_10 (fun v1 => ?_)
      refine cx_icmp_ge (tgt := 31) E dX12_year_11 (by decide) (fun _ => ?_) (fun _ => ?_)
      · refine lv_iconst (v := 0) hx hb dX12_year_31 (by decide) ?_
        refine lv_istore_n (lv' := [(2, .int 0), (0, .ref (g_r G)), (1, .int x1)]) hx hb dX12_year_32 rfl hl (by decide) rfl (fun ls hl => ?_)
        exact w33  N x1 0 r _ _ _ hw (lv_sub hl [1, 2, 0] rfl)
      · refine lv_aload_n hx hb dX12_year_14 rfl (lv_at hl 0 rfl) ?_
        refine rx_getA E hw on kF_R_35_11 (by decide) dX12_year_15 ?_
        refine lv_iload_n hx hb dX12_year_18 rfl (lv_at hl 2 rfl) ?_
        refine lv_aload_n hx hb dX12_year_19 rfl (lv_at hl 0 rfl) ?_
        refine lv_iload_n hx hb dX12_year_20 rfl (lv_at hl 2 rfl) ?_
        refine W_bind fun z2 hz => ?_
        refine w_after (cells1 := 0) (slots1 := 0) (w_runV E kV_R_354 kc_X12_takes (t_R_takes l hfl G on N x2 M r ((fun z => (.inl (some (.int z.1)), M, z.2)) z2) (by rw [hz]; rfl)) ⟨Nat.le_of_ble_eq_true rfl, Nat.le_of_ble_eq_true rfl⟩ hw (w_recvR E hw on) rfl hl.1 rfl (Nat.le_of_ble_eq_true rfl) dX12_year_21 ⟨Nat.le_of_ble_eq_true rfl, Nat.le_of_ble_eq_true rfl⟩) hw rfl (Nat.le_of_ble_eq_true rfl) (Nat.le_of_ble_eq_true rfl) (fun H locs hw => ?_)
        refine W.eq (g2 := F0 m 24 ls [.int z2.1, .int x2, .ref (g_r G + r_off 19)]) rfl ?_
        have hw : w_W G M z2.2 s H locs := hw
        refine rx_iast E hw on (by decide) dX12_year_24 (fun r3 H locs hw => ?_)
        refine lv_iinc (v := x2 + 1) (lv' := [(2, .int (x2 + 1)), (0, .ref (g_r G)), (1, .int x1)]) hx hb dX12_year_25 hl (k := 2) rfl rfl (by decide) rfl (fun ls hl => ?_)
        refine lv_goto (tgt := 4) hx hb dX12_year_28 (by decide) ?_
        exact ih x1 (x2 + 1) r3 _ _ _ hw (lv_sub hl [1, 2, 0] rfl)
  unfold f_R_year
  refine lv_iconst (v := 0) hx hb dX12_year_0 (by decide) ?_
  refine lv_istore_n (lv' := [(1, .int 0), (0, .ref (g_r G))]) hx hb dX12_year_1 rfl hl (by decide) rfl (fun ls hl => ?_)
  refine lv_iconst (v := 0) hx hb dX12_year_2 (by decide) ?_
  refine lv_istore_n (lv' := [(2, .int 0), (1, .int 0), (0, .ref (g_r G))]) hx hb dX12_year_3 rfl hl (by decide) rfl (fun ls hl => ?_)
  exact w4  N 0 0 r _ _ _ hw (lv_sub hl [2, 1, 0] rfl)
set_option maxHeartbeats 4000000 in
set_option maxRecDepth 100000 in
theorem t_R_years (l : Launch) (hfl : l.stackTraces = false) (G : wG) (on : g_on G = true) (N : Nat) (a0 : Int32) (M : Mem) (r : Rho) : Ctr l yX12_years (wWs yX12_years cX12_years 4 none) rm_R_years rm_R_years.cells rm_R_years.slots G [.ref (g_r G), .int a0] M r ((f_R_years N a0 r).map (fun z => (.inl none, M, z))) := by
  refine Ctr.ofF (own := "CheekTownModel") (by decide +kernel) hfl rfl (Nat.le_of_ble_eq_true rfl) (fun p e s m args below meth c E hno hr hnm hw ls hl => ?_)
  obtain ⟨hx, hb, hts, hown, hml, hTT, -⟩ := id E
  have hl : lv_has ls 4 [(0, .ref (g_r G)), (1, .int a0)] := hl
  obtain ⟨H, hH⟩ : ∃ H, H = s.heap := ⟨_, rfl⟩
  obtain ⟨locs, hlo⟩ : ∃ L : List Loc, L = [] := ⟨_, rfl⟩
  rw [← hH, ← hlo]
  rw [← hlo] at hw
  replace hw : w_W G M r s H locs := by rw [hH]; exact hw
  have w4 : ∀ (n : Nat) (x2 : Int32) (x3 : Int32) (r : Rho) (H : Heap) (locs : List Loc) (ls : Array Slot), w_W G M r s H locs → lv_has ls 4 [(0, .ref (g_r G)), (1, .int a0), (2, .int x2), (3, .int x3)] → W p l e rm_R_years s m args below meth c H locs 0 0 (PQ G below args s rm_R_years.cells rm_R_years.slots (fun z => (.inl none, M, z)) (f_R_years_4 N a0 n x2 x3 r)) (F0 m 4 ls []) := by
    intro n
    induction n with
    | zero => intros; exact W_none
    | succ n ih =>
      intro x2 x3 r H locs ls hw hl
      rw [f_R_years_4]
      refine lv_iload_n hx hb dX12_years_4 rfl (lv_at hl 3 rfl) ?_
      refine lv_iload_n hx hb dX12_years_5 rfl (lv_at hl 1 rfl) ?_
      refine cx_icmp_ge (tgt := 24) E dX12_years_6 (by decide) (fun _ => ?_) (fun _ => ?_)
      · exact p_vret E hw hr (Nat.le_of_ble_eq_true rfl) (Nat.le_of_ble_eq_true rfl) rfl dX12_years_24
      · refine lv_iload_n hx hb dX12_years_9 rfl (lv_at hl 2 rfl) ?_
        refine cx_if_eq (tgt := 24) E dX12_years_10 (by decide) (fun _ => ?_) (fun _ => ?_)
        · exact p_vret E hw hr (Nat.le_of_ble_eq_true rfl) (Nat.le_of_ble_eq_true rfl) rfl dX12_years_24
        · refine lv_aload_n hx hb dX12_years_13 rfl (lv_at hl 0 rfl) ?_
          refine W_bind fun z1 hz => ?_
          refine w_after (cells1 := 0) (slots1 := 0) (w_runV E kV_R_357 kc_X12_year (t_R_year l hfl G on N M r ((fun z => (.inl (some (.int z.1)), M, z.2)) z1) (by rw [hz]; rfl)) ⟨Nat.le_of_ble_eq_true rfl, Nat.le_of_ble_eq_true rfl⟩ hw (w_recvR E hw on) rfl hl.1 rfl (Nat.le_of_ble_eq_true rfl) dX12_years_14 ⟨Nat.le_of_ble_eq_true rfl, Nat.le_of_ble_eq_true rfl⟩) hw rfl (Nat.le_of_ble_eq_true rfl) (Nat.le_of_ble_eq_true rfl) (fun H locs hw => ?_)
          refine W.eq (g2 := F0 m 17 ls [.int z1.1]) rfl ?_
          have hw : w_W G M z1.2 s H locs := hw
          refine lv_istore_n (lv' := [(2, .int z1.1), (0, .ref (g_r G)), (1, .int a0), (3, .int x3)]) hx hb dX12_years_17 rfl hl (by decide) rfl (fun ls hl => ?_)
          refine lv_iinc (v := x3 + 1) (lv' := [(3, .int (x3 + 1)), (2, .int z1.1), (0, .ref (g_r G)), (1, .int a0)]) hx hb dX12_years_18 hl (k := 3) rfl rfl (by decide) rfl (fun ls hl => ?_)
          refine lv_goto (tgt := 4) hx hb dX12_years_21 (by decide) ?_
          exact ih z1.1 (x3 + 1) z1.2 _ _ _ hw (lv_sub hl [2, 3, 1, 0] rfl)
  unfold f_R_years
  refine lv_iconst (v := 1) hx hb dX12_years_0 (by decide) ?_
  refine lv_istore_n (lv' := [(2, .int 1), (0, .ref (g_r G)), (1, .int a0)]) hx hb dX12_years_1 rfl hl (by decide) rfl (fun ls hl => ?_)
  refine lv_iconst (v := 0) hx hb dX12_years_2 (by decide) ?_
  refine lv_istore_n (lv' := [(3, .int 0), (2, .int 1), (0, .ref (g_r G)), (1, .int a0)]) hx hb dX12_years_3 rfl hl (by decide) rfl (fun ls hl => ?_)
  exact w4  N 1 0 r _ _ _ hw (lv_sub hl [2, 3, 1, 0] rfl)
set_option maxHeartbeats 4000000 in
set_option maxRecDepth 100000 in
theorem t_R_counts (l : Launch) (hfl : l.stackTraces = false) (G : wG) (on : g_on G = true) (N : Nat) (M : Mem) (r : Rho) : Ctr l yX12_counts (wWs yX12_counts cX12_counts 3 (some .int)) rm_R_counts rm_R_counts.cells rm_R_counts.slots G [.ref (g_r G)] M r ((f_R_counts N r).map (fun z => (.inl (some (.int z.1)), M, z.2))) := by
  refine Ctr.ofF (own := "CheekTownModel") (by decide +kernel) hfl rfl (Nat.le_of_ble_eq_true rfl) (fun p e s m args below meth c E hno hr hnm hw ls hl => ?_)
  obtain ⟨hx, hb, hts, hown, hml, hTT, -⟩ := id E
  have hl : lv_has ls 3 [(0, .ref (g_r G))] := hl
  obtain ⟨H, hH⟩ : ∃ H, H = s.heap := ⟨_, rfl⟩
  obtain ⟨locs, hlo⟩ : ∃ L : List Loc, L = [] := ⟨_, rfl⟩
  rw [← hH, ← hlo]
  rw [← hlo] at hw
  replace hw : w_W G M r s H locs := by rw [hH]; exact hw
  have w55 : ∀ (k25 : Int32 → Int32 → Rho → Option (Int32 × Rho)) (hk25 : ∀ (x1 : Int32) (x2 : Int32) (r : Rho) (H : Heap) (locs : List Loc) (ls : Array Slot), w_W G M r s H locs → lv_has ls 3 [(0, .ref (g_r G)), (1, .int x1), (2, .int x2)] → W p l e rm_R_counts s m args below meth c H locs 0 0 (PQ G below args s rm_R_counts.cells rm_R_counts.slots (fun z => (.inl (some (.int z.1)), M, z.2)) (k25 x1 x2 r)) (F0 m 25 ls [])) (x2 : Int32) (y0 : Int32) (y1 : Int32) (r : Rho) (H : Heap) (locs : List Loc) (ls : Array Slot), w_W G M r s H locs → lv_has ls 3 [(0, .ref (g_r G)), (2, .int x2)] → W p l e rm_R_counts s m args below meth c H locs 0 0 (PQ G below args s rm_R_counts.cells rm_R_counts.slots (fun z => (.inl (some (.int z.1)), M, z.2)) (f_R_counts_55 N k25 x2 y0 y1 r)) (F0 m 55 ls [.int y1, .int y0]) := by
    intro k25 hk25 x2 y0 y1 r H locs ls hw hl
    unfold f_R_counts_55
    refine lv_iadd hx hb dX12_counts_55 ?_
    refine lv_istore_n (lv' := [(1, .int (y0 + y1)), (0, .ref (g_r G)), (2, .int x2)]) hx hb dX12_counts_56 rfl hl (by decide) rfl (fun ls hl => ?_)
    refine lv_aload_n hx hb dX12_counts_57 rfl (lv_at hl 1 rfl) ?_
    refine rx_getA E hw on kF_R_41_11 (by decide) dX12_counts_58 ?_
    refine lv_aload_n hx hb dX12_counts_61 rfl (lv_at hl 1 rfl) ?_
    refine rx_getA E hw on kF_R_32_11 (by decide) dX12_counts_62 ?_
    refine lv_iload_n hx hb dX12_counts_65 rfl (lv_at hl 2 rfl) ?_
    refine rx_iald E hw on (by decide) dX12_counts_66 (fun v5 => ?_)
    refine lv_dup2_11 hx hb dX12_counts_67 rfl rfl ?_
    refine rx_iald E hw on (by decide) dX12_counts_68 (fun v6 => ?_)
    refine lv_iconst (v := 1) hx hb dX12_counts_69 (by decide) ?_
    refine lv_iadd hx hb dX12_counts_70 ?_
    refine rx_iast E hw on (by decide) dX12_counts_71 (fun r7 H locs hw => ?_)
    refine lv_iinc (v := x2 + 1) (lv' := [(2, .int (x2 + 1)), (1, .int (y0 + y1)), (0, .ref (g_r G))]) hx hb dX12_counts_72 hl (k := 2) rfl rfl (by decide) rfl (fun ls hl => ?_)
    refine lv_goto (tgt := 25) hx hb dX12_counts_75 (by decide) ?_
    exact hk25 (y0 + y1) (x2 + 1) r7 _ _ _ hw (lv_sub hl [2, 1, 0] rfl)
  have w25 : ∀ (n : Nat) (x1 : Int32) (x2 : Int32) (r : Rho) (H : Heap) (locs : List Loc) (ls : Array Slot), w_W G M r s H locs → lv_has ls 3 [(0, .ref (g_r G)), (1, .int x1), (2, .int x2)] → W p l e rm_R_counts s m args below meth c H locs 0 0 (PQ G below args s rm_R_counts.cells rm_R_counts.slots (fun z => (.inl (some (.int z.1)), M, z.2)) (f_R_counts_25 N n x1 x2 r)) (F0 m 25 ls []) := by
    intro n
    induction n with
    | zero => intros; exact W_none
    | succ n ih =>
      intro x1 x2 r H locs ls hw hl
      rw [f_R_counts_25]
      refine lv_iload_n hx hb dX12_counts_25 rfl (lv_at hl 2 rfl) ?_
      refine lv_aload_n hx hb dX12_counts_26 rfl (lv_at hl 0 rfl) ?_
      refine rx_getA E hw on kF_R_7_11 (by decide) dX12_counts_27 ?_
      refine lv_iconst (v := 5) hx hb dX12_counts_30 (by decide) ?_
      refine rx_iald E hw on (by decide) dX12_counts_31 (fun v2 => ?_)
      refine cx_icmp_ge (tgt := 78) E dX12_counts_32 (by decide) (fun _ => ?_) (fun _ => ?_)
      · refine lv_iload_n hx hb dX12_counts_78 rfl (lv_at hl 1 rfl) ?_
        exact p_iret E hw hr (Nat.le_of_ble_eq_true rfl) (Nat.le_of_ble_eq_true rfl) rfl dX12_counts_79
      · refine lv_iload_n hx hb dX12_counts_35 rfl (lv_at hl 1 rfl) ?_
        refine lv_aload_n hx hb dX12_counts_36 rfl (lv_at hl 0 rfl) ?_
        refine rx_getA E hw on kF_R_41_11 (by decide) dX12_counts_37 ?_
        refine lv_aload_n hx hb dX12_counts_40 rfl (lv_at hl 0 rfl) ?_
        refine rx_getA E hw on kF_R_32_11 (by decide) dX12_counts_41 ?_
        refine lv_iload_n hx hb dX12_counts_44 rfl (lv_at hl 2 rfl) ?_
        refine rx_iald E hw on (by decide) dX12_counts_45 (fun v3 => ?_)
        refine rx_iald E hw on (by decide) dX12_counts_46 (fun v4 => ?_)
        refine cx_if_ne (tgt := 54) E dX12_counts_47 (by decide) (fun _ => ?_) (fun _ => ?_)
        · refine lv_iconst (v := 0) hx hb dX12_counts_54 (by decide) ?_
          exact w55 (f_R_counts_25 N n) ih x2 x1 0 r _ _ _ hw (lv_sub hl [0, 2] rfl)
        · refine lv_iconst (v := 1) hx hb dX12_counts_50 (by decide) ?_
          refine lv_goto (tgt := 55) hx hb dX12_counts_51 (by decide) ?_
          exact w55 (f_R_counts_25 N n) ih x2 x1 1 r _ _ _ hw (lv_sub hl [0, 2] rfl)
  have w4 : ∀ (n : Nat) (x1 : Int32) (x2 : Int32) (r : Rho) (H : Heap) (locs : List Loc) (ls : Array Slot), w_W G M r s H locs → lv_has ls 3 [(0, .ref (g_r G)), (1, .int x1), (2, .int x2)] → W p l e rm_R_counts s m args below meth c H locs 0 0 (PQ G below args s rm_R_counts.cells rm_R_counts.slots (fun z => (.inl (some (.int z.1)), M, z.2)) (f_R_counts_4 N n x1 x2 r)) (F0 m 4 ls []) := by
    intro n
    induction n with
    | zero => intros; exact W_none
    | succ n ih =>
      intro x1 x2 r H locs ls hw hl
      rw [f_R_counts_4]
      refine lv_iload_n hx hb dX12_counts_4 rfl (lv_at hl 2 rfl) ?_
      refine lv_bipush (v := 32) hx hb dX12_counts_5 (by decide) ?_
      refine cx_icmp_ge (tgt := 23) E dX12_counts_7 (by decide) (fun _ => ?_) (fun _ => ?_)
      · refine lv_iconst (v := 0) hx hb dX12_counts_23 (by decide) ?_
        refine lv_istore_n (lv' := [(2, .int 0), (0, .ref (g_r G)), (1, .int x1)]) hx hb dX12_counts_24 rfl hl (by decide) rfl (fun ls hl => ?_)
        exact w25  N x1 0 r _ _ _ hw (lv_sub hl [1, 2, 0] rfl)
      · refine lv_aload_n hx hb dX12_counts_10 rfl (lv_at hl 0 rfl) ?_
        refine rx_getA E hw on kF_R_41_11 (by decide) dX12_counts_11 ?_
        refine lv_iload_n hx hb dX12_counts_14 rfl (lv_at hl 2 rfl) ?_
        refine lv_iconst (v := 0) hx hb dX12_counts_15 (by decide) ?_
        refine rx_iast E hw on (by decide) dX12_counts_16 (fun r1 H locs hw => ?_)
        refine lv_iinc (v := x2 + 1) (lv' := [(2, .int (x2 + 1)), (0, .ref (g_r G)), (1, .int x1)]) hx hb dX12_counts_17 hl (k := 2) rfl rfl (by decide) rfl (fun ls hl => ?_)
        refine lv_goto (tgt := 4) hx hb dX12_counts_20 (by decide) ?_
        exact ih x1 (x2 + 1) r1 _ _ _ hw (lv_sub hl [1, 2, 0] rfl)
  unfold f_R_counts
  refine lv_iconst (v := 0) hx hb dX12_counts_0 (by decide) ?_
  refine lv_istore_n (lv' := [(1, .int 0), (0, .ref (g_r G))]) hx hb dX12_counts_1 rfl hl (by decide) rfl (fun ls hl => ?_)
  refine lv_iconst (v := 0) hx hb dX12_counts_2 (by decide) ?_
  refine lv_istore_n (lv' := [(2, .int 0), (1, .int 0), (0, .ref (g_r G))]) hx hb dX12_counts_3 rfl hl (by decide) rfl (fun ls hl => ?_)
  exact w4  N 0 0 r _ _ _ hw (lv_sub hl [2, 1, 0] rfl)
set_option maxHeartbeats 4000000 in
set_option maxRecDepth 100000 in
theorem t_R_after (l : Launch) (hfl : l.stackTraces = false) (G : wG) (on : g_on G = true) (N : Nat) (a0 : Int32) (a1 : Int32) (M : Mem) (r : Rho) : Ctr l yX12_after (wWs yX12_after cX12_after 6 (some .int)) rm_R_after rm_R_after.cells rm_R_after.slots G [.ref (g_r G), .int a0, .int a1] M r ((f_R_after N a0 a1 r).map (fun z => (.inl (some (.int z.1)), M, z.2))) := by
  refine Ctr.ofF (own := "CheekTownModel") (by decide +kernel) hfl rfl (Nat.le_of_ble_eq_true rfl) (fun p e s m args below meth c E hno hr hnm hw ls hl => ?_)
  obtain ⟨hx, hb, hts, hown, hml, hTT, -⟩ := id E
  have hl : lv_has ls 6 [(0, .ref (g_r G)), (1, .int a0), (2, .int a1)] := hl
  obtain ⟨H, hH⟩ : ∃ H, H = s.heap := ⟨_, rfl⟩
  obtain ⟨locs, hlo⟩ : ∃ L : List Loc, L = [] := ⟨_, rfl⟩
  rw [← hH, ← hlo]
  rw [← hlo] at hw
  replace hw : w_W G M r s H locs := by rw [hH]; exact hw
  have w69 : ∀ (n : Nat) (x3 : Int32) (x4 : Int32) (x5 : Int32) (r : Rho) (H : Heap) (locs : List Loc) (ls : Array Slot), w_W G M r s H locs → lv_has ls 6 [(0, .ref (g_r G)), (2, .int a1), (3, .int x3), (4, .int x4), (5, .int x5)] → W p l e rm_R_after s m args below meth c H locs 0 0 (PQ G below args s rm_R_after.cells rm_R_after.slots (fun z => (.inl (some (.int z.1)), M, z.2)) (f_R_after_69 N a0 a1 n x3 x4 x5 r)) (F0 m 69 ls []) := by
    intro n
    induction n with
    | zero => intros; exact W_none
    | succ n ih =>
      intro x3 x4 x5 r H locs ls hw hl
      rw [f_R_after_69]
      refine lv_iload hx hb dX12_after_69 (lv_at hl 4 rfl) ?_
      refine lv_bipush (v := 32) hx hb dX12_after_71 (by decide) ?_
      refine cx_icmp_ge (tgt := 103) E dX12_after_73 (by decide) (fun _ => ?_) (fun _ => ?_)
      · refine lv_iload_n hx hb dX12_after_103 rfl (lv_at hl 1 rfl) ?_
        refine lv_iconst (v := 2) hx hb dX12_after_104 (by decide) ?_
        refine cx_icmp_ne (tgt := 118) E dX12_after_105 (by decide) (fun _ => ?_) (fun _ => ?_)
        · refine lv_iload_n hx hb dX12_after_118 rfl (lv_at hl 2 rfl) ?_
          refine cx_if_ne (tgt := 126) E dX12_after_119 (by decide) (fun _ => ?_) (fun _ => ?_)
          · refine lv_iload hx hb dX12_after_126 (lv_at hl 3 rfl) ?_
            exact p_iret E hw hr (Nat.le_of_ble_eq_true rfl) (Nat.le_of_ble_eq_true rfl) rfl dX12_after_128
          · refine lv_iconst (v := (-1)) hx hb dX12_after_122 (by decide) ?_
            refine lv_goto (tgt := 128) hx hb dX12_after_123 (by decide) ?_
            exact p_iret E hw hr (Nat.le_of_ble_eq_true rfl) (Nat.le_of_ble_eq_true rfl) rfl dX12_after_128
        · refine lv_aload_n hx hb dX12_after_108 rfl (lv_at hl 0 rfl) ?_
          refine rx_getA E hw on kF_R_41_11 (by decide) dX12_after_109 ?_
          refine lv_iload hx hb dX12_after_112 (lv_at hl 3 rfl) ?_
          refine rx_iald E hw on (by decide) dX12_after_114 (fun v6 => ?_)
          refine lv_goto (tgt := 128) hx hb dX12_after_115 (by decide) ?_
          exact p_iret E hw hr (Nat.le_of_ble_eq_true rfl) (Nat.le_of_ble_eq_true rfl) rfl dX12_after_128
      · refine lv_aload_n hx hb dX12_after_76 rfl (lv_at hl 0 rfl) ?_
        refine rx_getA E hw on kF_R_41_11 (by decide) dX12_after_77 ?_
        refine lv_iload hx hb dX12_after_80 (lv_at hl 4 rfl) ?_
        refine rx_iald E hw on (by decide) dX12_after_82 (fun v7 => ?_)
        refine lv_aload_n hx hb dX12_after_83 rfl (lv_at hl 0 rfl) ?_
        refine rx_getA E hw on kF_R_41_11 (by decide) dX12_after_84 ?_
        refine lv_iload hx hb dX12_after_87 (lv_at hl 3 rfl) ?_
        refine rx_iald E hw on (by decide) dX12_after_89 (fun v8 => ?_)
        refine cx_icmp_le (tgt := 97) E dX12_after_90 (by decide) (fun _ => ?_) (fun _ => ?_)
        · refine lv_iinc (v := x5 + 1) (lv' := [(5, .int (x5 + 1)), (0, .ref (g_r G)), (2, .int a1), (3, .int x3), (4, .int x4)]) hx hb dX12_after_97 hl (k := 4) rfl rfl (by decide) rfl (fun ls hl => ?_)
          refine lv_goto (tgt := 69) hx hb dX12_after_100 (by decide) ?_
          exact ih x3 x4 (x5 + 1) r _ _ _ hw (lv_sub hl [1, 2, 3, 4, 0] rfl)
        · refine lv_iload hx hb dX12_after_93 (lv_at hl 4 rfl) ?_
          refine lv_istore (lv' := [(4, .int x5), (0, .ref (g_r G)), (2, .int a1), (3, .int x3), (5, .int x5)]) hx hb dX12_after_95 hl (by decide) rfl (fun ls hl => ?_)
          refine lv_iinc (v := x5 + 1) (lv' := [(5, .int (x5 + 1)), (4, .int x5), (0, .ref (g_r G)), (2, .int a1), (3, .int x3)]) hx hb dX12_after_97 hl (k := 4) rfl rfl (by decide) rfl (fun ls hl => ?_)
          refine lv_goto (tgt := 69) hx hb dX12_after_100 (by decide) ?_
          exact ih x3 x5 (x5 + 1) r _ _ _ hw (lv_sub hl [2, 3, 4, 1, 0] rfl)
  have w29 : ∀ (y1 : Int32) (r : Rho) (H : Heap) (locs : List Loc) (ls : Array Slot), w_W G M r s H locs → lv_has ls 6 [(0, .ref (g_r G)), (1, .int a0), (2, .int a1)] → W p l e rm_R_after s m args below meth c H locs 0 0 (PQ G below args s rm_R_after.cells rm_R_after.slots (fun z => (.inl (some (.int z.1)), M, z.2)) (f_R_after_29 N a0 a1 y1 r)) (F0 m 29 ls [.int y1, .ref (g_r G)]) := by
    intro y1 r H locs ls hw hl
    unfold f_R_after_29
    refine rx_putI E hw on kF_R_56_11 (by decide) kT_11_0 dX12_after_29 (fun H locs hw => ?_)
    refine lv_aload_n hx hb dX12_after_32 rfl (lv_at hl 0 rfl) ?_
    refine rx_getI E hw on kF_R_56_11 (by decide) dX12_after_33 ?_
    refine cx_if_le (tgt := 41) E dX12_after_36 (by decide) (fun _ => ?_) (fun _ => ?_)
    · refine lv_aload_n hx hb dX12_after_41 rfl (lv_at hl 0 rfl) ?_
      refine lv_iconst (v := 0) hx hb dX12_after_42 (by decide) ?_
      refine lv_iconst (v := 0) hx hb dX12_after_43 (by decide) ?_
      refine W_bind fun z3 hz => ?_
      refine w_after (cells1 := 0) (slots1 := 0) (w_runV E kV_R_360 kc_X12_starts (t_R_starts l hfl G on N 0 0 M (r_set r 0 y1) ((fun z => (.inl none, M, z)) z3) (by rw [hz]; rfl)) ⟨Nat.le_of_ble_eq_true rfl, Nat.le_of_ble_eq_true rfl⟩ hw (w_recvR E hw on) rfl hl.1 rfl (Nat.le_of_ble_eq_true rfl) dX12_after_44 ⟨Nat.le_of_ble_eq_true rfl, Nat.le_of_ble_eq_true rfl⟩) hw rfl (Nat.le_of_ble_eq_true rfl) (Nat.le_of_ble_eq_true rfl) (fun H locs hw => ?_)
      refine W.eq (g2 := F0 m 47 ls []) rfl ?_
      have hw : w_W G M z3 s H locs := hw
      refine lv_aload_n hx hb dX12_after_47 rfl (lv_at hl 0 rfl) ?_
      refine lv_iload_n hx hb dX12_after_48 rfl (lv_at hl 1 rfl) ?_
      refine W_bind fun z4 hz => ?_
      refine w_after (cells1 := 0) (slots1 := 0) (w_runV E kV_R_363 kc_X12_years (t_R_years l hfl G on N a0 M z3 ((fun z => (.inl none, M, z)) z4) (by rw [hz]; rfl)) ⟨Nat.le_of_ble_eq_true rfl, Nat.le_of_ble_eq_true rfl⟩ hw (w_recvR E hw on) rfl hl.1 rfl (Nat.le_of_ble_eq_true rfl) dX12_after_49 ⟨Nat.le_of_ble_eq_true rfl, Nat.le_of_ble_eq_true rfl⟩) hw rfl (Nat.le_of_ble_eq_true rfl) (Nat.le_of_ble_eq_true rfl) (fun H locs hw => ?_)
      refine W.eq (g2 := F0 m 52 ls []) rfl ?_
      have hw : w_W G M z4 s H locs := hw
      refine lv_aload_n hx hb dX12_after_52 rfl (lv_at hl 0 rfl) ?_
      refine W_bind fun z5 hz => ?_
      refine w_after (cells1 := 0) (slots1 := 0) (w_runV E kV_R_366 kc_X12_counts (t_R_counts l hfl G on N M z4 ((fun z => (.inl (some (.int z.1)), M, z.2)) z5) (by rw [hz]; rfl)) ⟨Nat.le_of_ble_eq_true rfl, Nat.le_of_ble_eq_true rfl⟩ hw (w_recvR E hw on) rfl hl.1 rfl (Nat.le_of_ble_eq_true rfl) dX12_after_53 ⟨Nat.le_of_ble_eq_true rfl, Nat.le_of_ble_eq_true rfl⟩) hw rfl (Nat.le_of_ble_eq_true rfl) (Nat.le_of_ble_eq_true rfl) (fun H locs hw => ?_)
      refine W.eq (g2 := F0 m 56 ls [.int z5.1]) rfl ?_
      have hw : w_W G M z5.2 s H locs := hw
      refine lv_istore_n (lv' := [(3, .int z5.1), (0, .ref (g_r G)), (1, .int a0), (2, .int a1)]) hx hb dX12_after_56 rfl hl (by decide) rfl (fun ls hl => ?_)
      refine lv_iload_n hx hb dX12_after_57 rfl (lv_at hl 3 rfl) ?_
      refine cx_if_ne (tgt := 63) E dX12_after_58 (by decide) (fun _ => ?_) (fun _ => ?_)
      · refine lv_iconst (v := 0) hx hb dX12_after_63 (by decide) ?_
        refine lv_istore (lv' := [(4, .int 0), (3, .int z5.1), (0, .ref (g_r G)), (1, .int a0), (2, .int a1)]) hx hb dX12_after_64 hl (by decide) rfl (fun ls hl => ?_)
        refine lv_iconst (v := 1) hx hb dX12_after_66 (by decide) ?_
        refine lv_istore (lv' := [(5, .int 1), (4, .int 0), (3, .int z5.1), (0, .ref (g_r G)), (1, .int a0), (2, .int a1)]) hx hb dX12_after_67 hl (by decide) rfl (fun ls hl => ?_)
        exact w69  N z5.1 0 1 z5.2 _ _ _ hw (lv_sub hl [3, 5, 2, 1, 0] rfl)
      · refine lv_iload_n hx hb dX12_after_61 rfl (lv_at hl 0 rfl) ?_
        exact p_iret E hw hr (Nat.le_of_ble_eq_true rfl) (Nat.le_of_ble_eq_true rfl) rfl dX12_after_62
    · refine lv_iconst (v := 0) hx hb dX12_after_39 (by decide) ?_
      exact p_iret E hw hr (Nat.le_of_ble_eq_true rfl) (Nat.le_of_ble_eq_true rfl) rfl dX12_after_40
  unfold f_R_after
  refine lv_aload_n hx hb dX12_after_0 rfl (lv_at hl 0 rfl) ?_
  refine lv_iload_n hx hb dX12_after_1 rfl (lv_at hl 1 rfl) ?_
  refine lv_iconst (v := 0) hx hb dX12_after_2 (by decide) ?_
  refine lv_bipush (v := 60) hx hb dX12_after_3 (by decide) ?_
  refine W_bind fun z1 hz => ?_
  refine w_after (cells1 := 0) (slots1 := 0) (w_runS E kS_R_59 kc_X12_isIn (t_R_isIn l hfl G a0 0 60 M r ((fun z => (.inl (some (.int z)), M, r)) z1) (by rw [hz]; rfl)) ⟨Nat.le_of_ble_eq_true rfl, Nat.le_of_ble_eq_true rfl⟩ hw rfl hl.1 rfl (Nat.le_of_ble_eq_true rfl) dX12_after_5 ⟨Nat.le_of_ble_eq_true rfl, Nat.le_of_ble_eq_true rfl⟩) hw rfl (Nat.le_of_ble_eq_true rfl) (Nat.le_of_ble_eq_true rfl) (fun H locs hw => ?_)
  refine W.eq (g2 := F0 m 8 ls [.int z1, .ref (g_r G)]) rfl ?_
  have hw : w_W G M r s H locs := hw
  refine cx_if_ne (tgt := 15) E dX12_after_8 (by decide) (fun _ => ?_) (fun _ => ?_)
  · refine lv_iload_n hx hb dX12_after_15 rfl (lv_at hl 2 rfl) ?_
    refine lv_iconst (v := 0) hx hb dX12_after_16 (by decide) ?_
    refine lv_iconst (v := 2) hx hb dX12_after_17 (by decide) ?_
    refine W_bind fun z2 hz => ?_
    refine w_after (cells1 := 0) (slots1 := 0) (w_runS E kS_R_59 kc_X12_isIn (t_R_isIn l hfl G a1 0 2 M r ((fun z => (.inl (some (.int z)), M, r)) z2) (by rw [hz]; rfl)) ⟨Nat.le_of_ble_eq_true rfl, Nat.le_of_ble_eq_true rfl⟩ hw rfl hl.1 rfl (Nat.le_of_ble_eq_true rfl) dX12_after_18 ⟨Nat.le_of_ble_eq_true rfl, Nat.le_of_ble_eq_true rfl⟩) hw rfl (Nat.le_of_ble_eq_true rfl) (Nat.le_of_ble_eq_true rfl) (fun H locs hw => ?_)
    refine W.eq (g2 := F0 m 21 ls [.int z2, .ref (g_r G)]) rfl ?_
    have hw : w_W G M r s H locs := hw
    refine cx_if_ne (tgt := 28) E dX12_after_21 (by decide) (fun _ => ?_) (fun _ => ?_)
    · refine lv_iconst (v := 0) hx hb dX12_after_28 (by decide) ?_
      exact w29  0 r _ _ _ hw (lv_sub hl [0, 1, 2] rfl)
    · refine lv_iconst (v := 2) hx hb dX12_after_24 (by decide) ?_
      refine lv_goto (tgt := 29) hx hb dX12_after_25 (by decide) ?_
      exact w29  2 r _ _ _ hw (lv_sub hl [0, 1, 2] rfl)
  · refine lv_iconst (v := 1) hx hb dX12_after_11 (by decide) ?_
    refine lv_goto (tgt := 29) hx hb dX12_after_12 (by decide) ?_
    exact w29  1 r _ _ _ hw (lv_sub hl [0, 1, 2] rfl)
set_option maxHeartbeats 4000000 in
set_option maxRecDepth 100000 in
theorem t_R_custom (l : Launch) (hfl : l.stackTraces = false) (G : wG) (on : g_on G = true) (N : Nat) (a0 : Int32) (a1 : Int32) (M : Mem) (r : Rho) : Ctr l yX12_custom (wWs yX12_custom cX12_custom 3 (some .int)) rm_R_custom rm_R_custom.cells rm_R_custom.slots G [.ref (g_r G), .int a0, .int a1] M r ((f_R_custom N a0 a1 r).map (fun z => (.inl (some (.int z.1)), M, z.2))) := by
  refine Ctr.ofF (own := "CheekTownModel") (by decide +kernel) hfl rfl (Nat.le_of_ble_eq_true rfl) (fun p e s m args below meth c E hno hr hnm hw ls hl => ?_)
  obtain ⟨hx, hb, hts, hown, hml, hTT, -⟩ := id E
  have hl : lv_has ls 3 [(0, .ref (g_r G)), (1, .int a0), (2, .int a1)] := hl
  obtain ⟨H, hH⟩ : ∃ H, H = s.heap := ⟨_, rfl⟩
  obtain ⟨locs, hlo⟩ : ∃ L : List Loc, L = [] := ⟨_, rfl⟩
  rw [← hH, ← hlo]
  rw [← hlo] at hw
  replace hw : w_W G M r s H locs := by rw [hH]; exact hw
  have w28 : ∀ (y1 : Int32) (r : Rho) (H : Heap) (locs : List Loc) (ls : Array Slot), w_W G M r s H locs → lv_has ls 3 [(0, .ref (g_r G)), (1, .int a0), (2, .int a1)] → W p l e rm_R_custom s m args below meth c H locs 0 0 (PQ G below args s rm_R_custom.cells rm_R_custom.slots (fun z => (.inl (some (.int z.1)), M, z.2)) (f_R_custom_28 N a0 a1 y1 r)) (F0 m 28 ls [.int y1, .ref (g_r G)]) := by
    intro y1 r H locs ls hw hl
    unfold f_R_custom_28
    refine rx_putI E hw on kF_R_56_11 (by decide) kT_11_0 dX12_custom_28 (fun H locs hw => ?_)
    refine lv_aload_n hx hb dX12_custom_31 rfl (lv_at hl 0 rfl) ?_
    refine rx_getI E hw on kF_R_56_11 (by decide) dX12_custom_32 ?_
    refine cx_if_le (tgt := 40) E dX12_custom_35 (by decide) (fun _ => ?_) (fun _ => ?_)
    · refine lv_aload_n hx hb dX12_custom_40 rfl (lv_at hl 0 rfl) ?_
      refine lv_iconst (v := 0) hx hb dX12_custom_41 (by decide) ?_
      refine lv_iconst (v := 0) hx hb dX12_custom_42 (by decide) ?_
      refine W_bind fun z3 hz => ?_
      refine w_after (cells1 := 0) (slots1 := 0) (w_runV E kV_R_360 kc_X12_starts (t_R_starts l hfl G on N 0 0 M (r_set r 0 y1) ((fun z => (.inl none, M, z)) z3) (by rw [hz]; rfl)) ⟨Nat.le_of_ble_eq_true rfl, Nat.le_of_ble_eq_true rfl⟩ hw (w_recvR E hw on) rfl hl.1 rfl (Nat.le_of_ble_eq_true rfl) dX12_custom_43 ⟨Nat.le_of_ble_eq_true rfl, Nat.le_of_ble_eq_true rfl⟩) hw rfl (Nat.le_of_ble_eq_true rfl) (Nat.le_of_ble_eq_true rfl) (fun H locs hw => ?_)
      refine W.eq (g2 := F0 m 46 ls []) rfl ?_
      have hw : w_W G M z3 s H locs := hw
      refine lv_aload_n hx hb dX12_custom_46 rfl (lv_at hl 0 rfl) ?_
      refine lv_iload_n hx hb dX12_custom_47 rfl (lv_at hl 2 rfl) ?_
      refine W_bind fun z4 hz => ?_
      refine w_after (cells1 := 0) (slots1 := 0) (w_runV E kV_R_363 kc_X12_years (t_R_years l hfl G on N a1 M z3 ((fun z => (.inl none, M, z)) z4) (by rw [hz]; rfl)) ⟨Nat.le_of_ble_eq_true rfl, Nat.le_of_ble_eq_true rfl⟩ hw (w_recvR E hw on) rfl hl.1 rfl (Nat.le_of_ble_eq_true rfl) dX12_custom_48 ⟨Nat.le_of_ble_eq_true rfl, Nat.le_of_ble_eq_true rfl⟩) hw rfl (Nat.le_of_ble_eq_true rfl) (Nat.le_of_ble_eq_true rfl) (fun H locs hw => ?_)
      refine W.eq (g2 := F0 m 51 ls []) rfl ?_
      have hw : w_W G M z4 s H locs := hw
      refine lv_aload_n hx hb dX12_custom_51 rfl (lv_at hl 0 rfl) ?_
      refine rx_getA E hw on kF_R_32_11 (by decide) dX12_custom_52 ?_
      refine lv_iload_n hx hb dX12_custom_55 rfl (lv_at hl 1 rfl) ?_
      refine rx_iald E hw on (by decide) dX12_custom_56 (fun v5 => ?_)
      exact p_iret E hw hr (Nat.le_of_ble_eq_true rfl) (Nat.le_of_ble_eq_true rfl) rfl dX12_custom_57
    · refine lv_iconst (v := 0) hx hb dX12_custom_38 (by decide) ?_
      exact p_iret E hw hr (Nat.le_of_ble_eq_true rfl) (Nat.le_of_ble_eq_true rfl) rfl dX12_custom_39
  unfold f_R_custom
  refine lv_aload_n hx hb dX12_custom_0 rfl (lv_at hl 0 rfl) ?_
  refine lv_aload_n hx hb dX12_custom_1 rfl (lv_at hl 0 rfl) ?_
  refine lv_iload_n hx hb dX12_custom_2 rfl (lv_at hl 1 rfl) ?_
  refine W_bind fun z1 hz => ?_
  refine w_after (cells1 := 0) (slots1 := 0) (w_runV E kV_R_271 kc_X12_isPerson (t_R_isPerson l hfl G on a0 M r ((fun z => (.inl (some (.int z)), M, r)) z1) (by rw [hz]; rfl)) ⟨Nat.le_of_ble_eq_true rfl, Nat.le_of_ble_eq_true rfl⟩ hw (w_recvR E hw on) rfl hl.1 rfl (Nat.le_of_ble_eq_true rfl) dX12_custom_3 ⟨Nat.le_of_ble_eq_true rfl, Nat.le_of_ble_eq_true rfl⟩) hw rfl (Nat.le_of_ble_eq_true rfl) (Nat.le_of_ble_eq_true rfl) (fun H locs hw => ?_)
  refine W.eq (g2 := F0 m 6 ls [.int z1, .ref (g_r G)]) rfl ?_
  have hw : w_W G M r s H locs := hw
  refine cx_if_ne (tgt := 13) E dX12_custom_6 (by decide) (fun _ => ?_) (fun _ => ?_)
  · refine lv_iload_n hx hb dX12_custom_13 rfl (lv_at hl 2 rfl) ?_
    refine lv_iconst (v := 0) hx hb dX12_custom_14 (by decide) ?_
    refine lv_bipush (v := 60) hx hb dX12_custom_15 (by decide) ?_
    refine W_bind fun z2 hz => ?_
    refine w_after (cells1 := 0) (slots1 := 0) (w_runS E kS_R_59 kc_X12_isIn (t_R_isIn l hfl G a1 0 60 M r ((fun z => (.inl (some (.int z)), M, r)) z2) (by rw [hz]; rfl)) ⟨Nat.le_of_ble_eq_true rfl, Nat.le_of_ble_eq_true rfl⟩ hw rfl hl.1 rfl (Nat.le_of_ble_eq_true rfl) dX12_custom_17 ⟨Nat.le_of_ble_eq_true rfl, Nat.le_of_ble_eq_true rfl⟩) hw rfl (Nat.le_of_ble_eq_true rfl) (Nat.le_of_ble_eq_true rfl) (fun H locs hw => ?_)
    refine W.eq (g2 := F0 m 20 ls [.int z2, .ref (g_r G)]) rfl ?_
    have hw : w_W G M r s H locs := hw
    refine cx_if_ne (tgt := 27) E dX12_custom_20 (by decide) (fun _ => ?_) (fun _ => ?_)
    · refine lv_iconst (v := 0) hx hb dX12_custom_27 (by decide) ?_
      exact w28  0 r _ _ _ hw (lv_sub hl [0, 1, 2] rfl)
    · refine lv_iconst (v := 2) hx hb dX12_custom_23 (by decide) ?_
      refine lv_goto (tgt := 28) hx hb dX12_custom_24 (by decide) ?_
      exact w28  2 r _ _ _ hw (lv_sub hl [0, 1, 2] rfl)
  · refine lv_iconst (v := 1) hx hb dX12_custom_9 (by decide) ?_
    refine lv_goto (tgt := 28) hx hb dX12_custom_10 (by decide) ?_
    exact w28  1 r _ _ _ hw (lv_sub hl [0, 1, 2] rfl)
set_option maxHeartbeats 4000000 in
set_option maxRecDepth 100000 in
theorem t_R_still (l : Launch) (hfl : l.stackTraces = false) (G : wG) (on : g_on G = true) (N : Nat) (M : Mem) (r : Rho) : Ctr l yX12_still (wWs yX12_still cX12_still 2 (some .int)) rm_R_still rm_R_still.cells rm_R_still.slots G [.ref (g_r G)] M r ((f_R_still N r).map (fun z => (.inl (some (.int z.1)), M, z.2))) := by
  refine Ctr.ofF (own := "CheekTownModel") (by decide +kernel) hfl rfl (Nat.le_of_ble_eq_true rfl) (fun p e s m args below meth c E hno hr hnm hw ls hl => ?_)
  obtain ⟨hx, hb, hts, hown, hml, hTT, -⟩ := id E
  have hl : lv_has ls 2 [(0, .ref (g_r G))] := hl
  obtain ⟨H, hH⟩ : ∃ H, H = s.heap := ⟨_, rfl⟩
  obtain ⟨locs, hlo⟩ : ∃ L : List Loc, L = [] := ⟨_, rfl⟩
  rw [← hH, ← hlo]
  rw [← hlo] at hw
  replace hw : w_W G M r s H locs := by rw [hH]; exact hw
  have w13 : ∀ (n : Nat) (x1 : Int32) (r : Rho) (H : Heap) (locs : List Loc) (ls : Array Slot), w_W G M r s H locs → lv_has ls 2 [(0, .ref (g_r G)), (1, .int x1)] → W p l e rm_R_still s m args below meth c H locs 0 0 (PQ G below args s rm_R_still.cells rm_R_still.slots (fun z => (.inl (some (.int z.1)), M, z.2)) (f_R_still_13 N n x1 r)) (F0 m 13 ls []) := by
    intro n
    induction n with
    | zero => intros; exact W_none
    | succ n ih =>
      intro x1 r H locs ls hw hl
      rw [f_R_still_13]
      refine lv_iload_n hx hb dX12_still_13 rfl (lv_at hl 1 rfl) ?_
      refine lv_bipush (v := 60) hx hb dX12_still_14 (by decide) ?_
      refine cx_icmp_gt (tgt := 34) E dX12_still_16 (by decide) (fun _ => ?_) (fun _ => ?_)
      · refine lv_iconst (v := (-1)) hx hb dX12_still_34 (by decide) ?_
        exact p_iret E hw hr (Nat.le_of_ble_eq_true rfl) (Nat.le_of_ble_eq_true rfl) rfl dX12_still_35
      · refine lv_aload_n hx hb dX12_still_19 rfl (lv_at hl 0 rfl) ?_
        refine W_bind fun z2 hz => ?_
        refine w_after (cells1 := 0) (slots1 := 0) (w_runV E kV_R_357 kc_X12_year (t_R_year l hfl G on N M r ((fun z => (.inl (some (.int z.1)), M, z.2)) z2) (by rw [hz]; rfl)) ⟨Nat.le_of_ble_eq_true rfl, Nat.le_of_ble_eq_true rfl⟩ hw (w_recvR E hw on) rfl hl.1 rfl (Nat.le_of_ble_eq_true rfl) dX12_still_20 ⟨Nat.le_of_ble_eq_true rfl, Nat.le_of_ble_eq_true rfl⟩) hw rfl (Nat.le_of_ble_eq_true rfl) (Nat.le_of_ble_eq_true rfl) (fun H locs hw => ?_)
        refine W.eq (g2 := F0 m 23 ls [.int z2.1]) rfl ?_
        have hw : w_W G M z2.2 s H locs := hw
        refine cx_if_ne (tgt := 28) E dX12_still_23 (by decide) (fun _ => ?_) (fun _ => ?_)
        · refine lv_iinc (v := x1 + 1) (lv' := [(1, .int (x1 + 1)), (0, .ref (g_r G))]) hx hb dX12_still_28 hl (k := 1) rfl rfl (by decide) rfl (fun ls hl => ?_)
          refine lv_goto (tgt := 13) hx hb dX12_still_31 (by decide) ?_
          exact ih (x1 + 1) z2.2 _ _ _ hw (lv_sub hl [1, 0] rfl)
        · refine lv_iload_n hx hb dX12_still_26 rfl (lv_at hl 1 rfl) ?_
          exact p_iret E hw hr (Nat.le_of_ble_eq_true rfl) (Nat.le_of_ble_eq_true rfl) rfl dX12_still_27
  unfold f_R_still
  refine lv_aload_n hx hb dX12_still_0 rfl (lv_at hl 0 rfl) ?_
  refine lv_iconst (v := 0) hx hb dX12_still_1 (by decide) ?_
  refine rx_putI E hw on kF_R_56_11 (by decide) kT_11_0 dX12_still_2 (fun H locs hw => ?_)
  refine lv_aload_n hx hb dX12_still_5 rfl (lv_at hl 0 rfl) ?_
  refine lv_iconst (v := 0) hx hb dX12_still_6 (by decide) ?_
  refine lv_iconst (v := 0) hx hb dX12_still_7 (by decide) ?_
  refine W_bind fun z1 hz => ?_
  refine w_after (cells1 := 0) (slots1 := 0) (w_runV E kV_R_360 kc_X12_starts (t_R_starts l hfl G on N 0 0 M (r_set r 0 0) ((fun z => (.inl none, M, z)) z1) (by rw [hz]; rfl)) ⟨Nat.le_of_ble_eq_true rfl, Nat.le_of_ble_eq_true rfl⟩ hw (w_recvR E hw on) rfl hl.1 rfl (Nat.le_of_ble_eq_true rfl) dX12_still_8 ⟨Nat.le_of_ble_eq_true rfl, Nat.le_of_ble_eq_true rfl⟩) hw rfl (Nat.le_of_ble_eq_true rfl) (Nat.le_of_ble_eq_true rfl) (fun H locs hw => ?_)
  refine W.eq (g2 := F0 m 11 ls []) rfl ?_
  have hw : w_W G M z1 s H locs := hw
  refine lv_iconst (v := 0) hx hb dX12_still_11 (by decide) ?_
  refine lv_istore_n (lv' := [(1, .int 0), (0, .ref (g_r G))]) hx hb dX12_still_12 rfl hl (by decide) rfl (fun ls hl => ?_)
  exact w13  N 0 z1 _ _ _ hw (lv_sub hl [1, 0] rfl)
set_option maxHeartbeats 4000000 in
set_option maxRecDepth 100000 in
theorem t_R_wins (l : Launch) (hfl : l.stackTraces = false) (G : wG) (on : g_on G = true) (N : Nat) (a0 : Int32) (a1 : Int32) (a2 : Int32) (M : Mem) (r : Rho) : Ctr l yX12_wins (wWs yX12_wins cX12_wins 5 (some .boolean)) rm_R_wins rm_R_wins.cells rm_R_wins.slots G [.ref (g_r G), .int a0, .int a1, .int a2] M r ((f_R_wins N a0 a1 a2 r).map (fun z => (.inl (some (.int z.1)), M, z.2))) := by
  refine Ctr.ofF (own := "CheekTownModel") (by decide +kernel) hfl rfl (Nat.le_of_ble_eq_true rfl) (fun p e s m args below meth c E hno hr hnm hw ls hl => ?_)
  obtain ⟨hx, hb, hts, hown, hml, hTT, -⟩ := id E
  have hl : lv_has ls 5 [(0, .ref (g_r G)), (1, .int a0), (2, .int a1), (3, .int a2)] := hl
  obtain ⟨H, hH⟩ : ∃ H, H = s.heap := ⟨_, rfl⟩
  obtain ⟨locs, hlo⟩ : ∃ L : List Loc, L = [] := ⟨_, rfl⟩
  rw [← hH, ← hlo]
  rw [← hlo] at hw
  replace hw : w_W G M r s H locs := by rw [hH]; exact hw
  have w14 : ∀ (n : Nat) (x4 : Int32) (r : Rho) (H : Heap) (locs : List Loc) (ls : Array Slot), w_W G M r s H locs → lv_has ls 5 [(0, .ref (g_r G)), (2, .int a1), (4, .int x4)] → W p l e rm_R_wins s m args below meth c H locs 0 0 (PQ G below args s rm_R_wins.cells rm_R_wins.slots (fun z => (.inl (some (.int z.1)), M, z.2)) (f_R_wins_14 N a0 a1 a2 n x4 r)) (F0 m 14 ls []) := by
    intro n
    induction n with
    | zero => intros; exact W_none
    | succ n ih =>
      intro x4 r H locs ls hw hl
      rw [f_R_wins_14]
      refine lv_iload hx hb dX12_wins_14 (lv_at hl 2 rfl) ?_
      refine lv_aload_n hx hb dX12_wins_16 rfl (lv_at hl 0 rfl) ?_
      refine rx_getA E hw on kF_R_7_11 (by decide) dX12_wins_17 ?_
      refine lv_iconst (v := 5) hx hb dX12_wins_20 (by decide) ?_
      refine rx_iald E hw on (by decide) dX12_wins_21 (fun v3 => ?_)
      refine cx_icmp_ge (tgt := 44) E dX12_wins_22 (by decide) (fun _ => ?_) (fun _ => ?_)
      · refine lv_iconst (v := 1) hx hb dX12_wins_44 (by decide) ?_
        exact p_zret E hw hr (by decide) (Nat.le_of_ble_eq_true rfl) (Nat.le_of_ble_eq_true rfl) rfl dX12_wins_45
      · refine lv_aload_n hx hb dX12_wins_25 rfl (lv_at hl 0 rfl) ?_
        refine rx_getA E hw on kF_R_32_11 (by decide) dX12_wins_26 ?_
        refine lv_iload hx hb dX12_wins_29 (lv_at hl 2 rfl) ?_
        refine rx_iald E hw on (by decide) dX12_wins_31 (fun v4 => ?_)
        refine lv_iload_n hx hb dX12_wins_32 rfl (lv_at hl 1 rfl) ?_
        refine cx_icmp_eq (tgt := 38) E dX12_wins_33 (by decide) (fun _ => ?_) (fun _ => ?_)
        · refine lv_iinc (v := x4 + 1) (lv' := [(4, .int (x4 + 1)), (0, .ref (g_r G)), (2, .int a1)]) hx hb dX12_wins_38 hl (k := 2) rfl rfl (by decide) rfl (fun ls hl => ?_)
          refine lv_goto (tgt := 14) hx hb dX12_wins_41 (by decide) ?_
          exact ih (x4 + 1) r _ _ _ hw (lv_sub hl [1, 2, 0] rfl)
        · refine lv_iconst (v := 0) hx hb dX12_wins_36 (by decide) ?_
          exact p_zret E hw hr (by decide) (Nat.le_of_ble_eq_true rfl) (Nat.le_of_ble_eq_true rfl) rfl dX12_wins_37
  unfold f_R_wins
  refine lv_aload_n hx hb dX12_wins_0 rfl (lv_at hl 0 rfl) ?_
  refine lv_iload_n hx hb dX12_wins_1 rfl (lv_at hl 1 rfl) ?_
  refine lv_iload_n hx hb dX12_wins_2 rfl (lv_at hl 2 rfl) ?_
  refine W_bind fun z1 hz => ?_
  refine w_after (cells1 := 0) (slots1 := 0) (w_runV E kV_R_360 kc_X12_starts (t_R_starts l hfl G on N a0 a1 M r ((fun z => (.inl none, M, z)) z1) (by rw [hz]; rfl)) ⟨Nat.le_of_ble_eq_true rfl, Nat.le_of_ble_eq_true rfl⟩ hw (w_recvR E hw on) rfl hl.1 rfl (Nat.le_of_ble_eq_true rfl) dX12_wins_3 ⟨Nat.le_of_ble_eq_true rfl, Nat.le_of_ble_eq_true rfl⟩) hw rfl (Nat.le_of_ble_eq_true rfl) (Nat.le_of_ble_eq_true rfl) (fun H locs hw => ?_)
  refine W.eq (g2 := F0 m 6 ls []) rfl ?_
  have hw : w_W G M z1 s H locs := hw
  refine lv_aload_n hx hb dX12_wins_6 rfl (lv_at hl 0 rfl) ?_
  refine lv_iload_n hx hb dX12_wins_7 rfl (lv_at hl 3 rfl) ?_
  refine W_bind fun z2 hz => ?_
  refine w_after (cells1 := 0) (slots1 := 0) (w_runV E kV_R_363 kc_X12_years (t_R_years l hfl G on N a2 M z1 ((fun z => (.inl none, M, z)) z2) (by rw [hz]; rfl)) ⟨Nat.le_of_ble_eq_true rfl, Nat.le_of_ble_eq_true rfl⟩ hw (w_recvR E hw on) rfl hl.1 rfl (Nat.le_of_ble_eq_true rfl) dX12_wins_8 ⟨Nat.le_of_ble_eq_true rfl, Nat.le_of_ble_eq_true rfl⟩) hw rfl (Nat.le_of_ble_eq_true rfl) (Nat.le_of_ble_eq_true rfl) (fun H locs hw => ?_)
  refine W.eq (g2 := F0 m 11 ls []) rfl ?_
  have hw : w_W G M z2 s H locs := hw
  refine lv_iconst (v := 0) hx hb dX12_wins_11 (by decide) ?_
  refine lv_istore (lv' := [(4, .int 0), (0, .ref (g_r G)), (1, .int a0), (2, .int a1), (3, .int a2)]) hx hb dX12_wins_12 hl (by decide) rfl (fun ls hl => ?_)
  exact w14  N 0 z2 _ _ _ hw (lv_sub hl [1, 3, 0] rfl)
set_option maxHeartbeats 4000000 in
set_option maxRecDepth 100000 in
theorem t_R_told (l : Launch) (hfl : l.stackTraces = false) (G : wG) (on : g_on G = true) (N : Nat) (a0 : Int32) (a1 : Int32) (M : Mem) (r : Rho) : Ctr l yX12_told (wWs yX12_told cX12_told 5 (some .int)) rm_R_told rm_R_told.cells rm_R_told.slots G [.ref (g_r G), .int a0, .int a1] M r ((f_R_told N a0 a1 r).map (fun z => (.inl (some (.int z.1)), M, z.2))) := by
  refine Ctr.ofF (own := "CheekTownModel") (by decide +kernel) hfl rfl (Nat.le_of_ble_eq_true rfl) (fun p e s m args below meth c E hno hr hnm hw ls hl => ?_)
  obtain ⟨hx, hb, hts, hown, hml, hTT, -⟩ := id E
  have hl : lv_has ls 5 [(0, .ref (g_r G)), (1, .int a0), (2, .int a1)] := hl
  obtain ⟨H, hH⟩ : ∃ H, H = s.heap := ⟨_, rfl⟩
  obtain ⟨locs, hlo⟩ : ∃ L : List Loc, L = [] := ⟨_, rfl⟩
  rw [← hH, ← hlo]
  rw [← hlo] at hw
  replace hw : w_W G M r s H locs := by rw [hH]; exact hw
  have w77 : ∀ (k44 : Int32 → Int32 → Rho → Option (Int32 × Rho)) (hk44 : ∀ (x3 : Int32) (x4 : Int32) (r : Rho) (H : Heap) (locs : List Loc) (ls : Array Slot), w_W G M r s H locs → lv_has ls 5 [(0, .ref (g_r G)), (1, .int a0), (2, .int a1), (3, .int x3), (4, .int x4)] → W p l e rm_R_told s m args below meth c H locs 0 0 (PQ G below args s rm_R_told.cells rm_R_told.slots (fun z => (.inl (some (.int z.1)), M, z.2)) (k44 x3 x4 r)) (F0 m 44 ls [])) (x3 : Int32) (x4 : Int32) (r : Rho) (H : Heap) (locs : List Loc) (ls : Array Slot), w_W G M r s H locs → lv_has ls 5 [(0, .ref (g_r G)), (1, .int a0), (2, .int a1), (3, .int x3), (4, .int x4)] → W p l e rm_R_told s m args below meth c H locs 0 0 (PQ G below args s rm_R_told.cells rm_R_told.slots (fun z => (.inl (some (.int z.1)), M, z.2)) (f_R_told_77 N a0 a1 k44 x3 x4 r)) (F0 m 77 ls []) := by
    intro k44 hk44 x3 x4 r H locs ls hw hl
    unfold f_R_told_77
    refine lv_aload_n hx hb dX12_told_77 rfl (lv_at hl 0 rfl) ?_
    refine lv_iload hx hb dX12_told_78 (lv_at hl 4 rfl) ?_
    refine lv_iload_n hx hb dX12_told_80 rfl (lv_at hl 1 rfl) ?_
    refine lv_iload_n hx hb dX12_told_81 rfl (lv_at hl 2 rfl) ?_
    refine W_bind fun z6 hz => ?_
    refine w_after (cells1 := 0) (slots1 := 0) (w_runV E kV_R_369 kc_X12_wins (t_R_wins l hfl G on N x4 a0 a1 M r ((fun z => (.inl (some (.int z.1)), M, z.2)) z6) (by rw [hz]; rfl)) ⟨Nat.le_of_ble_eq_true rfl, Nat.le_of_ble_eq_true rfl⟩ hw (w_recvR E hw on) rfl hl.1 rfl (Nat.le_of_ble_eq_true rfl) dX12_told_82 ⟨Nat.le_of_ble_eq_true rfl, Nat.le_of_ble_eq_true rfl⟩) hw rfl (Nat.le_of_ble_eq_true rfl) (Nat.le_of_ble_eq_true rfl) (fun H locs hw => ?_)
    refine W.eq (g2 := F0 m 85 ls [.int z6.1]) rfl ?_
    have hw : w_W G M z6.2 s H locs := hw
    refine cx_if_eq (tgt := 91) E dX12_told_85 (by decide) (fun _ => ?_) (fun _ => ?_)
    · refine lv_iinc (v := x4 + 1) (lv' := [(4, .int (x4 + 1)), (0, .ref (g_r G)), (1, .int a0), (2, .int a1), (3, .int x3)]) hx hb dX12_told_91 hl (k := 4) rfl rfl (by decide) rfl (fun ls hl => ?_)
      refine lv_goto (tgt := 44) hx hb dX12_told_94 (by decide) ?_
      exact hk44 x3 (x4 + 1) z6.2 _ _ _ hw (lv_sub hl [1, 2, 3, 4, 0] rfl)
    · refine lv_iload hx hb dX12_told_88 (lv_at hl 4 rfl) ?_
      refine lv_istore_n (lv' := [(3, .int x4), (0, .ref (g_r G)), (1, .int a0), (2, .int a1), (4, .int x4)]) hx hb dX12_told_90 rfl hl (by decide) rfl (fun ls hl => ?_)
      refine lv_iinc (v := x4 + 1) (lv' := [(4, .int (x4 + 1)), (3, .int x4), (0, .ref (g_r G)), (1, .int a0), (2, .int a1)]) hx hb dX12_told_91 hl (k := 4) rfl rfl (by decide) rfl (fun ls hl => ?_)
      refine lv_goto (tgt := 44) hx hb dX12_told_94 (by decide) ?_
      exact hk44 x4 (x4 + 1) z6.2 _ _ _ hw (lv_sub hl [2, 3, 4, 1, 0] rfl)
  have w44 : ∀ (n : Nat) (x3 : Int32) (x4 : Int32) (r : Rho) (H : Heap) (locs : List Loc) (ls : Array Slot), w_W G M r s H locs → lv_has ls 5 [(0, .ref (g_r G)), (1, .int a0), (2, .int a1), (3, .int x3), (4, .int x4)] → W p l e rm_R_told s m args below meth c H locs 0 0 (PQ G below args s rm_R_told.cells rm_R_told.slots (fun z => (.inl (some (.int z.1)), M, z.2)) (f_R_told_44 N a0 a1 n x3 x4 r)) (F0 m 44 ls []) := by
    intro n
    induction n with
    | zero => intros; exact W_none
    | succ n ih =>
      intro x3 x4 r H locs ls hw hl
      rw [f_R_told_44]
      refine lv_iload hx hb dX12_told_44 (lv_at hl 4 rfl) ?_
      refine lv_iconst (v := 1) hx hb dX12_told_46 (by decide) ?_
      refine lv_aload_n hx hb dX12_told_47 rfl (lv_at hl 0 rfl) ?_
      refine rx_getA E hw on kF_R_7_11 (by decide) dX12_told_48 ?_
      refine lv_iconst (v := 5) hx hb dX12_told_51 (by decide) ?_
      refine rx_iald E hw on (by decide) dX12_told_52 (fun v3 => ?_)
      refine lv_ishl hx hb dX12_told_53 ?_
      refine cx_icmp_ge (tgt := 97) E dX12_told_54 (by decide) (fun _ => ?_) (fun _ => ?_)
      · refine lv_iload_n hx hb dX12_told_97 rfl (lv_at hl 3 rfl) ?_
        exact p_iret E hw hr (Nat.le_of_ble_eq_true rfl) (Nat.le_of_ble_eq_true rfl) rfl dX12_told_98
      · refine lv_iload_n hx hb dX12_told_57 rfl (lv_at hl 3 rfl) ?_
        refine lv_iconst (v := (-1)) hx hb dX12_told_58 (by decide) ?_
        refine cx_icmp_eq (tgt := 77) E dX12_told_59 (by decide) (fun _ => ?_) (fun _ => ?_)
        · exact w77 (f_R_told_44 N a0 a1 n) ih x3 x4 r _ _ _ hw (lv_sub hl [0, 1, 2, 3, 4] rfl)
        · refine lv_iload hx hb dX12_told_62 (lv_at hl 4 rfl) ?_
          refine W_bind fun z4 hz => ?_
          refine w_after (cells1 := 0) (slots1 := 0) (w_runS E kS_R_340 kc_X12_bits (t_R_bits l hfl G N x4 M r ((fun z => (.inl (some (.int z)), M, r)) z4) (by rw [hz]; rfl)) ⟨Nat.le_of_ble_eq_true rfl, Nat.le_of_ble_eq_true rfl⟩ hw rfl hl.1 rfl (Nat.le_of_ble_eq_true rfl) dX12_told_64 ⟨Nat.le_of_ble_eq_true rfl, Nat.le_of_ble_eq_true rfl⟩) hw rfl (Nat.le_of_ble_eq_true rfl) (Nat.le_of_ble_eq_true rfl) (fun H locs hw => ?_)
          refine W.eq (g2 := F0 m 67 ls [.int z4]) rfl ?_
          have hw : w_W G M r s H locs := hw
          refine lv_iload_n hx hb dX12_told_67 rfl (lv_at hl 3 rfl) ?_
          refine W_bind fun z5 hz => ?_
          refine w_after (cells1 := 0) (slots1 := 0) (w_runS E kS_R_340 kc_X12_bits (t_R_bits l hfl G N x3 M r ((fun z => (.inl (some (.int z)), M, r)) z5) (by rw [hz]; rfl)) ⟨Nat.le_of_ble_eq_true rfl, Nat.le_of_ble_eq_true rfl⟩ hw rfl hl.1 rfl (Nat.le_of_ble_eq_true rfl) dX12_told_68 ⟨Nat.le_of_ble_eq_true rfl, Nat.le_of_ble_eq_true rfl⟩) hw rfl (Nat.le_of_ble_eq_true rfl) (Nat.le_of_ble_eq_true rfl) (fun H locs hw => ?_)
          refine W.eq (g2 := F0 m 71 ls [.int z5, .int z4]) rfl ?_
          have hw : w_W G M r s H locs := hw
          refine cx_icmp_lt (tgt := 77) E dX12_told_71 (by decide) (fun _ => ?_) (fun _ => ?_)
          · exact w77 (f_R_told_44 N a0 a1 n) ih x3 x4 r _ _ _ hw (lv_sub hl [0, 1, 2, 3, 4] rfl)
          · refine lv_goto (tgt := 91) hx hb dX12_told_74 (by decide) ?_
            refine lv_iinc (v := x4 + 1) (lv' := [(4, .int (x4 + 1)), (0, .ref (g_r G)), (1, .int a0), (2, .int a1), (3, .int x3)]) hx hb dX12_told_91 hl (k := 4) rfl rfl (by decide) rfl (fun ls hl => ?_)
            refine lv_goto (tgt := 44) hx hb dX12_told_94 (by decide) ?_
            exact ih x3 (x4 + 1) r _ _ _ hw (lv_sub hl [1, 2, 3, 4, 0] rfl)
  have w27 : ∀ (y1 : Int32) (r : Rho) (H : Heap) (locs : List Loc) (ls : Array Slot), w_W G M r s H locs → lv_has ls 5 [(0, .ref (g_r G)), (1, .int a0), (2, .int a1)] → W p l e rm_R_told s m args below meth c H locs 0 0 (PQ G below args s rm_R_told.cells rm_R_told.slots (fun z => (.inl (some (.int z.1)), M, z.2)) (f_R_told_27 N a0 a1 y1 r)) (F0 m 27 ls [.int y1, .ref (g_r G)]) := by
    intro y1 r H locs ls hw hl
    unfold f_R_told_27
    refine rx_putI E hw on kF_R_56_11 (by decide) kT_11_0 dX12_told_27 (fun H locs hw => ?_)
    refine lv_aload_n hx hb dX12_told_30 rfl (lv_at hl 0 rfl) ?_
    refine rx_getI E hw on kF_R_56_11 (by decide) dX12_told_31 ?_
    refine cx_if_le (tgt := 39) E dX12_told_34 (by decide) (fun _ => ?_) (fun _ => ?_)
    · refine lv_iconst (v := (-1)) hx hb dX12_told_39 (by decide) ?_
      refine lv_istore_n (lv' := [(3, .int (-1)), (0, .ref (g_r G)), (1, .int a0), (2, .int a1)]) hx hb dX12_told_40 rfl hl (by decide) rfl (fun ls hl => ?_)
      refine lv_iconst (v := 0) hx hb dX12_told_41 (by decide) ?_
      refine lv_istore (lv' := [(4, .int 0), (3, .int (-1)), (0, .ref (g_r G)), (1, .int a0), (2, .int a1)]) hx hb dX12_told_42 hl (by decide) rfl (fun ls hl => ?_)
      exact w44  N (-1) 0 (r_set r 0 y1) _ _ _ hw (lv_sub hl [2, 3, 4, 1, 0] rfl)
    · refine lv_iconst (v := 0) hx hb dX12_told_37 (by decide) ?_
      exact p_iret E hw hr (Nat.le_of_ble_eq_true rfl) (Nat.le_of_ble_eq_true rfl) rfl dX12_told_38
  unfold f_R_told
  refine lv_aload_n hx hb dX12_told_0 rfl (lv_at hl 0 rfl) ?_
  refine lv_iload_n hx hb dX12_told_1 rfl (lv_at hl 1 rfl) ?_
  refine W_bind fun z1 hz => ?_
  refine w_after (cells1 := 0) (slots1 := 0) (w_runS E kS_R_260 kc_X12_isCode (t_R_isCode l hfl G a0 M r ((fun z => (.inl (some (.int z)), M, r)) z1) (by rw [hz]; rfl)) ⟨Nat.le_of_ble_eq_true rfl, Nat.le_of_ble_eq_true rfl⟩ hw rfl hl.1 rfl (Nat.le_of_ble_eq_true rfl) dX12_told_2 ⟨Nat.le_of_ble_eq_true rfl, Nat.le_of_ble_eq_true rfl⟩) hw rfl (Nat.le_of_ble_eq_true rfl) (Nat.le_of_ble_eq_true rfl) (fun H locs hw => ?_)
  refine W.eq (g2 := F0 m 5 ls [.int z1, .ref (g_r G)]) rfl ?_
  have hw : w_W G M r s H locs := hw
  refine cx_if_ne (tgt := 12) E dX12_told_5 (by decide) (fun _ => ?_) (fun _ => ?_)
  · refine lv_iload_n hx hb dX12_told_12 rfl (lv_at hl 2 rfl) ?_
    refine lv_iconst (v := 0) hx hb dX12_told_13 (by decide) ?_
    refine lv_bipush (v := 60) hx hb dX12_told_14 (by decide) ?_
    refine W_bind fun z2 hz => ?_
    refine w_after (cells1 := 0) (slots1 := 0) (w_runS E kS_R_59 kc_X12_isIn (t_R_isIn l hfl G a1 0 60 M r ((fun z => (.inl (some (.int z)), M, r)) z2) (by rw [hz]; rfl)) ⟨Nat.le_of_ble_eq_true rfl, Nat.le_of_ble_eq_true rfl⟩ hw rfl hl.1 rfl (Nat.le_of_ble_eq_true rfl) dX12_told_16 ⟨Nat.le_of_ble_eq_true rfl, Nat.le_of_ble_eq_true rfl⟩) hw rfl (Nat.le_of_ble_eq_true rfl) (Nat.le_of_ble_eq_true rfl) (fun H locs hw => ?_)
    refine W.eq (g2 := F0 m 19 ls [.int z2, .ref (g_r G)]) rfl ?_
    have hw : w_W G M r s H locs := hw
    refine cx_if_ne (tgt := 26) E dX12_told_19 (by decide) (fun _ => ?_) (fun _ => ?_)
    · refine lv_iconst (v := 0) hx hb dX12_told_26 (by decide) ?_
      exact w27  0 r _ _ _ hw (lv_sub hl [0, 1, 2] rfl)
    · refine lv_iconst (v := 2) hx hb dX12_told_22 (by decide) ?_
      refine lv_goto (tgt := 27) hx hb dX12_told_23 (by decide) ?_
      exact w27  2 r _ _ _ hw (lv_sub hl [0, 1, 2] rfl)
  · refine lv_iconst (v := 1) hx hb dX12_told_8 (by decide) ?_
    refine lv_goto (tgt := 27) hx hb dX12_told_9 (by decide) ?_
    exact w27  1 r _ _ _ hw (lv_sub hl [0, 1, 2] rfl)
set_option maxHeartbeats 4000000 in
set_option maxRecDepth 100000 in
theorem t_R_coldsNow (l : Launch) (hfl : l.stackTraces = false) (G : wG) (on : g_on G = true) (N : Nat) (M : Mem) (r : Rho) : Ctr l yX12_coldsNow (wWs yX12_coldsNow cX12_coldsNow 3 (some .int)) rm_R_coldsNow rm_R_coldsNow.cells rm_R_coldsNow.slots G [.ref (g_r G)] M r ((f_R_coldsNow N r).map (fun z => (.inl (some (.int z)), M, r))) := by
  refine Ctr.ofF (own := "CheekTownModel") (by decide +kernel) hfl rfl (Nat.le_of_ble_eq_true rfl) (fun p e s m args below meth c E hno hr hnm hw ls hl => ?_)
  obtain ⟨hx, hb, hts, hown, hml, hTT, -⟩ := id E
  have hl : lv_has ls 3 [(0, .ref (g_r G))] := hl
  obtain ⟨H, hH⟩ : ∃ H, H = s.heap := ⟨_, rfl⟩
  obtain ⟨locs, hlo⟩ : ∃ L : List Loc, L = [] := ⟨_, rfl⟩
  rw [← hH, ← hlo]
  rw [← hlo] at hw
  replace hw : w_W G M r s H locs := by rw [hH]; exact hw
  have w4 : ∀ (n : Nat) (x1 : Int32) (x2 : Int32) (H : Heap) (locs : List Loc) (ls : Array Slot), w_W G M r s H locs → lv_has ls 3 [(0, .ref (g_r G)), (1, .int x1), (2, .int x2)] → W p l e rm_R_coldsNow s m args below meth c H locs 0 0 (PQ G below args s rm_R_coldsNow.cells rm_R_coldsNow.slots (fun z => (.inl (some (.int z)), M, r)) (f_R_coldsNow_4 N r n x1 x2)) (F0 m 4 ls []) := by
    intro n
    induction n with
    | zero => intros; exact W_none
    | succ n ih =>
      intro x1 x2 H locs ls hw hl
      rw [f_R_coldsNow_4]
      refine lv_iload_n hx hb dX12_coldsNow_4 rfl (lv_at hl 2 rfl) ?_
      refine lv_aload_n hx hb dX12_coldsNow_5 rfl (lv_at hl 0 rfl) ?_
      refine rx_getA E hw on kF_R_7_11 (by decide) dX12_coldsNow_6 ?_
      refine lv_iconst (v := 5) hx hb dX12_coldsNow_9 (by decide) ?_
      refine rx_iald E hw on (by decide) dX12_coldsNow_10 (fun v1 => ?_)
      refine cx_icmp_ge (tgt := 31) E dX12_coldsNow_11 (by decide) (fun _ => ?_) (fun _ => ?_)
      · refine lv_iload_n hx hb dX12_coldsNow_31 rfl (lv_at hl 1 rfl) ?_
        exact p_iret E hw hr (Nat.le_of_ble_eq_true rfl) (Nat.le_of_ble_eq_true rfl) rfl dX12_coldsNow_32
      · refine lv_iload_n hx hb dX12_coldsNow_14 rfl (lv_at hl 1 rfl) ?_
        refine lv_aload_n hx hb dX12_coldsNow_15 rfl (lv_at hl 0 rfl) ?_
        refine lv_iload_n hx hb dX12_coldsNow_16 rfl (lv_at hl 2 rfl) ?_
        refine lv_iconst (v := 4) hx hb dX12_coldsNow_17 (by decide) ?_
        refine W_bind fun z2 hz => ?_
        refine w_after (cells1 := 0) (slots1 := 0) (w_runV E kV_R_257 kc_X12_of (t_R_of l hfl G on x2 4 M r ((fun z => (.inl (some (.int z)), M, r)) z2) (by rw [hz]; rfl)) ⟨Nat.le_of_ble_eq_true rfl, Nat.le_of_ble_eq_true rfl⟩ hw (w_recvR E hw on) rfl hl.1 rfl (Nat.le_of_ble_eq_true rfl) dX12_coldsNow_18 ⟨Nat.le_of_ble_eq_true rfl, Nat.le_of_ble_eq_true rfl⟩) hw rfl (Nat.le_of_ble_eq_true rfl) (Nat.le_of_ble_eq_true rfl) (fun H locs hw => ?_)
        refine W.eq (g2 := F0 m 21 ls [.int z2, .int x1]) rfl ?_
        have hw : w_W G M r s H locs := hw
        refine lv_iload_n hx hb dX12_coldsNow_21 rfl (lv_at hl 2 rfl) ?_
        refine lv_ishl hx hb dX12_coldsNow_22 ?_
        refine lv_ior hx hb dX12_coldsNow_23 ?_
        refine lv_istore_n (lv' := [(1, .int (x1 ||| (z2 <<< (x2 &&& 31)))), (0, .ref (g_r G)), (2, .int x2)]) hx hb dX12_coldsNow_24 rfl hl (by decide) rfl (fun ls hl => ?_)
        refine lv_iinc (v := x2 + 1) (lv' := [(2, .int (x2 + 1)), (1, .int (x1 ||| (z2 <<< (x2 &&& 31)))), (0, .ref (g_r G))]) hx hb dX12_coldsNow_25 hl (k := 2) rfl rfl (by decide) rfl (fun ls hl => ?_)
        refine lv_goto (tgt := 4) hx hb dX12_coldsNow_28 (by decide) ?_
        exact ih (x1 ||| (z2 <<< (x2 &&& 31))) (x2 + 1) _ _ _ hw (lv_sub hl [2, 1, 0] rfl)
  unfold f_R_coldsNow
  refine lv_iconst (v := 0) hx hb dX12_coldsNow_0 (by decide) ?_
  refine lv_istore_n (lv' := [(1, .int 0), (0, .ref (g_r G))]) hx hb dX12_coldsNow_1 rfl hl (by decide) rfl (fun ls hl => ?_)
  refine lv_iconst (v := 0) hx hb dX12_coldsNow_2 (by decide) ?_
  refine lv_istore_n (lv' := [(2, .int 0), (1, .int 0), (0, .ref (g_r G))]) hx hb dX12_coldsNow_3 rfl hl (by decide) rfl (fun ls hl => ?_)
  exact w4  N 0 0 _ _ _ hw (lv_sub hl [2, 1, 0] rfl)
set_option maxHeartbeats 4000000 in
set_option maxRecDepth 100000 in
theorem t_R_passes (l : Launch) (hfl : l.stackTraces = false) (G : wG) (on : g_on G = true) (N : Nat) (a0 : Int32) (a1 : Int32) (M : Mem) (r : Rho) : Ctr l yX12_passes (wWs yX12_passes cX12_passes 7 (some .int)) rm_R_passes rm_R_passes.cells rm_R_passes.slots G [.ref (g_r G), .int a0, .int a1] M r ((f_R_passes N a0 a1 r).map (fun z => (.inl (some (.int z)), M, r))) := by
  refine Ctr.ofF (own := "CheekTownModel") (by decide +kernel) hfl rfl (Nat.le_of_ble_eq_true rfl) (fun p e s m args below meth c E hno hr hnm hw ls hl => ?_)
  obtain ⟨hx, hb, hts, hown, hml, hTT, -⟩ := id E
  have hl : lv_has ls 7 [(0, .ref (g_r G)), (1, .int a0), (2, .int a1)] := hl
  obtain ⟨H, hH⟩ : ∃ H, H = s.heap := ⟨_, rfl⟩
  obtain ⟨locs, hlo⟩ : ∃ L : List Loc, L = [] := ⟨_, rfl⟩
  rw [← hH, ← hlo]
  rw [← hlo] at hw
  replace hw : w_W G M r s H locs := by rw [hH]; exact hw
  have w17 : ∀ (k8 : Int32 → Int32 → Option (Int32)) (hk8 : ∀ (x3 : Int32) (x4 : Int32) (H : Heap) (locs : List Loc) (ls : Array Slot), w_W G M r s H locs → lv_has ls 7 [(0, .ref (g_r G)), (1, .int a0), (2, .int a1), (3, .int x3), (4, .int x4)] → W p l e rm_R_passes s m args below meth c H locs 0 0 (PQ G below args s rm_R_passes.cells rm_R_passes.slots (fun z => (.inl (some (.int z)), M, r)) (k8 x3 x4)) (F0 m 8 ls [])) (n : Nat) (x3 : Int32) (x4 : Int32) (x5 : Int32) (H : Heap) (locs : List Loc) (ls : Array Slot), w_W G M r s H locs → lv_has ls 7 [(0, .ref (g_r G)), (1, .int a0), (2, .int a1), (3, .int x3), (4, .int x4), (5, .int x5)] → W p l e rm_R_passes s m args below meth c H locs 0 0 (PQ G below args s rm_R_passes.cells rm_R_passes.slots (fun z => (.inl (some (.int z)), M, r)) (f_R_passes_17 N a0 a1 r k8 n x3 x4 x5)) (F0 m 17 ls []) := by
    intro k8 hk8 n
    induction n with
    | zero => intros; exact W_none
    | succ n ih =>
      intro x3 x4 x5 H locs ls hw hl
      rw [f_R_passes_17]
      refine lv_iload hx hb dX12_passes_17 (lv_at hl 5 rfl) ?_
      refine lv_aload_n hx hb dX12_passes_19 rfl (lv_at hl 0 rfl) ?_
      refine rx_getA E hw on kF_R_7_11 (by decide) dX12_passes_20 ?_
      refine lv_bipush (v := 6) hx hb dX12_passes_23 (by decide) ?_
      refine rx_iald E hw on (by decide) dX12_passes_25 (fun v2 => ?_)
      refine cx_icmp_ge (tgt := 73) E dX12_passes_26 (by decide) (fun _ => ?_) (fun _ => ?_)
      · refine lv_iinc (v := x4 + 1) (lv' := [(4, .int (x4 + 1)), (0, .ref (g_r G)), (1, .int a0), (2, .int a1), (3, .int x3), (5, .int x5)]) hx hb dX12_passes_73 hl (k := 4) rfl rfl (by decide) rfl (fun ls hl => ?_)
        refine lv_goto (tgt := 8) hx hb dX12_passes_76 (by decide) ?_
        exact hk8 x3 (x4 + 1) _ _ _ hw (lv_sub hl [1, 2, 3, 4, 0] rfl)
      · refine lv_iconst (v := 1) hx hb dX12_passes_29 (by decide) ?_
        refine lv_aload_n hx hb dX12_passes_30 rfl (lv_at hl 0 rfl) ?_
        refine lv_iload hx hb dX12_passes_31 (lv_at hl 5 rfl) ?_
        refine W_bind fun z3 hz => ?_
        refine w_after (cells1 := 0) (slots1 := 0) (w_runV E kV_R_63 kc_X12_who (t_R_who l hfl G on x5 M r ((fun z => (.inl (some (.int z)), M, r)) z3) (by rw [hz]; rfl)) ⟨Nat.le_of_ble_eq_true rfl, Nat.le_of_ble_eq_true rfl⟩ hw (w_recvR E hw on) rfl hl.1 rfl (Nat.le_of_ble_eq_true rfl) dX12_passes_33 ⟨Nat.le_of_ble_eq_true rfl, Nat.le_of_ble_eq_true rfl⟩) hw rfl (Nat.le_of_ble_eq_true rfl) (Nat.le_of_ble_eq_true rfl) (fun H locs hw => ?_)
        refine W.eq (g2 := F0 m 36 ls [.int z3, .int 1]) rfl ?_
        have hw : w_W G M r s H locs := hw
        refine lv_ishl hx hb dX12_passes_36 ?_
        refine lv_iconst (v := 1) hx hb dX12_passes_37 (by decide) ?_
        refine lv_aload_n hx hb dX12_passes_38 rfl (lv_at hl 0 rfl) ?_
        refine lv_iload hx hb dX12_passes_39 (lv_at hl 5 rfl) ?_
        refine W_bind fun z4 hz => ?_
        refine w_after (cells1 := 0) (slots1 := 0) (w_runV E kV_R_67 kc_X12_whom (t_R_whom l hfl G on x5 M r ((fun z => (.inl (some (.int z)), M, r)) z4) (by rw [hz]; rfl)) ⟨Nat.le_of_ble_eq_true rfl, Nat.le_of_ble_eq_true rfl⟩ hw (w_recvR E hw on) rfl hl.1 rfl (Nat.le_of_ble_eq_true rfl) dX12_passes_41 ⟨Nat.le_of_ble_eq_true rfl, Nat.le_of_ble_eq_true rfl⟩) hw rfl (Nat.le_of_ble_eq_true rfl) (Nat.le_of_ble_eq_true rfl) (fun H locs hw => ?_)
        refine W.eq (g2 := F0 m 44 ls [.int z4, .int 1, .int (1 <<< (z3 &&& 31))]) rfl ?_
        have hw : w_W G M r s H locs := hw
        refine lv_ishl hx hb dX12_passes_44 ?_
        refine lv_ior hx hb dX12_passes_45 ?_
        refine lv_istore (lv' := [(6, .int ((1 <<< (z3 &&& 31)) ||| (1 <<< (z4 &&& 31)))), (0, .ref (g_r G)), (1, .int a0), (2, .int a1), (3, .int x3), (4, .int x4), (5, .int x5)]) hx hb dX12_passes_46 hl (by decide) rfl (fun ls hl => ?_)
        refine lv_iload_n hx hb dX12_passes_48 rfl (lv_at hl 2 rfl) ?_
        refine lv_iload hx hb dX12_passes_49 (lv_at hl 0 rfl) ?_
        refine lv_iand hx hb dX12_passes_51 ?_
        refine cx_if_ne (tgt := 67) E dX12_passes_52 (by decide) (fun _ => ?_) (fun _ => ?_)
        · refine lv_iinc (v := x5 + 1) (lv' := [(5, .int (x5 + 1)), (6, .int ((1 <<< (z3 &&& 31)) ||| (1 <<< (z4 &&& 31)))), (0, .ref (g_r G)), (1, .int a0), (2, .int a1), (3, .int x3), (4, .int x4)]) hx hb dX12_passes_67 hl (k := 6) rfl rfl (by decide) rfl (fun ls hl => ?_)
          refine lv_goto (tgt := 17) hx hb dX12_passes_70 (by decide) ?_
          exact ih x3 x4 (x5 + 1) _ _ _ hw (lv_sub hl [2, 3, 4, 5, 6, 0] rfl)
        · refine lv_iload_n hx hb dX12_passes_55 rfl (lv_at hl 4 rfl) ?_
          refine lv_iload hx hb dX12_passes_56 (lv_at hl 0 rfl) ?_
          refine lv_iand hx hb dX12_passes_58 ?_
          refine cx_if_eq (tgt := 67) E dX12_passes_59 (by decide) (fun _ => ?_) (fun _ => ?_)
          · refine lv_iinc (v := x5 + 1) (lv' := [(5, .int (x5 + 1)), (6, .int ((1 <<< (z3 &&& 31)) ||| (1 <<< (z4 &&& 31)))), (0, .ref (g_r G)), (1, .int a0), (2, .int a1), (3, .int x3), (4, .int x4)]) hx hb dX12_passes_67 hl (k := 6) rfl rfl (by decide) rfl (fun ls hl => ?_)
            refine lv_goto (tgt := 17) hx hb dX12_passes_70 (by decide) ?_
            exact ih x3 x4 (x5 + 1) _ _ _ hw (lv_sub hl [2, 3, 4, 5, 6, 0] rfl)
          · refine lv_iload_n hx hb dX12_passes_62 rfl (lv_at hl 4 rfl) ?_
            refine lv_iload hx hb dX12_passes_63 (lv_at hl 0 rfl) ?_
            refine lv_ior hx hb dX12_passes_65 ?_
            refine lv_istore_n (lv' := [(3, .int (x3 ||| ((1 <<< (z3 &&& 31)) ||| (1 <<< (z4 &&& 31))))), (6, .int ((1 <<< (z3 &&& 31)) ||| (1 <<< (z4 &&& 31)))), (0, .ref (g_r G)), (1, .int a0), (2, .int a1), (4, .int x4), (5, .int x5)]) hx hb dX12_passes_66 rfl hl (by decide) rfl (fun ls hl => ?_)
            refine lv_iinc (v := x5 + 1) (lv' := [(5, .int (x5 + 1)), (3, .int (x3 ||| ((1 <<< (z3 &&& 31)) ||| (1 <<< (z4 &&& 31))))), (6, .int ((1 <<< (z3 &&& 31)) ||| (1 <<< (z4 &&& 31)))), (0, .ref (g_r G)), (1, .int a0), (2, .int a1), (4, .int x4)]) hx hb dX12_passes_67 hl (k := 6) rfl rfl (by decide) rfl (fun ls hl => ?_)
            refine lv_goto (tgt := 17) hx hb dX12_passes_70 (by decide) ?_
            exact ih (x3 ||| ((1 <<< (z3 &&& 31)) ||| (1 <<< (z4 &&& 31)))) x4 (x5 + 1) _ _ _ hw (lv_sub hl [3, 4, 5, 1, 6, 0] rfl)
  have w8 : ∀ (n : Nat) (x3 : Int32) (x4 : Int32) (H : Heap) (locs : List Loc) (ls : Array Slot), w_W G M r s H locs → lv_has ls 7 [(0, .ref (g_r G)), (1, .int a0), (2, .int a1), (3, .int x3), (4, .int x4)] → W p l e rm_R_passes s m args below meth c H locs 0 0 (PQ G below args s rm_R_passes.cells rm_R_passes.slots (fun z => (.inl (some (.int z)), M, r)) (f_R_passes_8 N a0 a1 r n x3 x4)) (F0 m 8 ls []) := by
    intro n
    induction n with
    | zero => intros; exact W_none
    | succ n ih =>
      intro x3 x4 H locs ls hw hl
      rw [f_R_passes_8]
      refine lv_iload hx hb dX12_passes_8 (lv_at hl 4 rfl) ?_
      refine lv_iload_n hx hb dX12_passes_10 rfl (lv_at hl 2 rfl) ?_
      refine cx_icmp_ge (tgt := 79) E dX12_passes_11 (by decide) (fun _ => ?_) (fun _ => ?_)
      · refine lv_iload_n hx hb dX12_passes_79 rfl (lv_at hl 3 rfl) ?_
        exact p_iret E hw hr (Nat.le_of_ble_eq_true rfl) (Nat.le_of_ble_eq_true rfl) rfl dX12_passes_80
      · refine lv_iconst (v := 0) hx hb dX12_passes_14 (by decide) ?_
        refine lv_istore (lv' := [(5, .int 0), (0, .ref (g_r G)), (1, .int a0), (2, .int a1), (3, .int x3), (4, .int x4)]) hx hb dX12_passes_15 hl (by decide) rfl (fun ls hl => ?_)
        exact w17 (f_R_passes_8 N a0 a1 r n) ih N x3 x4 0 _ _ _ hw (lv_sub hl [1, 2, 3, 4, 5, 0] rfl)
  unfold f_R_passes
  refine lv_aload_n hx hb dX12_passes_0 rfl (lv_at hl 0 rfl) ?_
  refine W_bind fun z1 hz => ?_
  refine w_after (cells1 := 0) (slots1 := 0) (w_runV E kV_R_372 kc_X12_coldsNow (t_R_coldsNow l hfl G on N M r ((fun z => (.inl (some (.int z)), M, r)) z1) (by rw [hz]; rfl)) ⟨Nat.le_of_ble_eq_true rfl, Nat.le_of_ble_eq_true rfl⟩ hw (w_recvR E hw on) rfl hl.1 rfl (Nat.le_of_ble_eq_true rfl) dX12_passes_1 ⟨Nat.le_of_ble_eq_true rfl, Nat.le_of_ble_eq_true rfl⟩) hw rfl (Nat.le_of_ble_eq_true rfl) (Nat.le_of_ble_eq_true rfl) (fun H locs hw => ?_)
  refine W.eq (g2 := F0 m 4 ls [.int z1]) rfl ?_
  have hw : w_W G M r s H locs := hw
  refine lv_istore_n (lv' := [(3, .int z1), (0, .ref (g_r G)), (1, .int a0), (2, .int a1)]) hx hb dX12_passes_4 rfl hl (by decide) rfl (fun ls hl => ?_)
  refine lv_iconst (v := 0) hx hb dX12_passes_5 (by decide) ?_
  refine lv_istore (lv' := [(4, .int 0), (3, .int z1), (0, .ref (g_r G)), (1, .int a0), (2, .int a1)]) hx hb dX12_passes_6 hl (by decide) rfl (fun ls hl => ?_)
  exact w8  N z1 0 _ _ _ hw (lv_sub hl [2, 3, 4, 1, 0] rfl)

