set_option maxHeartbeats 4000000 in
set_option maxRecDepth 100000 in
theorem t_R_cut (l : Launch) (hfl : l.stackTraces = false) (G : wG) (on : g_on G = true) (N : Nat) (a0 : Int32) (M : Mem) (r : Rho) : Ctr l yX12_cut (wWs yX12_cut cX12_cut 3 (some .int)) rm_R_cut rm_R_cut.cells rm_R_cut.slots G [.ref (g_r G), .int a0] M r ((f_R_cut N a0 r).map (fun z => (.inl (some (.int z.1)), M, z.2))) := by
  refine Ctr.ofF (own := "CheekTownModel") (by decide +kernel) hfl rfl (Nat.le_of_ble_eq_true rfl) (fun p e s m args below meth c E hno hr hnm hw ls hl => ?_)
  obtain ⟨hx, hb, hts, hown, hml, hTT, -⟩ := id E
  have hl : lv_has ls 3 [(0, .ref (g_r G)), (1, .int a0)] := hl
  obtain ⟨H, hH⟩ : ∃ H, H = s.heap := ⟨_, rfl⟩
  obtain ⟨locs, hlo⟩ : ∃ L : List Loc, L = [] := ⟨_, rfl⟩
  rw [← hH, ← hlo]
  rw [← hlo] at hw
  replace hw : w_W G M r s H locs := by rw [hH]; exact hw
  have w54 : ∀ (n : Nat) (x2 : Int32) (r : Rho) (H : Heap) (locs : List Loc) (ls : Array Slot), w_W G M r s H locs → lv_has ls 3 [(0, .ref (g_r G)), (2, .int x2)] → W p l e rm_R_cut s m args below meth c H locs 0 0 (PQ G below args s rm_R_cut.cells rm_R_cut.slots (fun z => (.inl (some (.int z.1)), M, z.2)) (f_R_cut_54 N a0 n x2 r)) (F0 m 54 ls []) := by
    intro n
    induction n with
    | zero => intros; exact W_none
    | succ n ih =>
      intro x2 r H locs ls hw hl
      rw [f_R_cut_54]
      refine lv_iload_n hx hb dX12_cut_54 rfl (lv_at hl 1 rfl) ?_
      refine lv_iconst (v := 2) hx hb dX12_cut_55 (by decide) ?_
      refine lv_aload_n hx hb dX12_cut_56 rfl (lv_at hl 0 rfl) ?_
      refine rx_getA E hw on kF_R_7_11 (by decide) dX12_cut_57 ?_
      refine lv_bipush (v := 6) hx hb dX12_cut_60 (by decide) ?_
      refine rx_iald E hw on (by decide) dX12_cut_62 (fun v6 => ?_)
      refine lv_imul hx hb dX12_cut_63 ?_
      refine cx_icmp_ge (tgt := 95) E dX12_cut_64 (by decide) (fun _ => ?_) (fun _ => ?_)
      · refine lv_aload_n hx hb dX12_cut_95 rfl (lv_at hl 0 rfl) ?_
        refine rx_getA E hw on kF_R_7_11 (by decide) dX12_cut_96 ?_
        refine lv_bipush (v := 6) hx hb dX12_cut_99 (by decide) ?_
        refine rx_iald E hw on (by decide) dX12_cut_101 (fun v7 => ?_)
        exact p_iret E hw hr (Nat.le_of_ble_eq_true rfl) (Nat.le_of_ble_eq_true rfl) rfl dX12_cut_102
      · refine lv_aload_n hx hb dX12_cut_67 rfl (lv_at hl 0 rfl) ?_
        refine rx_getA E hw on kF_R_7_11 (by decide) dX12_cut_68 ?_
        refine lv_sipush (v := 372) hx hb dX12_cut_71 (by decide) ?_
        refine lv_iload_n hx hb dX12_cut_74 rfl (lv_at hl 1 rfl) ?_
        refine lv_iadd hx hb dX12_cut_75 ?_
        refine lv_aload_n hx hb dX12_cut_76 rfl (lv_at hl 0 rfl) ?_
        refine rx_getA E hw on kF_R_7_11 (by decide) dX12_cut_77 ?_
        refine lv_sipush (v := 372) hx hb dX12_cut_80 (by decide) ?_
        refine lv_iload_n hx hb dX12_cut_83 rfl (lv_at hl 1 rfl) ?_
        refine lv_iadd hx hb dX12_cut_84 ?_
        refine lv_iconst (v := 2) hx hb dX12_cut_85 (by decide) ?_
        refine lv_iadd hx hb dX12_cut_86 ?_
        refine rx_iald E hw on (by decide) dX12_cut_87 (fun v8 => ?_)
        refine rx_iast E hw on (by decide) dX12_cut_88 (fun r9 H locs hw => ?_)
        refine lv_iinc (v := x2 + 1) (lv' := [(2, .int (x2 + 1)), (0, .ref (g_r G))]) hx hb dX12_cut_89 hl (k := 1) rfl rfl (by decide) rfl (fun ls hl => ?_)
        refine lv_goto (tgt := 54) hx hb dX12_cut_92 (by decide) ?_
        exact ih (x2 + 1) r9 _ _ _ hw (lv_sub hl [1, 0] rfl)
  have w23 : ∀ (y1 : Int32) (r : Rho) (H : Heap) (locs : List Loc) (ls : Array Slot), w_W G M r s H locs → lv_has ls 3 [(0, .ref (g_r G)), (1, .int a0)] → W p l e rm_R_cut s m args below meth c H locs 0 0 (PQ G below args s rm_R_cut.cells rm_R_cut.slots (fun z => (.inl (some (.int z.1)), M, z.2)) (f_R_cut_23 N a0 y1 r)) (F0 m 23 ls [.int y1, .ref (g_r G)]) := by
    intro y1 r H locs ls hw hl
    unfold f_R_cut_23
    refine rx_putI E hw on kF_R_56_11 (by decide) kT_11_0 dX12_cut_23 (fun H locs hw => ?_)
    refine lv_aload_n hx hb dX12_cut_26 rfl (lv_at hl 0 rfl) ?_
    refine rx_getI E hw on kF_R_56_11 (by decide) dX12_cut_27 ?_
    refine cx_if_le (tgt := 35) E dX12_cut_30 (by decide) (fun _ => ?_) (fun _ => ?_)
    · refine lv_aload_n hx hb dX12_cut_35 rfl (lv_at hl 0 rfl) ?_
      refine W_bind fun z3 hz => ?_
      refine w_after (cells1 := 0) (slots1 := 0) (w_runV E kV_R_296 kc_X12_remembers (t_R_remembers l hfl G on N M (r_set r 0 y1) ((fun z => (.inl none, M, z)) z3) (by rw [hz]; rfl)) ⟨Nat.le_of_ble_eq_true rfl, Nat.le_of_ble_eq_true rfl⟩ hw (w_recvR E hw on) rfl hl.1 rfl (Nat.le_of_ble_eq_true rfl) dX12_cut_36 ⟨Nat.le_of_ble_eq_true rfl, Nat.le_of_ble_eq_true rfl⟩) hw rfl (Nat.le_of_ble_eq_true rfl) (Nat.le_of_ble_eq_true rfl) (fun H locs hw => ?_)
      refine W.eq (g2 := F0 m 39 ls []) rfl ?_
      have hw : w_W G M z3 s H locs := hw
      refine lv_aload_n hx hb dX12_cut_39 rfl (lv_at hl 0 rfl) ?_
      refine rx_getA E hw on kF_R_7_11 (by decide) dX12_cut_40 ?_
      refine lv_bipush (v := 6) hx hb dX12_cut_43 (by decide) ?_
      refine lv_dup2_11 hx hb dX12_cut_45 rfl rfl ?_
      refine rx_iald E hw on (by decide) dX12_cut_46 (fun v4 => ?_)
      refine lv_iconst (v := 1) hx hb dX12_cut_47 (by decide) ?_
      refine lv_isub hx hb dX12_cut_48 ?_
      refine rx_iast E hw on (by decide) dX12_cut_49 (fun r5 H locs hw => ?_)
      refine lv_iconst (v := 2) hx hb dX12_cut_50 (by decide) ?_
      refine lv_iload_n hx hb dX12_cut_51 rfl (lv_at hl 1 rfl) ?_
      refine lv_imul hx hb dX12_cut_52 ?_
      refine lv_istore_n (lv' := [(2, .int (2 * a0)), (0, .ref (g_r G)), (1, .int a0)]) hx hb dX12_cut_53 rfl hl (by decide) rfl (fun ls hl => ?_)
      exact w54  N (2 * a0) r5 _ _ _ hw (lv_sub hl [1, 0] rfl)
    · refine lv_iconst (v := 0) hx hb dX12_cut_33 (by decide) ?_
      exact p_iret E hw hr (Nat.le_of_ble_eq_true rfl) (Nat.le_of_ble_eq_true rfl) rfl dX12_cut_34
  unfold f_R_cut
  refine lv_aload_n hx hb dX12_cut_0 rfl (lv_at hl 0 rfl) ?_
  refine lv_iload_n hx hb dX12_cut_1 rfl (lv_at hl 1 rfl) ?_
  refine lv_iconst (v := 0) hx hb dX12_cut_2 (by decide) ?_
  refine lv_aload_n hx hb dX12_cut_3 rfl (lv_at hl 0 rfl) ?_
  refine rx_getA E hw on kF_R_7_11 (by decide) dX12_cut_4 ?_
  refine lv_bipush (v := 6) hx hb dX12_cut_7 (by decide) ?_
  refine rx_iald E hw on (by decide) dX12_cut_9 (fun v1 => ?_)
  refine lv_iconst (v := 1) hx hb dX12_cut_10 (by decide) ?_
  refine lv_isub hx hb dX12_cut_11 ?_
  refine W_bind fun z2 hz => ?_
  refine w_after (cells1 := 0) (slots1 := 0) (w_runS E kS_R_59 kc_X12_isIn (t_R_isIn l hfl G a0 0 (v1 - 1) M r ((fun z => (.inl (some (.int z)), M, r)) z2) (by rw [hz]; rfl)) ⟨Nat.le_of_ble_eq_true rfl, Nat.le_of_ble_eq_true rfl⟩ hw rfl hl.1 rfl (Nat.le_of_ble_eq_true rfl) dX12_cut_12 ⟨Nat.le_of_ble_eq_true rfl, Nat.le_of_ble_eq_true rfl⟩) hw rfl (Nat.le_of_ble_eq_true rfl) (Nat.le_of_ble_eq_true rfl) (fun H locs hw => ?_)
  refine W.eq (g2 := F0 m 15 ls [.int z2, .ref (g_r G)]) rfl ?_
  have hw : w_W G M r s H locs := hw
  refine cx_if_ne (tgt := 22) E dX12_cut_15 (by decide) (fun _ => ?_) (fun _ => ?_)
  · refine lv_iconst (v := 0) hx hb dX12_cut_22 (by decide) ?_
    exact w23  0 r _ _ _ hw (lv_sub hl [0, 1] rfl)
  · refine lv_iconst (v := 1) hx hb dX12_cut_18 (by decide) ?_
    refine lv_goto (tgt := 23) hx hb dX12_cut_19 (by decide) ?_
    exact w23  1 r _ _ _ hw (lv_sub hl [0, 1] rfl)
set_option maxHeartbeats 4000000 in
set_option maxRecDepth 100000 in
theorem t_R_isOf (l : Launch) (hfl : l.stackTraces = false) (G : wG) (a0 : Int32) (a1 : Int32) (M : Mem) (r : Rho) : Ctr l yX12_isOf (wWs yX12_isOf cX12_isOf 2 (some .boolean)) rm_R_isOf rm_R_isOf.cells rm_R_isOf.slots G [.int a0, .int a1] M r ((f_R_isOf a0 a1).map (fun z => (.inl (some (.int z)), M, r))) := by
  refine Ctr.ofF (own := "CheekTownModel") (by decide +kernel) hfl rfl (Nat.le_of_ble_eq_true rfl) (fun p e s m args below meth c E hno hr hnm hw ls hl => ?_)
  obtain ⟨hx, hb, hts, hown, hml, hTT, -⟩ := id E
  have hl : lv_has ls 2 [(0, .int a0), (1, .int a1)] := hl
  obtain ⟨H, hH⟩ : ∃ H, H = s.heap := ⟨_, rfl⟩
  obtain ⟨locs, hlo⟩ : ∃ L : List Loc, L = [] := ⟨_, rfl⟩
  rw [← hH, ← hlo]
  rw [← hlo] at hw
  replace hw : w_W G M r s H locs := by rw [hH]; exact hw
  unfold f_R_isOf
  refine lv_iload_n hx hb dX12_isOf_0 rfl (lv_at hl 0 rfl) ?_
  refine lv_iload_n hx hb dX12_isOf_1 rfl (lv_at hl 1 rfl) ?_
  refine lv_ishr hx hb dX12_isOf_2 ?_
  refine lv_iconst (v := 1) hx hb dX12_isOf_3 (by decide) ?_
  refine lv_iand hx hb dX12_isOf_4 ?_
  refine lv_iconst (v := 1) hx hb dX12_isOf_5 (by decide) ?_
  refine cx_icmp_ne (tgt := 13) E dX12_isOf_6 (by decide) (fun _ => ?_) (fun _ => ?_)
  · refine lv_iconst (v := 0) hx hb dX12_isOf_13 (by decide) ?_
    exact p_zret E hw hr (by decide) (Nat.le_of_ble_eq_true rfl) (Nat.le_of_ble_eq_true rfl) rfl dX12_isOf_14
  · refine lv_iconst (v := 1) hx hb dX12_isOf_9 (by decide) ?_
    refine lv_goto (tgt := 14) hx hb dX12_isOf_10 (by decide) ?_
    exact p_zret E hw hr (by decide) (Nat.le_of_ble_eq_true rfl) (Nat.le_of_ble_eq_true rfl) rfl dX12_isOf_14
set_option maxHeartbeats 4000000 in
set_option maxRecDepth 100000 in
theorem t_R_feast (l : Launch) (hfl : l.stackTraces = false) (G : wG) (on : g_on G = true) (N : Nat) (a0 : Int32) (a1 : Int32) (M : Mem) (r : Rho) : Ctr l yX12_feast (wWs yX12_feast cX12_feast 5 (some .int)) rm_R_feast rm_R_feast.cells rm_R_feast.slots G [.ref (g_r G), .int a0, .int a1] M r ((f_R_feast N a0 a1 r).map (fun z => (.inl (some (.int z.1)), M, z.2))) := by
  refine Ctr.ofF (own := "CheekTownModel") (by decide +kernel) hfl rfl (Nat.le_of_ble_eq_true rfl) (fun p e s m args below meth c E hno hr hnm hw ls hl => ?_)
  obtain ⟨hx, hb, hts, hown, hml, hTT, -⟩ := id E
  have hl : lv_has ls 5 [(0, .ref (g_r G)), (1, .int a0), (2, .int a1)] := hl
  obtain ⟨H, hH⟩ : ∃ H, H = s.heap := ⟨_, rfl⟩
  obtain ⟨locs, hlo⟩ : ∃ L : List Loc, L = [] := ⟨_, rfl⟩
  rw [← hH, ← hlo]
  rw [← hlo] at hw
  replace hw : w_W G M r s H locs := by rw [hH]; exact hw
  have w77 : ∀ (k34 : Int32 → Int32 → Rho → Option (Int32 × Rho)) (hk34 : ∀ (x3 : Int32) (x4 : Int32) (r : Rho) (H : Heap) (locs : List Loc) (ls : Array Slot), w_W G M r s H locs → lv_has ls 5 [(0, .ref (g_r G)), (1, .int a0), (2, .int a1), (3, .int x3), (4, .int x4)] → W p l e rm_R_feast s m args below meth c H locs 0 0 (PQ G below args s rm_R_feast.cells rm_R_feast.slots (fun z => (.inl (some (.int z.1)), M, z.2)) (k34 x3 x4 r)) (F0 m 34 ls [])) (x4 : Int32) (y0 : Int32) (y1 : Int32) (r : Rho) (H : Heap) (locs : List Loc) (ls : Array Slot), w_W G M r s H locs → lv_has ls 5 [(0, .ref (g_r G)), (1, .int a0), (2, .int a1), (4, .int x4)] → W p l e rm_R_feast s m args below meth c H locs 0 0 (PQ G below args s rm_R_feast.cells rm_R_feast.slots (fun z => (.inl (some (.int z.1)), M, z.2)) (f_R_feast_77 N a0 a1 k34 x4 y0 y1 r)) (F0 m 77 ls [.int y1, .int y0]) := by
    intro k34 hk34 x4 y0 y1 r H locs ls hw hl
    unfold f_R_feast_77
    refine lv_ior hx hb dX12_feast_77 ?_
    refine lv_istore_n (lv' := [(3, .int (y0 ||| y1)), (0, .ref (g_r G)), (1, .int a0), (2, .int a1), (4, .int x4)]) hx hb dX12_feast_78 rfl hl (by decide) rfl (fun ls hl => ?_)
    refine lv_aload_n hx hb dX12_feast_79 rfl (lv_at hl 1 rfl) ?_
    refine lv_iload hx hb dX12_feast_80 (lv_at hl 4 rfl) ?_
    refine lv_iconst (v := 1) hx hb dX12_feast_82 (by decide) ?_
    refine lv_iload_n hx hb dX12_feast_83 rfl (lv_at hl 3 rfl) ?_
    refine W_bind fun z6 hz => ?_
    refine w_after (cells1 := 0) (slots1 := 0) (w_runV E kV_R_141 kc_X12_has (t_R_has l hfl G on x4 1 a1 M r ((fun z => (.inl none, M, z)) z6) (by rw [hz]; rfl)) ⟨Nat.le_of_ble_eq_true rfl, Nat.le_of_ble_eq_true rfl⟩ hw (w_recvR E hw on) rfl hl.1 rfl (Nat.le_of_ble_eq_true rfl) dX12_feast_84 ⟨Nat.le_of_ble_eq_true rfl, Nat.le_of_ble_eq_true rfl⟩) hw rfl (Nat.le_of_ble_eq_true rfl) (Nat.le_of_ble_eq_true rfl) (fun H locs hw => ?_)
    refine W.eq (g2 := F0 m 87 ls []) rfl ?_
    have hw : w_W G M z6 s H locs := hw
    refine lv_iinc (v := x4 + 1) (lv' := [(4, .int (x4 + 1)), (3, .int (y0 ||| y1)), (0, .ref (g_r G)), (1, .int a0), (2, .int a1)]) hx hb dX12_feast_87 hl (k := 4) rfl rfl (by decide) rfl (fun ls hl => ?_)
    refine lv_goto (tgt := 34) hx hb dX12_feast_90 (by decide) ?_
    exact hk34 (y0 ||| y1) (x4 + 1) z6 _ _ _ hw (lv_sub hl [2, 3, 4, 1, 0] rfl)
  have w34 : ∀ (n : Nat) (x3 : Int32) (x4 : Int32) (r : Rho) (H : Heap) (locs : List Loc) (ls : Array Slot), w_W G M r s H locs → lv_has ls 5 [(0, .ref (g_r G)), (1, .int a0), (2, .int a1), (3, .int x3), (4, .int x4)] → W p l e rm_R_feast s m args below meth c H locs 0 0 (PQ G below args s rm_R_feast.cells rm_R_feast.slots (fun z => (.inl (some (.int z.1)), M, z.2)) (f_R_feast_34 N a0 a1 n x3 x4 r)) (F0 m 34 ls []) := by
    intro n
    induction n with
    | zero => intros; exact W_none
    | succ n ih =>
      intro x3 x4 r H locs ls hw hl
      rw [f_R_feast_34]
      refine lv_iload hx hb dX12_feast_34 (lv_at hl 4 rfl) ?_
      refine lv_aload_n hx hb dX12_feast_36 rfl (lv_at hl 0 rfl) ?_
      refine rx_getA E hw on kF_R_7_11 (by decide) dX12_feast_37 ?_
      refine lv_iconst (v := 5) hx hb dX12_feast_40 (by decide) ?_
      refine rx_iald E hw on (by decide) dX12_feast_41 (fun v3 => ?_)
      refine cx_icmp_ge (tgt := 93) E dX12_feast_42 (by decide) (fun _ => ?_) (fun _ => ?_)
      · refine lv_iload_n hx hb dX12_feast_93 rfl (lv_at hl 3 rfl) ?_
        exact p_iret E hw hr (Nat.le_of_ble_eq_true rfl) (Nat.le_of_ble_eq_true rfl) rfl dX12_feast_94
      · refine lv_iload_n hx hb dX12_feast_45 rfl (lv_at hl 1 rfl) ?_
        refine lv_iload hx hb dX12_feast_46 (lv_at hl 4 rfl) ?_
        refine W_bind fun z4 hz => ?_
        refine w_after (cells1 := 0) (slots1 := 0) (w_runS E kS_R_305 kc_X12_isOf (t_R_isOf l hfl G a0 x4 M r ((fun z => (.inl (some (.int z)), M, r)) z4) (by rw [hz]; rfl)) ⟨Nat.le_of_ble_eq_true rfl, Nat.le_of_ble_eq_true rfl⟩ hw rfl hl.1 rfl (Nat.le_of_ble_eq_true rfl) dX12_feast_48 ⟨Nat.le_of_ble_eq_true rfl, Nat.le_of_ble_eq_true rfl⟩) hw rfl (Nat.le_of_ble_eq_true rfl) (Nat.le_of_ble_eq_true rfl) (fun H locs hw => ?_)
        refine W.eq (g2 := F0 m 51 ls [.int z4]) rfl ?_
        have hw : w_W G M r s H locs := hw
        refine cx_if_ne (tgt := 57) E dX12_feast_51 (by decide) (fun _ => ?_) (fun _ => ?_)
        · refine lv_iload_n hx hb dX12_feast_57 rfl (lv_at hl 3 rfl) ?_
          refine lv_aload_n hx hb dX12_feast_58 rfl (lv_at hl 0 rfl) ?_
          refine lv_iload hx hb dX12_feast_59 (lv_at hl 4 rfl) ?_
          refine lv_iconst (v := 1) hx hb dX12_feast_61 (by decide) ?_
          refine W_bind fun z5 hz => ?_
          refine w_after (cells1 := 0) (slots1 := 0) (w_runV E kV_R_257 kc_X12_of (t_R_of l hfl G on x4 1 M r ((fun z => (.inl (some (.int z)), M, r)) z5) (by rw [hz]; rfl)) ⟨Nat.le_of_ble_eq_true rfl, Nat.le_of_ble_eq_true rfl⟩ hw (w_recvR E hw on) rfl hl.1 rfl (Nat.le_of_ble_eq_true rfl) dX12_feast_62 ⟨Nat.le_of_ble_eq_true rfl, Nat.le_of_ble_eq_true rfl⟩) hw rfl (Nat.le_of_ble_eq_true rfl) (Nat.le_of_ble_eq_true rfl) (fun H locs hw => ?_)
          refine W.eq (g2 := F0 m 65 ls [.int z5, .int x3]) rfl ?_
          have hw : w_W G M r s H locs := hw
          refine lv_iload_n hx hb dX12_feast_65 rfl (lv_at hl 2 rfl) ?_
          refine cx_icmp_ne (tgt := 73) E dX12_feast_66 (by decide) (fun _ => ?_) (fun _ => ?_)
          · refine lv_iconst (v := 1) hx hb dX12_feast_73 (by decide) ?_
            refine lv_iload hx hb dX12_feast_74 (lv_at hl 4 rfl) ?_
            refine lv_ishl hx hb dX12_feast_76 ?_
            exact w77 (f_R_feast_34 N a0 a1 n) ih x4 x3 (1 <<< (x4 &&& 31)) r _ _ _ hw (lv_sub hl [0, 1, 2, 4] rfl)
          · refine lv_iconst (v := 0) hx hb dX12_feast_69 (by decide) ?_
            refine lv_goto (tgt := 77) hx hb dX12_feast_70 (by decide) ?_
            exact w77 (f_R_feast_34 N a0 a1 n) ih x4 x3 0 r _ _ _ hw (lv_sub hl [0, 1, 2, 4] rfl)
        · refine lv_goto (tgt := 87) hx hb dX12_feast_54 (by decide) ?_
          refine lv_iinc (v := x4 + 1) (lv' := [(4, .int (x4 + 1)), (0, .ref (g_r G)), (1, .int a0), (2, .int a1), (3, .int x3)]) hx hb dX12_feast_87 hl (k := 4) rfl rfl (by decide) rfl (fun ls hl => ?_)
          refine lv_goto (tgt := 34) hx hb dX12_feast_90 (by decide) ?_
          exact ih x3 (x4 + 1) r _ _ _ hw (lv_sub hl [1, 2, 3, 4, 0] rfl)
  have w13 : ∀ (y1 : Int32) (r : Rho) (H : Heap) (locs : List Loc) (ls : Array Slot), w_W G M r s H locs → lv_has ls 5 [(0, .ref (g_r G)), (1, .int a0), (2, .int a1)] → W p l e rm_R_feast s m args below meth c H locs 0 0 (PQ G below args s rm_R_feast.cells rm_R_feast.slots (fun z => (.inl (some (.int z.1)), M, z.2)) (f_R_feast_13 N a0 a1 y1 r)) (F0 m 13 ls [.int y1, .ref (g_r G)]) := by
    intro y1 r H locs ls hw hl
    unfold f_R_feast_13
    refine rx_putI E hw on kF_R_56_11 (by decide) kT_11_0 dX12_feast_13 (fun H locs hw => ?_)
    refine lv_aload_n hx hb dX12_feast_16 rfl (lv_at hl 0 rfl) ?_
    refine rx_getI E hw on kF_R_56_11 (by decide) dX12_feast_17 ?_
    refine cx_if_le (tgt := 25) E dX12_feast_20 (by decide) (fun _ => ?_) (fun _ => ?_)
    · refine lv_aload_n hx hb dX12_feast_25 rfl (lv_at hl 0 rfl) ?_
      refine W_bind fun z2 hz => ?_
      refine w_after (cells1 := 0) (slots1 := 0) (w_runV E kV_R_296 kc_X12_remembers (t_R_remembers l hfl G on N M (r_set r 0 y1) ((fun z => (.inl none, M, z)) z2) (by rw [hz]; rfl)) ⟨Nat.le_of_ble_eq_true rfl, Nat.le_of_ble_eq_true rfl⟩ hw (w_recvR E hw on) rfl hl.1 rfl (Nat.le_of_ble_eq_true rfl) dX12_feast_26 ⟨Nat.le_of_ble_eq_true rfl, Nat.le_of_ble_eq_true rfl⟩) hw rfl (Nat.le_of_ble_eq_true rfl) (Nat.le_of_ble_eq_true rfl) (fun H locs hw => ?_)
      refine W.eq (g2 := F0 m 29 ls []) rfl ?_
      have hw : w_W G M z2 s H locs := hw
      refine lv_iconst (v := 0) hx hb dX12_feast_29 (by decide) ?_
      refine lv_istore_n (lv' := [(3, .int 0), (0, .ref (g_r G)), (1, .int a0), (2, .int a1)]) hx hb dX12_feast_30 rfl hl (by decide) rfl (fun ls hl => ?_)
      refine lv_iconst (v := 0) hx hb dX12_feast_31 (by decide) ?_
      refine lv_istore (lv' := [(4, .int 0), (3, .int 0), (0, .ref (g_r G)), (1, .int a0), (2, .int a1)]) hx hb dX12_feast_32 hl (by decide) rfl (fun ls hl => ?_)
      exact w34  N 0 0 z2 _ _ _ hw (lv_sub hl [2, 3, 4, 1, 0] rfl)
    · refine lv_iconst (v := 0) hx hb dX12_feast_23 (by decide) ?_
      exact p_iret E hw hr (Nat.le_of_ble_eq_true rfl) (Nat.le_of_ble_eq_true rfl) rfl dX12_feast_24
  unfold f_R_feast
  refine lv_aload_n hx hb dX12_feast_0 rfl (lv_at hl 0 rfl) ?_
  refine lv_iload_n hx hb dX12_feast_1 rfl (lv_at hl 2 rfl) ?_
  refine W_bind fun z1 hz => ?_
  refine w_after (cells1 := 0) (slots1 := 0) (w_runS E kS_R_260 kc_X12_isCode (t_R_isCode l hfl G a1 M r ((fun z => (.inl (some (.int z)), M, r)) z1) (by rw [hz]; rfl)) ⟨Nat.le_of_ble_eq_true rfl, Nat.le_of_ble_eq_true rfl⟩ hw rfl hl.1 rfl (Nat.le_of_ble_eq_true rfl) dX12_feast_2 ⟨Nat.le_of_ble_eq_true rfl, Nat.le_of_ble_eq_true rfl⟩) hw rfl (Nat.le_of_ble_eq_true rfl) (Nat.le_of_ble_eq_true rfl) (fun H locs hw => ?_)
  refine W.eq (g2 := F0 m 5 ls [.int z1, .ref (g_r G)]) rfl ?_
  have hw : w_W G M r s H locs := hw
  refine cx_if_ne (tgt := 12) E dX12_feast_5 (by decide) (fun _ => ?_) (fun _ => ?_)
  · refine lv_iconst (v := 0) hx hb dX12_feast_12 (by decide) ?_
    exact w13  0 r _ _ _ hw (lv_sub hl [0, 1, 2] rfl)
  · refine lv_iconst (v := 1) hx hb dX12_feast_8 (by decide) ?_
    refine lv_goto (tgt := 13) hx hb dX12_feast_9 (by decide) ?_
    exact w13  1 r _ _ _ hw (lv_sub hl [0, 1, 2] rfl)
set_option maxHeartbeats 4000000 in
set_option maxRecDepth 100000 in
theorem t_R_expects (l : Launch) (hfl : l.stackTraces = false) (G : wG) (on : g_on G = true) (N : Nat) (a0 : Int32) (a1 : Int32) (M : Mem) (r : Rho) : Ctr l yX12_expects (wWs yX12_expects cX12_expects 5 (some .int)) rm_R_expects rm_R_expects.cells rm_R_expects.slots G [.ref (g_r G), .int a0, .int a1] M r ((f_R_expects N a0 a1 r).map (fun z => (.inl (some (.int z)), M, r))) := by
  refine Ctr.ofF (own := "CheekTownModel") (by decide +kernel) hfl rfl (Nat.le_of_ble_eq_true rfl) (fun p e s m args below meth c E hno hr hnm hw ls hl => ?_)
  obtain ⟨hx, hb, hts, hown, hml, hTT, -⟩ := id E
  have hl : lv_has ls 5 [(0, .ref (g_r G)), (1, .int a0), (2, .int a1)] := hl
  obtain ⟨H, hH⟩ : ∃ H, H = s.heap := ⟨_, rfl⟩
  obtain ⟨locs, hlo⟩ : ∃ L : List Loc, L = [] := ⟨_, rfl⟩
  rw [← hH, ← hlo]
  rw [← hlo] at hw
  replace hw : w_W G M r s H locs := by rw [hH]; exact hw
  have w71 : ∀ (k5 : Int32 → Int32 → Option (Int32)) (hk5 : ∀ (x3 : Int32) (x4 : Int32) (H : Heap) (locs : List Loc) (ls : Array Slot), w_W G M r s H locs → lv_has ls 5 [(0, .ref (g_r G)), (1, .int a0), (2, .int a1), (3, .int x3), (4, .int x4)] → W p l e rm_R_expects s m args below meth c H locs 0 0 (PQ G below args s rm_R_expects.cells rm_R_expects.slots (fun z => (.inl (some (.int z)), M, r)) (k5 x3 x4)) (F0 m 5 ls [])) (x4 : Int32) (y0 : Int32) (y1 : Int32) (H : Heap) (locs : List Loc) (ls : Array Slot), w_W G M r s H locs → lv_has ls 5 [(0, .ref (g_r G)), (1, .int a0), (2, .int a1), (4, .int x4)] → W p l e rm_R_expects s m args below meth c H locs 0 0 (PQ G below args s rm_R_expects.cells rm_R_expects.slots (fun z => (.inl (some (.int z)), M, r)) (f_R_expects_71 N a0 a1 r k5 x4 y0 y1)) (F0 m 71 ls [.int y1, .int y0]) := by
    intro k5 hk5 x4 y0 y1 H locs ls hw hl
    unfold f_R_expects_71
    refine lv_iadd hx hb dX12_expects_71 ?_
    refine lv_istore_n (lv' := [(3, .int (y0 + y1)), (0, .ref (g_r G)), (1, .int a0), (2, .int a1), (4, .int x4)]) hx hb dX12_expects_72 rfl hl (by decide) rfl (fun ls hl => ?_)
    refine lv_iinc (v := x4 + 1) (lv' := [(4, .int (x4 + 1)), (3, .int (y0 + y1)), (0, .ref (g_r G)), (1, .int a0), (2, .int a1)]) hx hb dX12_expects_73 hl (k := 4) rfl rfl (by decide) rfl (fun ls hl => ?_)
    refine lv_goto (tgt := 5) hx hb dX12_expects_76 (by decide) ?_
    exact hk5 (y0 + y1) (x4 + 1) _ _ _ hw (lv_sub hl [2, 3, 4, 1, 0] rfl)
  have w5 : ∀ (n : Nat) (x3 : Int32) (x4 : Int32) (H : Heap) (locs : List Loc) (ls : Array Slot), w_W G M r s H locs → lv_has ls 5 [(0, .ref (g_r G)), (1, .int a0), (2, .int a1), (3, .int x3), (4, .int x4)] → W p l e rm_R_expects s m args below meth c H locs 0 0 (PQ G below args s rm_R_expects.cells rm_R_expects.slots (fun z => (.inl (some (.int z)), M, r)) (f_R_expects_5 N a0 a1 r n x3 x4)) (F0 m 5 ls []) := by
    intro n
    induction n with
    | zero => intros; exact W_none
    | succ n ih =>
      intro x3 x4 H locs ls hw hl
      rw [f_R_expects_5]
      refine lv_iload hx hb dX12_expects_5 (lv_at hl 4 rfl) ?_
      refine lv_aload_n hx hb dX12_expects_7 rfl (lv_at hl 0 rfl) ?_
      refine rx_getA E hw on kF_R_7_11 (by decide) dX12_expects_8 ?_
      refine lv_iconst (v := 4) hx hb dX12_expects_11 (by decide) ?_
      refine rx_iald E hw on (by decide) dX12_expects_12 (fun v1 => ?_)
      refine cx_icmp_ge (tgt := 79) E dX12_expects_13 (by decide) (fun _ => ?_) (fun _ => ?_)
      · refine lv_iload_n hx hb dX12_expects_79 rfl (lv_at hl 3 rfl) ?_
        exact p_iret E hw hr (Nat.le_of_ble_eq_true rfl) (Nat.le_of_ble_eq_true rfl) rfl dX12_expects_80
      · refine lv_iload_n hx hb dX12_expects_16 rfl (lv_at hl 3 rfl) ?_
        refine lv_aload_n hx hb dX12_expects_17 rfl (lv_at hl 0 rfl) ?_
        refine rx_getA E hw on kF_R_7_11 (by decide) dX12_expects_18 ?_
        refine lv_bipush (v := 20) hx hb dX12_expects_21 (by decide) ?_
        refine lv_iconst (v := 3) hx hb dX12_expects_23 (by decide) ?_
        refine lv_iload hx hb dX12_expects_24 (lv_at hl 4 rfl) ?_
        refine lv_imul hx hb dX12_expects_26 ?_
        refine lv_iadd hx hb dX12_expects_27 ?_
        refine rx_iald E hw on (by decide) dX12_expects_28 (fun v2 => ?_)
        refine lv_iload_n hx hb dX12_expects_29 rfl (lv_at hl 1 rfl) ?_
        refine cx_icmp_ne (tgt := 70) E dX12_expects_30 (by decide) (fun _ => ?_) (fun _ => ?_)
        · refine lv_iconst (v := 0) hx hb dX12_expects_70 (by decide) ?_
          exact w71 (f_R_expects_5 N a0 a1 r n) ih x4 x3 0 _ _ _ hw (lv_sub hl [0, 1, 2, 4] rfl)
        · refine lv_aload_n hx hb dX12_expects_33 rfl (lv_at hl 0 rfl) ?_
          refine rx_getA E hw on kF_R_7_11 (by decide) dX12_expects_34 ?_
          refine lv_bipush (v := 20) hx hb dX12_expects_37 (by decide) ?_
          refine lv_iconst (v := 3) hx hb dX12_expects_39 (by decide) ?_
          refine lv_iload hx hb dX12_expects_40 (lv_at hl 4 rfl) ?_
          refine lv_imul hx hb dX12_expects_42 ?_
          refine lv_iadd hx hb dX12_expects_43 ?_
          refine lv_iconst (v := 2) hx hb dX12_expects_44 (by decide) ?_
          refine lv_iadd hx hb dX12_expects_45 ?_
          refine rx_iald E hw on (by decide) dX12_expects_46 (fun v3 => ?_)
          refine lv_aload_n hx hb dX12_expects_47 rfl (lv_at hl 0 rfl) ?_
          refine lv_iload_n hx hb dX12_expects_48 rfl (lv_at hl 2 rfl) ?_
          refine lv_aload_n hx hb dX12_expects_49 rfl (lv_at hl 0 rfl) ?_
          refine rx_getA E hw on kF_R_7_11 (by decide) dX12_expects_50 ?_
          refine lv_bipush (v := 20) hx hb dX12_expects_53 (by decide) ?_
          refine lv_iconst (v := 3) hx hb dX12_expects_55 (by decide) ?_
          refine lv_iload hx hb dX12_expects_56 (lv_at hl 4 rfl) ?_
          refine lv_imul hx hb dX12_expects_58 ?_
          refine lv_iadd hx hb dX12_expects_59 ?_
          refine lv_iconst (v := 1) hx hb dX12_expects_60 (by decide) ?_
          refine lv_iadd hx hb dX12_expects_61 ?_
          refine rx_iald E hw on (by decide) dX12_expects_62 (fun v4 => ?_)
          refine W_bind fun z5 hz => ?_
          refine w_after (cells1 := 0) (slots1 := 0) (w_runV E kV_R_263 kc_X12_costOf (t_R_costOf l hfl G on a1 v4 M r ((fun z => (.inl (some (.int z)), M, r)) z5) (by rw [hz]; rfl)) ⟨Nat.le_of_ble_eq_true rfl, Nat.le_of_ble_eq_true rfl⟩ hw (w_recvR E hw on) rfl hl.1 rfl (Nat.le_of_ble_eq_true rfl) dX12_expects_63 ⟨Nat.le_of_ble_eq_true rfl, Nat.le_of_ble_eq_true rfl⟩) hw rfl (Nat.le_of_ble_eq_true rfl) (Nat.le_of_ble_eq_true rfl) (fun H locs hw => ?_)
          refine W.eq (g2 := F0 m 66 ls [.int z5, .int v3, .int x3]) rfl ?_
          have hw : w_W G M r s H locs := hw
          refine lv_imul hx hb dX12_expects_66 ?_
          refine lv_goto (tgt := 71) hx hb dX12_expects_67 (by decide) ?_
          exact w71 (f_R_expects_5 N a0 a1 r n) ih x4 x3 (v3 * z5) _ _ _ hw (lv_sub hl [0, 1, 2, 4] rfl)
  unfold f_R_expects
  refine lv_iconst (v := 0) hx hb dX12_expects_0 (by decide) ?_
  refine lv_istore_n (lv' := [(3, .int 0), (0, .ref (g_r G)), (1, .int a0), (2, .int a1)]) hx hb dX12_expects_1 rfl hl (by decide) rfl (fun ls hl => ?_)
  refine lv_iconst (v := 0) hx hb dX12_expects_2 (by decide) ?_
  refine lv_istore (lv' := [(4, .int 0), (3, .int 0), (0, .ref (g_r G)), (1, .int a0), (2, .int a1)]) hx hb dX12_expects_3 hl (by decide) rfl (fun ls hl => ?_)
  exact w5  N 0 0 _ _ _ hw (lv_sub hl [2, 3, 4, 1, 0] rfl)
set_option maxHeartbeats 4000000 in
set_option maxRecDepth 100000 in
theorem t_R_expected (l : Launch) (hfl : l.stackTraces = false) (G : wG) (on : g_on G = true) (N : Nat) (a0 : Int32) (a1 : Int32) (M : Mem) (r : Rho) : Ctr l yX12_expected (wWs yX12_expected cX12_expected 3 (some .int)) rm_R_expected rm_R_expected.cells rm_R_expected.slots G [.ref (g_r G), .int a0, .int a1] M r ((f_R_expected N a0 a1 r).map (fun z => (.inl (some (.int z.1)), M, z.2))) := by
  refine Ctr.ofF (own := "CheekTownModel") (by decide +kernel) hfl rfl (Nat.le_of_ble_eq_true rfl) (fun p e s m args below meth c E hno hr hnm hw ls hl => ?_)
  obtain ⟨hx, hb, hts, hown, hml, hTT, -⟩ := id E
  have hl : lv_has ls 3 [(0, .ref (g_r G)), (1, .int a0), (2, .int a1)] := hl
  obtain ⟨H, hH⟩ : ∃ H, H = s.heap := ⟨_, rfl⟩
  obtain ⟨locs, hlo⟩ : ∃ L : List Loc, L = [] := ⟨_, rfl⟩
  rw [← hH, ← hlo]
  rw [← hlo] at hw
  replace hw : w_W G M r s H locs := by rw [hH]; exact hw
  have w21 : ∀ (y1 : Int32) (r : Rho) (H : Heap) (locs : List Loc) (ls : Array Slot), w_W G M r s H locs → lv_has ls 3 [(0, .ref (g_r G)), (1, .int a0), (2, .int a1)] → W p l e rm_R_expected s m args below meth c H locs 0 0 (PQ G below args s rm_R_expected.cells rm_R_expected.slots (fun z => (.inl (some (.int z.1)), M, z.2)) (f_R_expected_21 N a0 a1 y1 r)) (F0 m 21 ls [.int y1, .ref (g_r G)]) := by
    intro y1 r H locs ls hw hl
    unfold f_R_expected_21
    refine rx_putI E hw on kF_R_56_11 (by decide) kT_11_0 dX12_expected_21 (fun H locs hw => ?_)
    refine lv_aload_n hx hb dX12_expected_24 rfl (lv_at hl 0 rfl) ?_
    refine rx_getI E hw on kF_R_56_11 (by decide) dX12_expected_25 ?_
    refine cx_if_le (tgt := 35) E dX12_expected_28 (by decide) (fun _ => ?_) (fun _ => ?_)
    · refine lv_aload_n hx hb dX12_expected_35 rfl (lv_at hl 0 rfl) ?_
      refine lv_iload_n hx hb dX12_expected_36 rfl (lv_at hl 1 rfl) ?_
      refine lv_iload_n hx hb dX12_expected_37 rfl (lv_at hl 2 rfl) ?_
      refine W_bind fun z3 hz => ?_
      refine w_after (cells1 := 0) (slots1 := 0) (w_runV E kV_R_308 kc_X12_expects (t_R_expects l hfl G on N a0 a1 M (r_set r 0 y1) ((fun z => (.inl (some (.int z)), M, (r_set r 0 y1))) z3) (by rw [hz]; rfl)) ⟨Nat.le_of_ble_eq_true rfl, Nat.le_of_ble_eq_true rfl⟩ hw (w_recvR E hw on) rfl hl.1 rfl (Nat.le_of_ble_eq_true rfl) dX12_expected_38 ⟨Nat.le_of_ble_eq_true rfl, Nat.le_of_ble_eq_true rfl⟩) hw rfl (Nat.le_of_ble_eq_true rfl) (Nat.le_of_ble_eq_true rfl) (fun H locs hw => ?_)
      refine W.eq (g2 := F0 m 41 ls [.int z3]) rfl ?_
      have hw : w_W G M (r_set r 0 y1) s H locs := hw
      exact p_iret E hw hr (Nat.le_of_ble_eq_true rfl) (Nat.le_of_ble_eq_true rfl) rfl dX12_expected_41
    · refine lv_iconst (v := 0) hx hb dX12_expected_31 (by decide) ?_
      refine lv_goto (tgt := 41) hx hb dX12_expected_32 (by decide) ?_
      exact p_iret E hw hr (Nat.le_of_ble_eq_true rfl) (Nat.le_of_ble_eq_true rfl) rfl dX12_expected_41
  have w16 : ∀ (r : Rho) (H : Heap) (locs : List Loc) (ls : Array Slot), w_W G M r s H locs → lv_has ls 3 [(0, .ref (g_r G)), (1, .int a0), (2, .int a1)] → W p l e rm_R_expected s m args below meth c H locs 0 0 (PQ G below args s rm_R_expected.cells rm_R_expected.slots (fun z => (.inl (some (.int z.1)), M, z.2)) (f_R_expected_16 N a0 a1 r)) (F0 m 16 ls [.ref (g_r G)]) := by
    intro r H locs ls hw hl
    unfold f_R_expected_16
    refine lv_iconst (v := 1) hx hb dX12_expected_16 (by decide) ?_
    refine lv_goto (tgt := 21) hx hb dX12_expected_17 (by decide) ?_
    exact w21  1 r _ _ _ hw (lv_sub hl [0, 1, 2] rfl)
  unfold f_R_expected
  refine lv_aload_n hx hb dX12_expected_0 rfl (lv_at hl 0 rfl) ?_
  refine lv_aload_n hx hb dX12_expected_1 rfl (lv_at hl 0 rfl) ?_
  refine lv_iload_n hx hb dX12_expected_2 rfl (lv_at hl 1 rfl) ?_
  refine W_bind fun z1 hz => ?_
  refine w_after (cells1 := 0) (slots1 := 0) (w_runV E kV_R_266 kc_X12_isLand (t_R_isLand l hfl G on a0 M r ((fun z => (.inl (some (.int z)), M, r)) z1) (by rw [hz]; rfl)) ⟨Nat.le_of_ble_eq_true rfl, Nat.le_of_ble_eq_true rfl⟩ hw (w_recvR E hw on) rfl hl.1 rfl (Nat.le_of_ble_eq_true rfl) dX12_expected_3 ⟨Nat.le_of_ble_eq_true rfl, Nat.le_of_ble_eq_true rfl⟩) hw rfl (Nat.le_of_ble_eq_true rfl) (Nat.le_of_ble_eq_true rfl) (fun H locs hw => ?_)
  refine W.eq (g2 := F0 m 6 ls [.int z1, .ref (g_r G)]) rfl ?_
  have hw : w_W G M r s H locs := hw
  refine cx_if_eq (tgt := 16) E dX12_expected_6 (by decide) (fun _ => ?_) (fun _ => ?_)
  · exact w16  r _ _ _ hw (lv_sub hl [0, 1, 2] rfl)
  · refine lv_iload_n hx hb dX12_expected_9 rfl (lv_at hl 2 rfl) ?_
    refine W_bind fun z2 hz => ?_
    refine w_after (cells1 := 0) (slots1 := 0) (w_runS E kS_R_260 kc_X12_isCode (t_R_isCode l hfl G a1 M r ((fun z => (.inl (some (.int z)), M, r)) z2) (by rw [hz]; rfl)) ⟨Nat.le_of_ble_eq_true rfl, Nat.le_of_ble_eq_true rfl⟩ hw rfl hl.1 rfl (Nat.le_of_ble_eq_true rfl) dX12_expected_10 ⟨Nat.le_of_ble_eq_true rfl, Nat.le_of_ble_eq_true rfl⟩) hw rfl (Nat.le_of_ble_eq_true rfl) (Nat.le_of_ble_eq_true rfl) (fun H locs hw => ?_)
    refine W.eq (g2 := F0 m 13 ls [.int z2, .ref (g_r G)]) rfl ?_
    have hw : w_W G M r s H locs := hw
    refine cx_if_ne (tgt := 20) E dX12_expected_13 (by decide) (fun _ => ?_) (fun _ => ?_)
    · refine lv_iconst (v := 0) hx hb dX12_expected_20 (by decide) ?_
      exact w21  0 r _ _ _ hw (lv_sub hl [0, 1, 2] rfl)
    · exact w16  r _ _ _ hw (lv_sub hl [0, 1, 2] rfl)
set_option maxHeartbeats 4000000 in
set_option maxRecDepth 100000 in
theorem t_R_bestOf (l : Launch) (hfl : l.stackTraces = false) (G : wG) (on : g_on G = true) (N : Nat) (a0 : Int32) (M : Mem) (r : Rho) : Ctr l yX12_bestOf (wWs yX12_bestOf cX12_bestOf 4 (some .int)) rm_R_bestOf rm_R_bestOf.cells rm_R_bestOf.slots G [.ref (g_r G), .int a0] M r ((f_R_bestOf N a0 r).map (fun z => (.inl (some (.int z)), M, r))) := by
  refine Ctr.ofF (own := "CheekTownModel") (by decide +kernel) hfl rfl (Nat.le_of_ble_eq_true rfl) (fun p e s m args below meth c E hno hr hnm hw ls hl => ?_)
  obtain ⟨hx, hb, hts, hown, hml, hTT, -⟩ := id E
  have hl : lv_has ls 4 [(0, .ref (g_r G)), (1, .int a0)] := hl
  obtain ⟨H, hH⟩ : ∃ H, H = s.heap := ⟨_, rfl⟩
  obtain ⟨locs, hlo⟩ : ∃ L : List Loc, L = [] := ⟨_, rfl⟩
  rw [← hH, ← hlo]
  rw [← hlo] at hw
  replace hw : w_W G M r s H locs := by rw [hH]; exact hw
  have w4 : ∀ (n : Nat) (x2 : Int32) (x3 : Int32) (H : Heap) (locs : List Loc) (ls : Array Slot), w_W G M r s H locs → lv_has ls 4 [(0, .ref (g_r G)), (1, .int a0), (2, .int x2), (3, .int x3)] → W p l e rm_R_bestOf s m args below meth c H locs 0 0 (PQ G below args s rm_R_bestOf.cells rm_R_bestOf.slots (fun z => (.inl (some (.int z)), M, r)) (f_R_bestOf_4 N a0 r n x2 x3)) (F0 m 4 ls []) := by
    intro n
    induction n with
    | zero => intros; exact W_none
    | succ n ih =>
      intro x2 x3 H locs ls hw hl
      rw [f_R_bestOf_4]
      refine lv_iload_n hx hb dX12_bestOf_4 rfl (lv_at hl 3 rfl) ?_
      refine lv_bipush (v := 32) hx hb dX12_bestOf_5 (by decide) ?_
      refine cx_icmp_ge (tgt := 33) E dX12_bestOf_7 (by decide) (fun _ => ?_) (fun _ => ?_)
      · refine lv_iload_n hx hb dX12_bestOf_33 rfl (lv_at hl 2 rfl) ?_
        exact p_iret E hw hr (Nat.le_of_ble_eq_true rfl) (Nat.le_of_ble_eq_true rfl) rfl dX12_bestOf_34
      · refine lv_aload_n hx hb dX12_bestOf_10 rfl (lv_at hl 0 rfl) ?_
        refine lv_iload_n hx hb dX12_bestOf_11 rfl (lv_at hl 1 rfl) ?_
        refine lv_iload_n hx hb dX12_bestOf_12 rfl (lv_at hl 3 rfl) ?_
        refine W_bind fun z1 hz => ?_
        refine w_after (cells1 := 0) (slots1 := 0) (w_runV E kV_R_308 kc_X12_expects (t_R_expects l hfl G on N a0 x3 M r ((fun z => (.inl (some (.int z)), M, r)) z1) (by rw [hz]; rfl)) ⟨Nat.le_of_ble_eq_true rfl, Nat.le_of_ble_eq_true rfl⟩ hw (w_recvR E hw on) rfl hl.1 rfl (Nat.le_of_ble_eq_true rfl) dX12_bestOf_13 ⟨Nat.le_of_ble_eq_true rfl, Nat.le_of_ble_eq_true rfl⟩) hw rfl (Nat.le_of_ble_eq_true rfl) (Nat.le_of_ble_eq_true rfl) (fun H locs hw => ?_)
        refine W.eq (g2 := F0 m 16 ls [.int z1]) rfl ?_
        have hw : w_W G M r s H locs := hw
        refine lv_aload_n hx hb dX12_bestOf_16 rfl (lv_at hl 0 rfl) ?_
        refine lv_iload_n hx hb dX12_bestOf_17 rfl (lv_at hl 1 rfl) ?_
        refine lv_iload_n hx hb dX12_bestOf_18 rfl (lv_at hl 2 rfl) ?_
        refine W_bind fun z2 hz => ?_
        refine w_after (cells1 := 0) (slots1 := 0) (w_runV E kV_R_308 kc_X12_expects (t_R_expects l hfl G on N a0 x2 M r ((fun z => (.inl (some (.int z)), M, r)) z2) (by rw [hz]; rfl)) ⟨Nat.le_of_ble_eq_true rfl, Nat.le_of_ble_eq_true rfl⟩ hw (w_recvR E hw on) rfl hl.1 rfl (Nat.le_of_ble_eq_true rfl) dX12_bestOf_19 ⟨Nat.le_of_ble_eq_true rfl, Nat.le_of_ble_eq_true rfl⟩) hw rfl (Nat.le_of_ble_eq_true rfl) (Nat.le_of_ble_eq_true rfl) (fun H locs hw => ?_)
        refine W.eq (g2 := F0 m 22 ls [.int z2, .int z1]) rfl ?_
        have hw : w_W G M r s H locs := hw
        refine cx_icmp_ge (tgt := 27) E dX12_bestOf_22 (by decide) (fun _ => ?_) (fun _ => ?_)
        · refine lv_iinc (v := x3 + 1) (lv' := [(3, .int (x3 + 1)), (0, .ref (g_r G)), (1, .int a0), (2, .int x2)]) hx hb dX12_bestOf_27 hl (k := 3) rfl rfl (by decide) rfl (fun ls hl => ?_)
          refine lv_goto (tgt := 4) hx hb dX12_bestOf_30 (by decide) ?_
          exact ih x2 (x3 + 1) _ _ _ hw (lv_sub hl [1, 2, 3, 0] rfl)
        · refine lv_iload_n hx hb dX12_bestOf_25 rfl (lv_at hl 3 rfl) ?_
          refine lv_istore_n (lv' := [(2, .int x3), (0, .ref (g_r G)), (1, .int a0), (3, .int x3)]) hx hb dX12_bestOf_26 rfl hl (by decide) rfl (fun ls hl => ?_)
          refine lv_iinc (v := x3 + 1) (lv' := [(3, .int (x3 + 1)), (2, .int x3), (0, .ref (g_r G)), (1, .int a0)]) hx hb dX12_bestOf_27 hl (k := 3) rfl rfl (by decide) rfl (fun ls hl => ?_)
          refine lv_goto (tgt := 4) hx hb dX12_bestOf_30 (by decide) ?_
          exact ih x3 (x3 + 1) _ _ _ hw (lv_sub hl [2, 3, 1, 0] rfl)
  unfold f_R_bestOf
  refine lv_iconst (v := 0) hx hb dX12_bestOf_0 (by decide) ?_
  refine lv_istore_n (lv' := [(2, .int 0), (0, .ref (g_r G)), (1, .int a0)]) hx hb dX12_bestOf_1 rfl hl (by decide) rfl (fun ls hl => ?_)
  refine lv_iconst (v := 1) hx hb dX12_bestOf_2 (by decide) ?_
  refine lv_istore_n (lv' := [(3, .int 1), (2, .int 0), (0, .ref (g_r G)), (1, .int a0)]) hx hb dX12_bestOf_3 rfl hl (by decide) rfl (fun ls hl => ?_)
  exact w4  N 0 1 _ _ _ hw (lv_sub hl [2, 3, 1, 0] rfl)
set_option maxHeartbeats 4000000 in
set_option maxRecDepth 100000 in
theorem t_R_best (l : Launch) (hfl : l.stackTraces = false) (G : wG) (on : g_on G = true) (N : Nat) (a0 : Int32) (M : Mem) (r : Rho) : Ctr l yX12_best (wWs yX12_best cX12_best 2 (some .int)) rm_R_best rm_R_best.cells rm_R_best.slots G [.ref (g_r G), .int a0] M r ((f_R_best N a0 r).map (fun z => (.inl (some (.int z.1)), M, z.2))) := by
  refine Ctr.ofF (own := "CheekTownModel") (by decide +kernel) hfl rfl (Nat.le_of_ble_eq_true rfl) (fun p e s m args below meth c E hno hr hnm hw ls hl => ?_)
  obtain ⟨hx, hb, hts, hown, hml, hTT, -⟩ := id E
  have hl : lv_has ls 2 [(0, .ref (g_r G)), (1, .int a0)] := hl
  obtain ⟨H, hH⟩ : ∃ H, H = s.heap := ⟨_, rfl⟩
  obtain ⟨locs, hlo⟩ : ∃ L : List Loc, L = [] := ⟨_, rfl⟩
  rw [← hH, ← hlo]
  rw [← hlo] at hw
  replace hw : w_W G M r s H locs := by rw [hH]; exact hw
  have w14 : ∀ (y1 : Int32) (r : Rho) (H : Heap) (locs : List Loc) (ls : Array Slot), w_W G M r s H locs → lv_has ls 2 [(0, .ref (g_r G)), (1, .int a0)] → W p l e rm_R_best s m args below meth c H locs 0 0 (PQ G below args s rm_R_best.cells rm_R_best.slots (fun z => (.inl (some (.int z.1)), M, z.2)) (f_R_best_14 N a0 y1 r)) (F0 m 14 ls [.int y1, .ref (g_r G)]) := by
    intro y1 r H locs ls hw hl
    unfold f_R_best_14
    refine rx_putI E hw on kF_R_56_11 (by decide) kT_11_0 dX12_best_14 (fun H locs hw => ?_)
    refine lv_aload_n hx hb dX12_best_17 rfl (lv_at hl 0 rfl) ?_
    refine rx_getI E hw on kF_R_56_11 (by decide) dX12_best_18 ?_
    refine cx_if_le (tgt := 28) E dX12_best_21 (by decide) (fun _ => ?_) (fun _ => ?_)
    · refine lv_aload_n hx hb dX12_best_28 rfl (lv_at hl 0 rfl) ?_
      refine lv_iload_n hx hb dX12_best_29 rfl (lv_at hl 1 rfl) ?_
      refine W_bind fun z2 hz => ?_
      refine w_after (cells1 := 0) (slots1 := 0) (w_runV E kV_R_311 kc_X12_bestOf (t_R_bestOf l hfl G on N a0 M (r_set r 0 y1) ((fun z => (.inl (some (.int z)), M, (r_set r 0 y1))) z2) (by rw [hz]; rfl)) ⟨Nat.le_of_ble_eq_true rfl, Nat.le_of_ble_eq_true rfl⟩ hw (w_recvR E hw on) rfl hl.1 rfl (Nat.le_of_ble_eq_true rfl) dX12_best_30 ⟨Nat.le_of_ble_eq_true rfl, Nat.le_of_ble_eq_true rfl⟩) hw rfl (Nat.le_of_ble_eq_true rfl) (Nat.le_of_ble_eq_true rfl) (fun H locs hw => ?_)
      refine W.eq (g2 := F0 m 33 ls [.int z2]) rfl ?_
      have hw : w_W G M (r_set r 0 y1) s H locs := hw
      exact p_iret E hw hr (Nat.le_of_ble_eq_true rfl) (Nat.le_of_ble_eq_true rfl) rfl dX12_best_33
    · refine lv_iconst (v := 0) hx hb dX12_best_24 (by decide) ?_
      refine lv_goto (tgt := 33) hx hb dX12_best_25 (by decide) ?_
      exact p_iret E hw hr (Nat.le_of_ble_eq_true rfl) (Nat.le_of_ble_eq_true rfl) rfl dX12_best_33
  unfold f_R_best
  refine lv_aload_n hx hb dX12_best_0 rfl (lv_at hl 0 rfl) ?_
  refine lv_aload_n hx hb dX12_best_1 rfl (lv_at hl 0 rfl) ?_
  refine lv_iload_n hx hb dX12_best_2 rfl (lv_at hl 1 rfl) ?_
  refine W_bind fun z1 hz => ?_
  refine w_after (cells1 := 0) (slots1 := 0) (w_runV E kV_R_266 kc_X12_isLand (t_R_isLand l hfl G on a0 M r ((fun z => (.inl (some (.int z)), M, r)) z1) (by rw [hz]; rfl)) ⟨Nat.le_of_ble_eq_true rfl, Nat.le_of_ble_eq_true rfl⟩ hw (w_recvR E hw on) rfl hl.1 rfl (Nat.le_of_ble_eq_true rfl) dX12_best_3 ⟨Nat.le_of_ble_eq_true rfl, Nat.le_of_ble_eq_true rfl⟩) hw rfl (Nat.le_of_ble_eq_true rfl) (Nat.le_of_ble_eq_true rfl) (fun H locs hw => ?_)
  refine W.eq (g2 := F0 m 6 ls [.int z1, .ref (g_r G)]) rfl ?_
  have hw : w_W G M r s H locs := hw
  refine cx_if_ne (tgt := 13) E dX12_best_6 (by decide) (fun _ => ?_) (fun _ => ?_)
  · refine lv_iconst (v := 0) hx hb dX12_best_13 (by decide) ?_
    exact w14  0 r _ _ _ hw (lv_sub hl [0, 1] rfl)
  · refine lv_iconst (v := 1) hx hb dX12_best_9 (by decide) ?_
    refine lv_goto (tgt := 14) hx hb dX12_best_10 (by decide) ?_
    exact w14  1 r _ _ _ hw (lv_sub hl [0, 1] rfl)
set_option maxHeartbeats 4000000 in
set_option maxRecDepth 100000 in
theorem t_R_dearest (l : Launch) (hfl : l.stackTraces = false) (G : wG) (on : g_on G = true) (N : Nat) (a0 : Int32) (M : Mem) (r : Rho) : Ctr l yX12_dearest (wWs yX12_dearest cX12_dearest 4 (some .int)) rm_R_dearest rm_R_dearest.cells rm_R_dearest.slots G [.ref (g_r G), .int a0] M r ((f_R_dearest N a0 r).map (fun z => (.inl (some (.int z)), M, r))) := by
  refine Ctr.ofF (own := "CheekTownModel") (by decide +kernel) hfl rfl (Nat.le_of_ble_eq_true rfl) (fun p e s m args below meth c E hno hr hnm hw ls hl => ?_)
  obtain ⟨hx, hb, hts, hown, hml, hTT, -⟩ := id E
  have hl : lv_has ls 4 [(0, .ref (g_r G)), (1, .int a0)] := hl
  obtain ⟨H, hH⟩ : ∃ H, H = s.heap := ⟨_, rfl⟩
  obtain ⟨locs, hlo⟩ : ∃ L : List Loc, L = [] := ⟨_, rfl⟩
  rw [← hH, ← hlo]
  rw [← hlo] at hw
  replace hw : w_W G M r s H locs := by rw [hH]; exact hw
  have w4 : ∀ (n : Nat) (x2 : Int32) (x3 : Int32) (H : Heap) (locs : List Loc) (ls : Array Slot), w_W G M r s H locs → lv_has ls 4 [(0, .ref (g_r G)), (1, .int a0), (2, .int x2), (3, .int x3)] → W p l e rm_R_dearest s m args below meth c H locs 0 0 (PQ G below args s rm_R_dearest.cells rm_R_dearest.slots (fun z => (.inl (some (.int z)), M, r)) (f_R_dearest_4 N a0 r n x2 x3)) (F0 m 4 ls []) := by
    intro n
    induction n with
    | zero => intros; exact W_none
    | succ n ih =>
      intro x2 x3 H locs ls hw hl
      rw [f_R_dearest_4]
      refine lv_iload_n hx hb dX12_dearest_4 rfl (lv_at hl 3 rfl) ?_
      refine lv_aload_n hx hb dX12_dearest_5 rfl (lv_at hl 0 rfl) ?_
      refine rx_getA E hw on kF_R_7_11 (by decide) dX12_dearest_6 ?_
      refine lv_iconst (v := 4) hx hb dX12_dearest_9 (by decide) ?_
      refine rx_iald E hw on (by decide) dX12_dearest_10 (fun v1 => ?_)
      refine cx_icmp_ge (tgt := 43) E dX12_dearest_11 (by decide) (fun _ => ?_) (fun _ => ?_)
      · refine lv_iload_n hx hb dX12_dearest_43 rfl (lv_at hl 2 rfl) ?_
        exact p_iret E hw hr (Nat.le_of_ble_eq_true rfl) (Nat.le_of_ble_eq_true rfl) rfl dX12_dearest_44
      · refine lv_iload_n hx hb dX12_dearest_14 rfl (lv_at hl 2 rfl) ?_
        refine lv_aload_n hx hb dX12_dearest_15 rfl (lv_at hl 0 rfl) ?_
        refine lv_iload_n hx hb dX12_dearest_16 rfl (lv_at hl 1 rfl) ?_
        refine lv_aload_n hx hb dX12_dearest_17 rfl (lv_at hl 0 rfl) ?_
        refine rx_getA E hw on kF_R_7_11 (by decide) dX12_dearest_18 ?_
        refine lv_bipush (v := 20) hx hb dX12_dearest_21 (by decide) ?_
        refine lv_iconst (v := 3) hx hb dX12_dearest_23 (by decide) ?_
        refine lv_iload_n hx hb dX12_dearest_24 rfl (lv_at hl 3 rfl) ?_
        refine lv_imul hx hb dX12_dearest_25 ?_
        refine lv_iadd hx hb dX12_dearest_26 ?_
        refine lv_iconst (v := 1) hx hb dX12_dearest_27 (by decide) ?_
        refine lv_iadd hx hb dX12_dearest_28 ?_
        refine rx_iald E hw on (by decide) dX12_dearest_29 (fun v2 => ?_)
        refine W_bind fun z3 hz => ?_
        refine w_after (cells1 := 0) (slots1 := 0) (w_runV E kV_R_263 kc_X12_costOf (t_R_costOf l hfl G on a0 v2 M r ((fun z => (.inl (some (.int z)), M, r)) z3) (by rw [hz]; rfl)) ⟨Nat.le_of_ble_eq_true rfl, Nat.le_of_ble_eq_true rfl⟩ hw (w_recvR E hw on) rfl hl.1 rfl (Nat.le_of_ble_eq_true rfl) dX12_dearest_30 ⟨Nat.le_of_ble_eq_true rfl, Nat.le_of_ble_eq_true rfl⟩) hw rfl (Nat.le_of_ble_eq_true rfl) (Nat.le_of_ble_eq_true rfl) (fun H locs hw => ?_)
        refine W.eq (g2 := F0 m 33 ls [.int z3, .int x2]) rfl ?_
        have hw : w_W G M r s H locs := hw
        refine W_bind fun z4 hz => ?_
        refine w_after (cells1 := 0) (slots1 := 0) (w_runS E kS_R_287 kc_X12_greater (t_R_greater l hfl G x2 z3 M r ((fun z => (.inl (some (.int z)), M, r)) z4) (by rw [hz]; rfl)) ⟨Nat.le_of_ble_eq_true rfl, Nat.le_of_ble_eq_true rfl⟩ hw rfl hl.1 rfl (Nat.le_of_ble_eq_true rfl) dX12_dearest_33 ⟨Nat.le_of_ble_eq_true rfl, Nat.le_of_ble_eq_true rfl⟩) hw rfl (Nat.le_of_ble_eq_true rfl) (Nat.le_of_ble_eq_true rfl) (fun H locs hw => ?_)
        refine W.eq (g2 := F0 m 36 ls [.int z4]) rfl ?_
        have hw : w_W G M r s H locs := hw
        refine lv_istore_n (lv' := [(2, .int z4), (0, .ref (g_r G)), (1, .int a0), (3, .int x3)]) hx hb dX12_dearest_36 rfl hl (by decide) rfl (fun ls hl => ?_)
        refine lv_iinc (v := x3 + 1) (lv' := [(3, .int (x3 + 1)), (2, .int z4), (0, .ref (g_r G)), (1, .int a0)]) hx hb dX12_dearest_37 hl (k := 3) rfl rfl (by decide) rfl (fun ls hl => ?_)
        refine lv_goto (tgt := 4) hx hb dX12_dearest_40 (by decide) ?_
        exact ih z4 (x3 + 1) _ _ _ hw (lv_sub hl [2, 3, 1, 0] rfl)
  unfold f_R_dearest
  refine lv_iconst (v := 0) hx hb dX12_dearest_0 (by decide) ?_
  refine lv_istore_n (lv' := [(2, .int 0), (0, .ref (g_r G)), (1, .int a0)]) hx hb dX12_dearest_1 rfl hl (by decide) rfl (fun ls hl => ?_)
  refine lv_iconst (v := 0) hx hb dX12_dearest_2 (by decide) ?_
  refine lv_istore_n (lv' := [(3, .int 0), (2, .int 0), (0, .ref (g_r G)), (1, .int a0)]) hx hb dX12_dearest_3 rfl hl (by decide) rfl (fun ls hl => ?_)
  exact w4  N 0 0 _ _ _ hw (lv_sub hl [2, 3, 1, 0] rfl)
set_option maxHeartbeats 4000000 in
set_option maxRecDepth 100000 in
theorem t_R_safest (l : Launch) (hfl : l.stackTraces = false) (G : wG) (on : g_on G = true) (N : Nat) (a0 : Int32) (M : Mem) (r : Rho) : Ctr l yX12_safest (wWs yX12_safest cX12_safest 4 (some .int)) rm_R_safest rm_R_safest.cells rm_R_safest.slots G [.ref (g_r G), .int a0] M r ((f_R_safest N a0 r).map (fun z => (.inl (some (.int z.1)), M, z.2))) := by
  refine Ctr.ofF (own := "CheekTownModel") (by decide +kernel) hfl rfl (Nat.le_of_ble_eq_true rfl) (fun p e s m args below meth c E hno hr hnm hw ls hl => ?_)
  obtain ⟨hx, hb, hts, hown, hml, hTT, -⟩ := id E
  have hl : lv_has ls 4 [(0, .ref (g_r G)), (1, .int a0)] := hl
  obtain ⟨H, hH⟩ : ∃ H, H = s.heap := ⟨_, rfl⟩
  obtain ⟨locs, hlo⟩ : ∃ L : List Loc, L = [] := ⟨_, rfl⟩
  rw [← hH, ← hlo]
  rw [← hlo] at hw
  replace hw : w_W G M r s H locs := by rw [hH]; exact hw
  have w9 : ∀ (n : Nat) (x2 : Int32) (x3 : Int32) (r : Rho) (H : Heap) (locs : List Loc) (ls : Array Slot), w_W G M r s H locs → lv_has ls 4 [(0, .ref (g_r G)), (1, .int a0), (2, .int x2), (3, .int x3)] → W p l e rm_R_safest s m args below meth c H locs 0 0 (PQ G below args s rm_R_safest.cells rm_R_safest.slots (fun z => (.inl (some (.int z.1)), M, z.2)) (f_R_safest_9 N a0 n x2 x3 r)) (F0 m 9 ls []) := by
    intro n
    induction n with
    | zero => intros; exact W_none
    | succ n ih =>
      intro x2 x3 r H locs ls hw hl
      rw [f_R_safest_9]
      refine lv_iload_n hx hb dX12_safest_9 rfl (lv_at hl 3 rfl) ?_
      refine lv_bipush (v := 32) hx hb dX12_safest_10 (by decide) ?_
      refine cx_icmp_ge (tgt := 36) E dX12_safest_12 (by decide) (fun _ => ?_) (fun _ => ?_)
      · refine lv_iload_n hx hb dX12_safest_36 rfl (lv_at hl 1 rfl) ?_
        refine cx_if_eq (tgt := 48) E dX12_safest_37 (by decide) (fun _ => ?_) (fun _ => ?_)
        · refine lv_iload_n hx hb dX12_safest_48 rfl (lv_at hl 2 rfl) ?_
          exact p_iret E hw hr (Nat.le_of_ble_eq_true rfl) (Nat.le_of_ble_eq_true rfl) rfl dX12_safest_49
        · refine lv_aload_n hx hb dX12_safest_40 rfl (lv_at hl 0 rfl) ?_
          refine lv_iload_n hx hb dX12_safest_41 rfl (lv_at hl 2 rfl) ?_
          refine W_bind fun z1 hz => ?_
          refine w_after (cells1 := 0) (slots1 := 0) (w_runV E kV_R_314 kc_X12_dearest (t_R_dearest l hfl G on N x2 M r ((fun z => (.inl (some (.int z)), M, r)) z1) (by rw [hz]; rfl)) ⟨Nat.le_of_ble_eq_true rfl, Nat.le_of_ble_eq_true rfl⟩ hw (w_recvR E hw on) rfl hl.1 rfl (Nat.le_of_ble_eq_true rfl) dX12_safest_42 ⟨Nat.le_of_ble_eq_true rfl, Nat.le_of_ble_eq_true rfl⟩) hw rfl (Nat.le_of_ble_eq_true rfl) (Nat.le_of_ble_eq_true rfl) (fun H locs hw => ?_)
          refine W.eq (g2 := F0 m 45 ls [.int z1]) rfl ?_
          have hw : w_W G M r s H locs := hw
          refine lv_goto (tgt := 49) hx hb dX12_safest_45 (by decide) ?_
          exact p_iret E hw hr (Nat.le_of_ble_eq_true rfl) (Nat.le_of_ble_eq_true rfl) rfl dX12_safest_49
      · refine lv_aload_n hx hb dX12_safest_15 rfl (lv_at hl 0 rfl) ?_
        refine lv_iload_n hx hb dX12_safest_16 rfl (lv_at hl 3 rfl) ?_
        refine W_bind fun z2 hz => ?_
        refine w_after (cells1 := 0) (slots1 := 0) (w_runV E kV_R_314 kc_X12_dearest (t_R_dearest l hfl G on N x3 M r ((fun z => (.inl (some (.int z)), M, r)) z2) (by rw [hz]; rfl)) ⟨Nat.le_of_ble_eq_true rfl, Nat.le_of_ble_eq_true rfl⟩ hw (w_recvR E hw on) rfl hl.1 rfl (Nat.le_of_ble_eq_true rfl) dX12_safest_17 ⟨Nat.le_of_ble_eq_true rfl, Nat.le_of_ble_eq_true rfl⟩) hw rfl (Nat.le_of_ble_eq_true rfl) (Nat.le_of_ble_eq_true rfl) (fun H locs hw => ?_)
        refine W.eq (g2 := F0 m 20 ls [.int z2]) rfl ?_
        have hw : w_W G M r s H locs := hw
        refine lv_aload_n hx hb dX12_safest_20 rfl (lv_at hl 0 rfl) ?_
        refine lv_iload_n hx hb dX12_safest_21 rfl (lv_at hl 2 rfl) ?_
        refine W_bind fun z3 hz => ?_
        refine w_after (cells1 := 0) (slots1 := 0) (w_runV E kV_R_314 kc_X12_dearest (t_R_dearest l hfl G on N x2 M r ((fun z => (.inl (some (.int z)), M, r)) z3) (by rw [hz]; rfl)) ⟨Nat.le_of_ble_eq_true rfl, Nat.le_of_ble_eq_true rfl⟩ hw (w_recvR E hw on) rfl hl.1 rfl (Nat.le_of_ble_eq_true rfl) dX12_safest_22 ⟨Nat.le_of_ble_eq_true rfl, Nat.le_of_ble_eq_true rfl⟩) hw rfl (Nat.le_of_ble_eq_true rfl) (Nat.le_of_ble_eq_true rfl) (fun H locs hw => ?_)
        refine W.eq (g2 := F0 m 25 ls [.int z3, .int z2]) rfl ?_
        have hw : w_W G M r s H locs := hw
        refine cx_icmp_ge (tgt := 30) E dX12_safest_25 (by decide) (fun _ => ?_) (fun _ => ?_)
        · refine lv_iinc (v := x3 + 1) (lv' := [(3, .int (x3 + 1)), (0, .ref (g_r G)), (1, .int a0), (2, .int x2)]) hx hb dX12_safest_30 hl (k := 3) rfl rfl (by decide) rfl (fun ls hl => ?_)
          refine lv_goto (tgt := 9) hx hb dX12_safest_33 (by decide) ?_
          exact ih x2 (x3 + 1) r _ _ _ hw (lv_sub hl [1, 2, 3, 0] rfl)
        · refine lv_iload_n hx hb dX12_safest_28 rfl (lv_at hl 3 rfl) ?_
          refine lv_istore_n (lv' := [(2, .int x3), (0, .ref (g_r G)), (1, .int a0), (3, .int x3)]) hx hb dX12_safest_29 rfl hl (by decide) rfl (fun ls hl => ?_)
          refine lv_iinc (v := x3 + 1) (lv' := [(3, .int (x3 + 1)), (2, .int x3), (0, .ref (g_r G)), (1, .int a0)]) hx hb dX12_safest_30 hl (k := 3) rfl rfl (by decide) rfl (fun ls hl => ?_)
          refine lv_goto (tgt := 9) hx hb dX12_safest_33 (by decide) ?_
          exact ih x3 (x3 + 1) r _ _ _ hw (lv_sub hl [2, 3, 1, 0] rfl)
  unfold f_R_safest
  refine lv_aload_n hx hb dX12_safest_0 rfl (lv_at hl 0 rfl) ?_
  refine lv_iconst (v := 0) hx hb dX12_safest_1 (by decide) ?_
  refine rx_putI E hw on kF_R_56_11 (by decide) kT_11_0 dX12_safest_2 (fun H locs hw => ?_)
  refine lv_iconst (v := 0) hx hb dX12_safest_5 (by decide) ?_
  refine lv_istore_n (lv' := [(2, .int 0), (0, .ref (g_r G)), (1, .int a0)]) hx hb dX12_safest_6 rfl hl (by decide) rfl (fun ls hl => ?_)
  refine lv_iconst (v := 1) hx hb dX12_safest_7 (by decide) ?_
  refine lv_istore_n (lv' := [(3, .int 1), (2, .int 0), (0, .ref (g_r G)), (1, .int a0)]) hx hb dX12_safest_8 rfl hl (by decide) rfl (fun ls hl => ?_)
  exact w9  N 0 1 (r_set r 0 0) _ _ _ hw (lv_sub hl [2, 3, 1, 0] rfl)
set_option maxHeartbeats 4000000 in
set_option maxRecDepth 100000 in
theorem t_R_odds (l : Launch) (hfl : l.stackTraces = false) (G : wG) (on : g_on G = true) (N : Nat) (a0 : Int32) (a1 : Int32) (M : Mem) (r : Rho) : Ctr l yX12_odds (wWs yX12_odds cX12_odds 3 (some .int)) rm_R_odds rm_R_odds.cells rm_R_odds.slots G [.ref (g_r G), .int a0, .int a1] M r ((f_R_odds N a0 a1 r).map (fun z => (.inl (some (.int z.1)), M, z.2))) := by
  refine Ctr.ofF (own := "CheekTownModel") (by decide +kernel) hfl rfl (Nat.le_of_ble_eq_true rfl) (fun p e s m args below meth c E hno hr hnm hw ls hl => ?_)
  obtain ⟨hx, hb, hts, hown, hml, hTT, -⟩ := id E
  have hl : lv_has ls 3 [(0, .ref (g_r G)), (1, .int a0), (2, .int a1)] := hl
  obtain ⟨H, hH⟩ : ∃ H, H = s.heap := ⟨_, rfl⟩
  obtain ⟨locs, hlo⟩ : ∃ L : List Loc, L = [] := ⟨_, rfl⟩
  rw [← hH, ← hlo]
  rw [← hlo] at hw
  replace hw : w_W G M r s H locs := by rw [hH]; exact hw
  have w21 : ∀ (y1 : Int32) (r : Rho) (H : Heap) (locs : List Loc) (ls : Array Slot), w_W G M r s H locs → lv_has ls 3 [(0, .ref (g_r G)), (1, .int a0), (2, .int a1)] → W p l e rm_R_odds s m args below meth c H locs 0 0 (PQ G below args s rm_R_odds.cells rm_R_odds.slots (fun z => (.inl (some (.int z.1)), M, z.2)) (f_R_odds_21 N a0 a1 y1 r)) (F0 m 21 ls [.int y1, .ref (g_r G)]) := by
    intro y1 r H locs ls hw hl
    unfold f_R_odds_21
    refine rx_putI E hw on kF_R_56_11 (by decide) kT_11_0 dX12_odds_21 (fun H locs hw => ?_)
    refine lv_aload_n hx hb dX12_odds_24 rfl (lv_at hl 0 rfl) ?_
    refine rx_getI E hw on kF_R_56_11 (by decide) dX12_odds_25 ?_
    refine cx_if_gt (tgt := 40) E dX12_odds_28 (by decide) (fun _ => ?_) (fun _ => ?_)
    · refine lv_iconst (v := 0) hx hb dX12_odds_40 (by decide) ?_
      exact p_iret E hw hr (Nat.le_of_ble_eq_true rfl) (Nat.le_of_ble_eq_true rfl) rfl dX12_odds_41
    · refine lv_aload_n hx hb dX12_odds_31 rfl (lv_at hl 0 rfl) ?_
      refine lv_iload_n hx hb dX12_odds_32 rfl (lv_at hl 1 rfl) ?_
      refine lv_iconst (v := (-1)) hx hb dX12_odds_33 (by decide) ?_
      refine W_bind fun z3 hz => ?_
      refine w_after (cells1 := 0) (slots1 := 0) (w_runV E kV_R_269 kc_X12_weight (t_R_weight l hfl G on N a0 (-1) M (r_set r 0 y1) ((fun z => (.inl (some (.int z)), M, (r_set r 0 y1))) z3) (by rw [hz]; rfl)) ⟨Nat.le_of_ble_eq_true rfl, Nat.le_of_ble_eq_true rfl⟩ hw (w_recvR E hw on) rfl hl.1 rfl (Nat.le_of_ble_eq_true rfl) dX12_odds_34 ⟨Nat.le_of_ble_eq_true rfl, Nat.le_of_ble_eq_true rfl⟩) hw rfl (Nat.le_of_ble_eq_true rfl) (Nat.le_of_ble_eq_true rfl) (fun H locs hw => ?_)
      refine W.eq (g2 := F0 m 37 ls [.int z3]) rfl ?_
      have hw : w_W G M (r_set r 0 y1) s H locs := hw
      refine cx_if_ne (tgt := 42) E dX12_odds_37 (by decide) (fun _ => ?_) (fun _ => ?_)
      · refine lv_sipush (v := 10000) hx hb dX12_odds_42 (by decide) ?_
        refine lv_aload_n hx hb dX12_odds_45 rfl (lv_at hl 0 rfl) ?_
        refine lv_iload_n hx hb dX12_odds_46 rfl (lv_at hl 1 rfl) ?_
        refine lv_iload_n hx hb dX12_odds_47 rfl (lv_at hl 2 rfl) ?_
        refine W_bind fun z4 hz => ?_
        refine w_after (cells1 := 0) (slots1 := 0) (w_runV E kV_R_269 kc_X12_weight (t_R_weight l hfl G on N a0 a1 M (r_set r 0 y1) ((fun z => (.inl (some (.int z)), M, (r_set r 0 y1))) z4) (by rw [hz]; rfl)) ⟨Nat.le_of_ble_eq_true rfl, Nat.le_of_ble_eq_true rfl⟩ hw (w_recvR E hw on) rfl hl.1 rfl (Nat.le_of_ble_eq_true rfl) dX12_odds_48 ⟨Nat.le_of_ble_eq_true rfl, Nat.le_of_ble_eq_true rfl⟩) hw rfl (Nat.le_of_ble_eq_true rfl) (Nat.le_of_ble_eq_true rfl) (fun H locs hw => ?_)
        refine W.eq (g2 := F0 m 51 ls [.int z4, .int 10000]) rfl ?_
        have hw : w_W G M (r_set r 0 y1) s H locs := hw
        refine lv_imul hx hb dX12_odds_51 ?_
        refine lv_aload_n hx hb dX12_odds_52 rfl (lv_at hl 0 rfl) ?_
        refine lv_iload_n hx hb dX12_odds_53 rfl (lv_at hl 1 rfl) ?_
        refine lv_iconst (v := (-1)) hx hb dX12_odds_54 (by decide) ?_
        refine W_bind fun z5 hz => ?_
        refine w_after (cells1 := 0) (slots1 := 0) (w_runV E kV_R_269 kc_X12_weight (t_R_weight l hfl G on N a0 (-1) M (r_set r 0 y1) ((fun z => (.inl (some (.int z)), M, (r_set r 0 y1))) z5) (by rw [hz]; rfl)) ⟨Nat.le_of_ble_eq_true rfl, Nat.le_of_ble_eq_true rfl⟩ hw (w_recvR E hw on) rfl hl.1 rfl (Nat.le_of_ble_eq_true rfl) dX12_odds_55 ⟨Nat.le_of_ble_eq_true rfl, Nat.le_of_ble_eq_true rfl⟩) hw rfl (Nat.le_of_ble_eq_true rfl) (Nat.le_of_ble_eq_true rfl) (fun H locs hw => ?_)
        refine W.eq (g2 := F0 m 58 ls [.int z5, .int (10000 * z4)]) rfl ?_
        have hw : w_W G M (r_set r 0 y1) s H locs := hw
        refine W_bind fun _ hnz => ?_
        refine lv_idiv hx hb dX12_odds_58 (nz_ok hnz) ?_
        exact p_iret E hw hr (Nat.le_of_ble_eq_true rfl) (Nat.le_of_ble_eq_true rfl) rfl dX12_odds_59
      · refine lv_iconst (v := 0) hx hb dX12_odds_40 (by decide) ?_
        exact p_iret E hw hr (Nat.le_of_ble_eq_true rfl) (Nat.le_of_ble_eq_true rfl) rfl dX12_odds_41
  have w16 : ∀ (r : Rho) (H : Heap) (locs : List Loc) (ls : Array Slot), w_W G M r s H locs → lv_has ls 3 [(0, .ref (g_r G)), (1, .int a0), (2, .int a1)] → W p l e rm_R_odds s m args below meth c H locs 0 0 (PQ G below args s rm_R_odds.cells rm_R_odds.slots (fun z => (.inl (some (.int z.1)), M, z.2)) (f_R_odds_16 N a0 a1 r)) (F0 m 16 ls [.ref (g_r G)]) := by
    intro r H locs ls hw hl
    unfold f_R_odds_16
    refine lv_iconst (v := 1) hx hb dX12_odds_16 (by decide) ?_
    refine lv_goto (tgt := 21) hx hb dX12_odds_17 (by decide) ?_
    exact w21  1 r _ _ _ hw (lv_sub hl [0, 1, 2] rfl)
  unfold f_R_odds
  refine lv_aload_n hx hb dX12_odds_0 rfl (lv_at hl 0 rfl) ?_
  refine lv_aload_n hx hb dX12_odds_1 rfl (lv_at hl 0 rfl) ?_
  refine lv_iload_n hx hb dX12_odds_2 rfl (lv_at hl 1 rfl) ?_
  refine W_bind fun z1 hz => ?_
  refine w_after (cells1 := 0) (slots1 := 0) (w_runV E kV_R_266 kc_X12_isLand (t_R_isLand l hfl G on a0 M r ((fun z => (.inl (some (.int z)), M, r)) z1) (by rw [hz]; rfl)) ⟨Nat.le_of_ble_eq_true rfl, Nat.le_of_ble_eq_true rfl⟩ hw (w_recvR E hw on) rfl hl.1 rfl (Nat.le_of_ble_eq_true rfl) dX12_odds_3 ⟨Nat.le_of_ble_eq_true rfl, Nat.le_of_ble_eq_true rfl⟩) hw rfl (Nat.le_of_ble_eq_true rfl) (Nat.le_of_ble_eq_true rfl) (fun H locs hw => ?_)
  refine W.eq (g2 := F0 m 6 ls [.int z1, .ref (g_r G)]) rfl ?_
  have hw : w_W G M r s H locs := hw
  refine cx_if_eq (tgt := 16) E dX12_odds_6 (by decide) (fun _ => ?_) (fun _ => ?_)
  · exact w16  r _ _ _ hw (lv_sub hl [0, 1, 2] rfl)
  · refine lv_iload_n hx hb dX12_odds_9 rfl (lv_at hl 2 rfl) ?_
    refine W_bind fun z2 hz => ?_
    refine w_after (cells1 := 0) (slots1 := 0) (w_runS E kS_R_260 kc_X12_isCode (t_R_isCode l hfl G a1 M r ((fun z => (.inl (some (.int z)), M, r)) z2) (by rw [hz]; rfl)) ⟨Nat.le_of_ble_eq_true rfl, Nat.le_of_ble_eq_true rfl⟩ hw rfl hl.1 rfl (Nat.le_of_ble_eq_true rfl) dX12_odds_10 ⟨Nat.le_of_ble_eq_true rfl, Nat.le_of_ble_eq_true rfl⟩) hw rfl (Nat.le_of_ble_eq_true rfl) (Nat.le_of_ble_eq_true rfl) (fun H locs hw => ?_)
    refine W.eq (g2 := F0 m 13 ls [.int z2, .ref (g_r G)]) rfl ?_
    have hw : w_W G M r s H locs := hw
    refine cx_if_ne (tgt := 20) E dX12_odds_13 (by decide) (fun _ => ?_) (fun _ => ?_)
    · refine lv_iconst (v := 0) hx hb dX12_odds_20 (by decide) ?_
      exact w21  0 r _ _ _ hw (lv_sub hl [0, 1, 2] rfl)
    · exact w16  r _ _ _ hw (lv_sub hl [0, 1, 2] rfl)
set_option maxHeartbeats 4000000 in
set_option maxRecDepth 100000 in
theorem t_R_likely (l : Launch) (hfl : l.stackTraces = false) (G : wG) (on : g_on G = true) (N : Nat) (a0 : Int32) (a1 : Int32) (a2 : Int32) (M : Mem) (r : Rho) : Ctr l yX12_likely (wWs yX12_likely cX12_likely 7 (some .long)) rm_R_likely rm_R_likely.cells rm_R_likely.slots G [.ref (g_r G), .int a0, .int a1, .int a2] M r ((f_R_likely N a0 a1 a2 r).map (fun z => (.inl (some (.long z)), M, r))) := by
  refine Ctr.ofF (own := "CheekTownModel") (by decide +kernel) hfl rfl (Nat.le_of_ble_eq_true rfl) (fun p e s m args below meth c E hno hr hnm hw ls hl => ?_)
  obtain ⟨hx, hb, hts, hown, hml, hTT, -⟩ := id E
  have hl : lv_has ls 7 [(0, .ref (g_r G)), (1, .int a0), (2, .int a1), (3, .int a2)] := hl
  obtain ⟨H, hH⟩ : ∃ H, H = s.heap := ⟨_, rfl⟩
  obtain ⟨locs, hlo⟩ : ∃ L : List Loc, L = [] := ⟨_, rfl⟩
  rw [← hH, ← hlo]
  rw [← hlo] at hw
  replace hw : w_W G M r s H locs := by rw [hH]; exact hw
  have w31 : ∀ (k6 : Int64 → Int32 → Option (Int64)) (hk6 : ∀ (x4 : Int64) (x6 : Int32) (H : Heap) (locs : List Loc) (ls : Array Slot), w_W G M r s H locs → lv_has ls 7 [(0, .ref (g_r G)), (1, .int a0), (2, .int a1), (3, .int a2), (4, .long x4), (6, .int x6)] → W p l e rm_R_likely s m args below meth c H locs 0 0 (PQ G below args s rm_R_likely.cells rm_R_likely.slots (fun z => (.inl (some (.long z)), M, r)) (k6 x4 x6)) (F0 m 6 ls [])) (x6 : Int32) (y0 : Int64) (y2 : Int32) (y3 : Int32) (H : Heap) (locs : List Loc) (ls : Array Slot), w_W G M r s H locs → lv_has ls 7 [(0, .ref (g_r G)), (1, .int a0), (2, .int a1), (3, .int a2), (6, .int x6)] → W p l e rm_R_likely s m args below meth c H locs 0 0 (PQ G below args s rm_R_likely.cells rm_R_likely.slots (fun z => (.inl (some (.long z)), M, r)) (f_R_likely_31 N a0 a1 a2 r k6 x6 y0 y2 y3)) (F0 m 31 ls [.int y3, .int y2, .ref (g_r G), .long y0]) := by
    intro k6 hk6 x6 y0 y2 y3 H locs ls hw hl
    unfold f_R_likely_31
    refine W_bind fun z3 hz => ?_
    refine w_after (cells1 := 0) (slots1 := 0) (w_runV E kV_R_269 kc_X12_weight (t_R_weight l hfl G on N y2 y3 M r ((fun z => (.inl (some (.int z)), M, r)) z3) (by rw [hz]; rfl)) ⟨Nat.le_of_ble_eq_true rfl, Nat.le_of_ble_eq_true rfl⟩ hw (w_recvR E hw on) rfl hl.1 rfl (Nat.le_of_ble_eq_true rfl) dX12_likely_31 ⟨Nat.le_of_ble_eq_true rfl, Nat.le_of_ble_eq_true rfl⟩) hw rfl (Nat.le_of_ble_eq_true rfl) (Nat.le_of_ble_eq_true rfl) (fun H locs hw => ?_)
    refine W.eq (g2 := F0 m 34 ls [.int z3, .long y0]) rfl ?_
    have hw : w_W G M r s H locs := hw
    refine lv_i2l (v := Int32.toInt64 z3) hx hb dX12_likely_34 rfl ?_
    refine lv_lmul hx hb dX12_likely_35 ?_
    refine lv_lstore (lv' := [(4, .long (y0 * (Int32.toInt64 z3))), (0, .ref (g_r G)), (1, .int a0), (2, .int a1), (3, .int a2), (6, .int x6)]) hx hb dX12_likely_36 hl (by decide) rfl (fun ls hl => ?_)
    refine lv_iinc (v := x6 + 1) (lv' := [(6, .int (x6 + 1)), (4, .long (y0 * (Int32.toInt64 z3))), (0, .ref (g_r G)), (1, .int a0), (2, .int a1), (3, .int a2)]) hx hb dX12_likely_38 hl (k := 5) rfl rfl (by decide) rfl (fun ls hl => ?_)
    refine lv_goto (tgt := 6) hx hb dX12_likely_41 (by decide) ?_
    exact hk6 (y0 * (Int32.toInt64 z3)) (x6 + 1) _ _ _ hw (lv_sub hl [2, 3, 4, 5, 1, 0] rfl)
  have w6 : ∀ (n : Nat) (x4 : Int64) (x6 : Int32) (H : Heap) (locs : List Loc) (ls : Array Slot), w_W G M r s H locs → lv_has ls 7 [(0, .ref (g_r G)), (1, .int a0), (2, .int a1), (3, .int a2), (4, .long x4), (6, .int x6)] → W p l e rm_R_likely s m args below meth c H locs 0 0 (PQ G below args s rm_R_likely.cells rm_R_likely.slots (fun z => (.inl (some (.long z)), M, r)) (f_R_likely_6 N a0 a1 a2 r n x4 x6)) (F0 m 6 ls []) := by
    intro n
    induction n with
    | zero => intros; exact W_none
    | succ n ih =>
      intro x4 x6 H locs ls hw hl
      rw [f_R_likely_6]
      refine lv_iload hx hb dX12_likely_6 (lv_at hl 5 rfl) ?_
      refine lv_iload_n hx hb dX12_likely_8 rfl (lv_at hl 2 rfl) ?_
      refine cx_icmp_ge (tgt := 44) E dX12_likely_9 (by decide) (fun _ => ?_) (fun _ => ?_)
      · refine lv_aload_n hx hb dX12_likely_44 rfl (lv_at hl 0 rfl) ?_
        refine lv_iload_n hx hb dX12_likely_45 rfl (lv_at hl 1 rfl) ?_
        refine lv_iconst (v := (-1)) hx hb dX12_likely_46 (by decide) ?_
        refine W_bind fun z1 hz => ?_
        refine w_after (cells1 := 0) (slots1 := 0) (w_runV E kV_R_269 kc_X12_weight (t_R_weight l hfl G on N a0 (-1) M r ((fun z => (.inl (some (.int z)), M, r)) z1) (by rw [hz]; rfl)) ⟨Nat.le_of_ble_eq_true rfl, Nat.le_of_ble_eq_true rfl⟩ hw (w_recvR E hw on) rfl hl.1 rfl (Nat.le_of_ble_eq_true rfl) dX12_likely_47 ⟨Nat.le_of_ble_eq_true rfl, Nat.le_of_ble_eq_true rfl⟩) hw rfl (Nat.le_of_ble_eq_true rfl) (Nat.le_of_ble_eq_true rfl) (fun H locs hw => ?_)
        refine W.eq (g2 := F0 m 50 ls [.int z1]) rfl ?_
        have hw : w_W G M r s H locs := hw
        refine cx_if_ne (tgt := 61) E dX12_likely_50 (by decide) (fun _ => ?_) (fun _ => ?_)
        · refine lv_lload hx hb dX12_likely_61 (lv_at hl 4 rfl) ?_
          exact p_lret E hw hr (Nat.le_of_ble_eq_true rfl) (Nat.le_of_ble_eq_true rfl) rfl dX12_likely_63
        · refine lv_iload_n hx hb dX12_likely_53 rfl (lv_at hl 3 rfl) ?_
          refine cx_if_ne (tgt := 61) E dX12_likely_54 (by decide) (fun _ => ?_) (fun _ => ?_)
          · refine lv_lload hx hb dX12_likely_61 (lv_at hl 4 rfl) ?_
            exact p_lret E hw hr (Nat.le_of_ble_eq_true rfl) (Nat.le_of_ble_eq_true rfl) rfl dX12_likely_63
          · refine lv_lconst (v := 0) hx hb dX12_likely_57 (by decide) ?_
            refine lv_goto (tgt := 63) hx hb dX12_likely_58 (by decide) ?_
            exact p_lret E hw hr (Nat.le_of_ble_eq_true rfl) (Nat.le_of_ble_eq_true rfl) rfl dX12_likely_63
      · refine lv_lload hx hb dX12_likely_12 (lv_at hl 4 rfl) ?_
        refine lv_aload_n hx hb dX12_likely_14 rfl (lv_at hl 0 rfl) ?_
        refine lv_iload_n hx hb dX12_likely_15 rfl (lv_at hl 1 rfl) ?_
        refine lv_iload_n hx hb dX12_likely_16 rfl (lv_at hl 3 rfl) ?_
        refine cx_if_eq (tgt := 24) E dX12_likely_17 (by decide) (fun _ => ?_) (fun _ => ?_)
        · refine lv_aload_n hx hb dX12_likely_24 rfl (lv_at hl 0 rfl) ?_
          refine rx_getA E hw on kF_R_22_11 (by decide) dX12_likely_25 ?_
          refine lv_iload hx hb dX12_likely_28 (lv_at hl 5 rfl) ?_
          refine rx_iald E hw on (by decide) dX12_likely_30 (fun v2 => ?_)
          exact w31 (f_R_likely_6 N a0 a1 a2 r n) ih x6 x4 a0 v2 _ _ _ hw (lv_sub hl [0, 1, 2, 3, 5] rfl)
        · refine lv_iconst (v := (-1)) hx hb dX12_likely_20 (by decide) ?_
          refine lv_goto (tgt := 31) hx hb dX12_likely_21 (by decide) ?_
          exact w31 (f_R_likely_6 N a0 a1 a2 r n) ih x6 x4 a0 (-1) _ _ _ hw (lv_sub hl [0, 1, 2, 3, 5] rfl)
  unfold f_R_likely
  refine lv_lconst (v := 1) hx hb dX12_likely_0 (by decide) ?_
  refine lv_lstore (lv' := [(4, .long 1), (0, .ref (g_r G)), (1, .int a0), (2, .int a1), (3, .int a2)]) hx hb dX12_likely_1 hl (by decide) rfl (fun ls hl => ?_)
  refine lv_iconst (v := 0) hx hb dX12_likely_3 (by decide) ?_
  refine lv_istore (lv' := [(6, .int 0), (4, .long 1), (0, .ref (g_r G)), (1, .int a0), (2, .int a1), (3, .int a2)]) hx hb dX12_likely_4 hl (by decide) rfl (fun ls hl => ?_)
  exact w6  N 1 0 _ _ _ hw (lv_sub hl [2, 3, 4, 5, 1, 0] rfl)
set_option maxHeartbeats 4000000 in
set_option maxRecDepth 100000 in
theorem t_R_from (l : Launch) (hfl : l.stackTraces = false) (G : wG) (on : g_on G = true) (N : Nat) (a0 : Int32) (M : Mem) (r : Rho) : Ctr l yX12_from (wWs yX12_from cX12_from 7 (some .int)) rm_R_from rm_R_from.cells rm_R_from.slots G [.ref (g_r G), .int a0] M r ((f_R_from N a0 r).map (fun z => (.inl (some (.int z.1)), M, z.2))) := by
  refine Ctr.ofF (own := "CheekTownModel") (by decide +kernel) hfl rfl (Nat.le_of_ble_eq_true rfl) (fun p e s m args below meth c E hno hr hnm hw ls hl => ?_)
  obtain ⟨hx, hb, hts, hown, hml, hTT, -⟩ := id E
  have hl : lv_has ls 7 [(0, .ref (g_r G)), (1, .int a0)] := hl
  obtain ⟨H, hH⟩ : ∃ H, H = s.heap := ⟨_, rfl⟩
  obtain ⟨locs, hlo⟩ : ∃ L : List Loc, L = [] := ⟨_, rfl⟩
  rw [← hH, ← hlo]
  rw [← hlo] at hw
  replace hw : w_W G M r s H locs := by rw [hH]; exact hw
  have w162 : ∀ (k82 : Int32 → Int32 → Int32 → Int32 → Rho → Option (Int32 × Rho)) (hk82 : ∀ (x2 : Int32) (x4 : Int32) (x5 : Int32) (x6 : Int32) (r : Rho) (H : Heap) (locs : List Loc) (ls : Array Slot), w_W G M r s H locs → lv_has ls 7 [(0, .ref (g_r G)), (1, .int a0), (2, .int x2), (4, .int x4), (5, .int x5), (6, .int x6)] → W p l e rm_R_from s m args below meth c H locs 0 0 (PQ G below args s rm_R_from.cells rm_R_from.slots (fun z => (.inl (some (.int z.1)), M, z.2)) (k82 x2 x4 x5 x6 r)) (F0 m 82 ls [])) (x2 : Int32) (x4 : Int32) (x6 : Int32) (r : Rho) (H : Heap) (locs : List Loc) (ls : Array Slot), w_W G M r s H locs → lv_has ls 7 [(0, .ref (g_r G)), (1, .int a0), (2, .int x2), (4, .int x4), (6, .int x6)] → W p l e rm_R_from s m args below meth c H locs 0 0 (PQ G below args s rm_R_from.cells rm_R_from.slots (fun z => (.inl (some (.int z.1)), M, z.2)) (f_R_from_162 N a0 k82 x2 x4 x6 r)) (F0 m 162 ls []) := by
    intro k82 hk82 x2 x4 x6 r H locs ls hw hl
    unfold f_R_from_162
    refine lv_iload hx hb dX12_from_162 (lv_at hl 4 rfl) ?_
    refine lv_istore (lv' := [(5, .int x6), (0, .ref (g_r G)), (1, .int a0), (2, .int x2), (4, .int x4), (6, .int x6)]) hx hb dX12_from_164 hl (by decide) rfl (fun ls hl => ?_)
    refine lv_iinc (v := x6 + 1) (lv' := [(6, .int (x6 + 1)), (5, .int x6), (0, .ref (g_r G)), (1, .int a0), (2, .int x2), (4, .int x4)]) hx hb dX12_from_166 hl (k := 5) rfl rfl (by decide) rfl (fun ls hl => ?_)
    refine lv_goto (tgt := 82) hx hb dX12_from_169 (by decide) ?_
    exact hk82 x2 x4 x6 (x6 + 1) r _ _ _ hw (lv_sub hl [2, 3, 4, 5, 1, 0] rfl)
  have w82 : ∀ (n : Nat) (x2 : Int32) (x4 : Int32) (x5 : Int32) (x6 : Int32) (r : Rho) (H : Heap) (locs : List Loc) (ls : Array Slot), w_W G M r s H locs → lv_has ls 7 [(0, .ref (g_r G)), (1, .int a0), (2, .int x2), (4, .int x4), (5, .int x5), (6, .int x6)] → W p l e rm_R_from s m args below meth c H locs 0 0 (PQ G below args s rm_R_from.cells rm_R_from.slots (fun z => (.inl (some (.int z.1)), M, z.2)) (f_R_from_82 N a0 n x2 x4 x5 x6 r)) (F0 m 82 ls []) := by
    intro n
    induction n with
    | zero => intros; exact W_none
    | succ n ih =>
      intro x2 x4 x5 x6 r H locs ls hw hl
      rw [f_R_from_82]
      refine lv_iload hx hb dX12_from_82 (lv_at hl 5 rfl) ?_
      refine lv_aload_n hx hb dX12_from_84 rfl (lv_at hl 0 rfl) ?_
      refine rx_getA E hw on kF_R_7_11 (by decide) dX12_from_85 ?_
      refine lv_iconst (v := 3) hx hb dX12_from_88 (by decide) ?_
      refine rx_iald E hw on (by decide) dX12_from_89 (fun v3 => ?_)
      refine cx_icmp_ge (tgt := 172) E dX12_from_90 (by decide) (fun _ => ?_) (fun _ => ?_)
      · refine lv_iload_n hx hb dX12_from_172 rfl (lv_at hl 1 rfl) ?_
        refine cx_if_eq (tgt := 181) E dX12_from_173 (by decide) (fun _ => ?_) (fun _ => ?_)
        · refine lv_iload hx hb dX12_from_181 (lv_at hl 3 rfl) ?_
          exact p_iret E hw hr (Nat.le_of_ble_eq_true rfl) (Nat.le_of_ble_eq_true rfl) rfl dX12_from_183
        · refine lv_iload hx hb dX12_from_176 (lv_at hl 4 rfl) ?_
          refine lv_goto (tgt := 183) hx hb dX12_from_178 (by decide) ?_
          exact p_iret E hw hr (Nat.le_of_ble_eq_true rfl) (Nat.le_of_ble_eq_true rfl) rfl dX12_from_183
      · refine lv_aload_n hx hb dX12_from_93 rfl (lv_at hl 0 rfl) ?_
        refine lv_iload hx hb dX12_from_94 (lv_at hl 5 rfl) ?_
        refine lv_iload_n hx hb dX12_from_96 rfl (lv_at hl 2 rfl) ?_
        refine lv_iconst (v := 0) hx hb dX12_from_97 (by decide) ?_
        refine W_bind fun z4 hz => ?_
        refine w_after (cells1 := 0) (slots1 := 0) (w_runV E kV_R_317 kc_X12_likely (t_R_likely l hfl G on N x6 x2 0 M r ((fun z => (.inl (some (.long z)), M, r)) z4) (by rw [hz]; rfl)) ⟨Nat.le_of_ble_eq_true rfl, Nat.le_of_ble_eq_true rfl⟩ hw (w_recvR E hw on) rfl hl.1 rfl (Nat.le_of_ble_eq_true rfl) dX12_from_98 ⟨Nat.le_of_ble_eq_true rfl, Nat.le_of_ble_eq_true rfl⟩) hw rfl (Nat.le_of_ble_eq_true rfl) (Nat.le_of_ble_eq_true rfl) (fun H locs hw => ?_)
        refine W.eq (g2 := F0 m 101 ls [.long z4]) rfl ?_
        have hw : w_W G M r s H locs := hw
        refine lv_lconst (v := 0) hx hb dX12_from_101 (by decide) ?_
        refine W.lcmp hx hb dX12_from_102 ?_
        refine cx_if_ne (tgt := 109) E dX12_from_103 (by decide) (fun _ => ?_) (fun _ => ?_)
        · refine lv_iload hx hb dX12_from_109 (lv_at hl 3 rfl) ?_
          refine lv_iconst (v := 1) hx hb dX12_from_111 (by decide) ?_
          refine lv_iload hx hb dX12_from_112 (lv_at hl 5 rfl) ?_
          refine lv_ishl hx hb dX12_from_114 ?_
          refine lv_ior hx hb dX12_from_115 ?_
          refine lv_istore (lv' := [(4, .int (x4 ||| (1 <<< (x6 &&& 31)))), (0, .ref (g_r G)), (1, .int a0), (2, .int x2), (5, .int x5), (6, .int x6)]) hx hb dX12_from_116 hl (by decide) rfl (fun ls hl => ?_)
          refine lv_iload hx hb dX12_from_118 (lv_at hl 4 rfl) ?_
          refine lv_iconst (v := (-1)) hx hb dX12_from_120 (by decide) ?_
          refine cx_icmp_eq (tgt := 162) E dX12_from_121 (by decide) (fun _ => ?_) (fun _ => ?_)
          · exact w162 (f_R_from_82 N a0 n) ih x2 (x4 ||| (1 <<< (x6 &&& 31))) x6 r _ _ _ hw (lv_sub hl [1, 2, 3, 0, 5] rfl)
          · refine lv_aload_n hx hb dX12_from_124 rfl (lv_at hl 1 rfl) ?_
            refine lv_iload hx hb dX12_from_125 (lv_at hl 5 rfl) ?_
            refine lv_iload_n hx hb dX12_from_127 rfl (lv_at hl 3 rfl) ?_
            refine lv_iconst (v := 0) hx hb dX12_from_128 (by decide) ?_
            refine W_bind fun z5 hz => ?_
            refine w_after (cells1 := 0) (slots1 := 0) (w_runV E kV_R_317 kc_X12_likely (t_R_likely l hfl G on N x6 x2 0 M r ((fun z => (.inl (some (.long z)), M, r)) z5) (by rw [hz]; rfl)) ⟨Nat.le_of_ble_eq_true rfl, Nat.le_of_ble_eq_true rfl⟩ hw (w_recvR E hw on) rfl hl.1 rfl (Nat.le_of_ble_eq_true rfl) dX12_from_129 ⟨Nat.le_of_ble_eq_true rfl, Nat.le_of_ble_eq_true rfl⟩) hw rfl (Nat.le_of_ble_eq_true rfl) (Nat.le_of_ble_eq_true rfl) (fun H locs hw => ?_)
            refine W.eq (g2 := F0 m 132 ls [.long z5]) rfl ?_
            have hw : w_W G M r s H locs := hw
            refine lv_aload_n hx hb dX12_from_132 rfl (lv_at hl 1 rfl) ?_
            refine lv_iload hx hb dX12_from_133 (lv_at hl 4 rfl) ?_
            refine lv_iload_n hx hb dX12_from_135 rfl (lv_at hl 3 rfl) ?_
            refine lv_iconst (v := 1) hx hb dX12_from_136 (by decide) ?_
            refine W_bind fun z6 hz => ?_
            refine w_after (cells1 := 0) (slots1 := 0) (w_runV E kV_R_317 kc_X12_likely (t_R_likely l hfl G on N x5 x2 1 M r ((fun z => (.inl (some (.long z)), M, r)) z6) (by rw [hz]; rfl)) ⟨Nat.le_of_ble_eq_true rfl, Nat.le_of_ble_eq_true rfl⟩ hw (w_recvR E hw on) rfl hl.1 rfl (Nat.le_of_ble_eq_true rfl) dX12_from_137 ⟨Nat.le_of_ble_eq_true rfl, Nat.le_of_ble_eq_true rfl⟩) hw rfl (Nat.le_of_ble_eq_true rfl) (Nat.le_of_ble_eq_true rfl) (fun H locs hw => ?_)
            refine W.eq (g2 := F0 m 140 ls [.long z6, .long z5]) rfl ?_
            have hw : w_W G M r s H locs := hw
            refine lv_lmul hx hb dX12_from_140 ?_
            refine lv_aload_n hx hb dX12_from_141 rfl (lv_at hl 1 rfl) ?_
            refine lv_iload hx hb dX12_from_142 (lv_at hl 4 rfl) ?_
            refine lv_iload_n hx hb dX12_from_144 rfl (lv_at hl 3 rfl) ?_
            refine lv_iconst (v := 0) hx hb dX12_from_145 (by decide) ?_
            refine W_bind fun z7 hz => ?_
            refine w_after (cells1 := 0) (slots1 := 0) (w_runV E kV_R_317 kc_X12_likely (t_R_likely l hfl G on N x5 x2 0 M r ((fun z => (.inl (some (.long z)), M, r)) z7) (by rw [hz]; rfl)) ⟨Nat.le_of_ble_eq_true rfl, Nat.le_of_ble_eq_true rfl⟩ hw (w_recvR E hw on) rfl hl.1 rfl (Nat.le_of_ble_eq_true rfl) dX12_from_146 ⟨Nat.le_of_ble_eq_true rfl, Nat.le_of_ble_eq_true rfl⟩) hw rfl (Nat.le_of_ble_eq_true rfl) (Nat.le_of_ble_eq_true rfl) (fun H locs hw => ?_)
            refine W.eq (g2 := F0 m 149 ls [.long z7, .long (z5 * z6)]) rfl ?_
            have hw : w_W G M r s H locs := hw
            refine lv_aload_n hx hb dX12_from_149 rfl (lv_at hl 1 rfl) ?_
            refine lv_iload hx hb dX12_from_150 (lv_at hl 5 rfl) ?_
            refine lv_iload_n hx hb dX12_from_152 rfl (lv_at hl 3 rfl) ?_
            refine lv_iconst (v := 1) hx hb dX12_from_153 (by decide) ?_
            refine W_bind fun z8 hz => ?_
            refine w_after (cells1 := 0) (slots1 := 0) (w_runV E kV_R_317 kc_X12_likely (t_R_likely l hfl G on N x6 x2 1 M r ((fun z => (.inl (some (.long z)), M, r)) z8) (by rw [hz]; rfl)) ⟨Nat.le_of_ble_eq_true rfl, Nat.le_of_ble_eq_true rfl⟩ hw (w_recvR E hw on) rfl hl.1 rfl (Nat.le_of_ble_eq_true rfl) dX12_from_154 ⟨Nat.le_of_ble_eq_true rfl, Nat.le_of_ble_eq_true rfl⟩) hw rfl (Nat.le_of_ble_eq_true rfl) (Nat.le_of_ble_eq_true rfl) (fun H locs hw => ?_)
            refine W.eq (g2 := F0 m 157 ls [.long z8, .long z7, .long (z5 * z6)]) rfl ?_
            have hw : w_W G M r s H locs := hw
            refine lv_lmul hx hb dX12_from_157 ?_
            refine W.lcmp hx hb dX12_from_158 ?_
            refine cx_if_le (tgt := 166) E dX12_from_159 (by decide) (fun _ => ?_) (fun _ => ?_)
            · refine lv_iinc (v := x6 + 1) (lv' := [(6, .int (x6 + 1)), (4, .int (x4 ||| (1 <<< (x6 &&& 31)))), (0, .ref (g_r G)), (1, .int a0), (2, .int x2), (5, .int x5)]) hx hb dX12_from_166 hl (k := 5) rfl rfl (by decide) rfl (fun ls hl => ?_)
              refine lv_goto (tgt := 82) hx hb dX12_from_169 (by decide) ?_
              exact ih x2 (x4 ||| (1 <<< (x6 &&& 31))) x5 (x6 + 1) r _ _ _ hw (lv_sub hl [2, 3, 4, 1, 5, 0] rfl)
            · exact w162 (f_R_from_82 N a0 n) ih x2 (x4 ||| (1 <<< (x6 &&& 31))) x6 r _ _ _ hw (lv_sub hl [1, 2, 3, 0, 5] rfl)
        · refine lv_goto (tgt := 166) hx hb dX12_from_106 (by decide) ?_
          refine lv_iinc (v := x6 + 1) (lv' := [(6, .int (x6 + 1)), (0, .ref (g_r G)), (1, .int a0), (2, .int x2), (4, .int x4), (5, .int x5)]) hx hb dX12_from_166 hl (k := 5) rfl rfl (by decide) rfl (fun ls hl => ?_)
          refine lv_goto (tgt := 82) hx hb dX12_from_169 (by decide) ?_
          exact ih x2 x4 x5 (x6 + 1) r _ _ _ hw (lv_sub hl [1, 2, 3, 4, 5, 0] rfl)
  have w61 : ∀ (x2 : Int32) (y1 : Int32) (r : Rho) (H : Heap) (locs : List Loc) (ls : Array Slot), w_W G M r s H locs → lv_has ls 7 [(0, .ref (g_r G)), (1, .int a0), (2, .int x2)] → W p l e rm_R_from s m args below meth c H locs 0 0 (PQ G below args s rm_R_from.cells rm_R_from.slots (fun z => (.inl (some (.int z.1)), M, z.2)) (f_R_from_61 N a0 x2 y1 r)) (F0 m 61 ls [.int y1, .ref (g_r G)]) := by
    intro x2 y1 r H locs ls hw hl
    unfold f_R_from_61
    refine rx_putI E hw on kF_R_56_11 (by decide) kT_11_0 dX12_from_61 (fun H locs hw => ?_)
    refine lv_aload_n hx hb dX12_from_64 rfl (lv_at hl 0 rfl) ?_
    refine rx_getI E hw on kF_R_56_11 (by decide) dX12_from_65 ?_
    refine cx_if_le (tgt := 73) E dX12_from_68 (by decide) (fun _ => ?_) (fun _ => ?_)
    · refine lv_iconst (v := 0) hx hb dX12_from_73 (by decide) ?_
      refine lv_istore (lv' := [(4, .int 0), (0, .ref (g_r G)), (1, .int a0), (2, .int x2)]) hx hb dX12_from_74 hl (by decide) rfl (fun ls hl => ?_)
      refine lv_iconst (v := (-1)) hx hb dX12_from_76 (by decide) ?_
      refine lv_istore (lv' := [(5, .int (-1)), (4, .int 0), (0, .ref (g_r G)), (1, .int a0), (2, .int x2)]) hx hb dX12_from_77 hl (by decide) rfl (fun ls hl => ?_)
      refine lv_iconst (v := 0) hx hb dX12_from_79 (by decide) ?_
      refine lv_istore (lv' := [(6, .int 0), (5, .int (-1)), (4, .int 0), (0, .ref (g_r G)), (1, .int a0), (2, .int x2)]) hx hb dX12_from_80 hl (by decide) rfl (fun ls hl => ?_)
      exact w82  N x2 0 (-1) 0 (r_set r 0 y1) _ _ _ hw (lv_sub hl [3, 4, 5, 2, 1, 0] rfl)
    · refine lv_iconst (v := 0) hx hb dX12_from_71 (by decide) ?_
      exact p_iret E hw hr (Nat.le_of_ble_eq_true rfl) (Nat.le_of_ble_eq_true rfl) rfl dX12_from_72
  have w51 : ∀ (x2 : Int32) (x3 : Int32) (r : Rho) (H : Heap) (locs : List Loc) (ls : Array Slot), w_W G M r s H locs → lv_has ls 7 [(0, .ref (g_r G)), (1, .int a0), (2, .int x2), (3, .int x3)] → W p l e rm_R_from s m args below meth c H locs 0 0 (PQ G below args s rm_R_from.cells rm_R_from.slots (fun z => (.inl (some (.int z.1)), M, z.2)) (f_R_from_51 N a0 x2 x3 r)) (F0 m 51 ls []) := by
    intro x2 x3 r H locs ls hw hl
    unfold f_R_from_51
    refine lv_aload_n hx hb dX12_from_51 rfl (lv_at hl 0 rfl) ?_
    refine lv_iload_n hx hb dX12_from_52 rfl (lv_at hl 3 rfl) ?_
    refine cx_if_eq (tgt := 60) E dX12_from_53 (by decide) (fun _ => ?_) (fun _ => ?_)
    · refine lv_iconst (v := 1) hx hb dX12_from_60 (by decide) ?_
      exact w61  x2 1 r _ _ _ hw (lv_sub hl [0, 1, 2] rfl)
    · refine lv_iconst (v := 0) hx hb dX12_from_56 (by decide) ?_
      refine lv_goto (tgt := 61) hx hb dX12_from_57 (by decide) ?_
      exact w61  x2 0 r _ _ _ hw (lv_sub hl [0, 1, 2] rfl)
  have w24 : ∀ (n : Nat) (x2 : Int32) (x3 : Int32) (x4 : Int32) (r : Rho) (H : Heap) (locs : List Loc) (ls : Array Slot), w_W G M r s H locs → lv_has ls 7 [(0, .ref (g_r G)), (1, .int a0), (2, .int x2), (3, .int x3), (4, .int x4)] → W p l e rm_R_from s m args below meth c H locs 0 0 (PQ G below args s rm_R_from.cells rm_R_from.slots (fun z => (.inl (some (.int z.1)), M, z.2)) (f_R_from_24 N a0 n x2 x3 x4 r)) (F0 m 24 ls []) := by
    intro n
    induction n with
    | zero => intros; exact W_none
    | succ n ih =>
      intro x2 x3 x4 r H locs ls hw hl
      rw [f_R_from_24]
      refine lv_iload hx hb dX12_from_24 (lv_at hl 4 rfl) ?_
      refine lv_iload_n hx hb dX12_from_26 rfl (lv_at hl 2 rfl) ?_
      refine cx_icmp_ge (tgt := 51) E dX12_from_27 (by decide) (fun _ => ?_) (fun _ => ?_)
      · exact w51  x2 x3 r _ _ _ hw (lv_sub hl [0, 1, 2, 3] rfl)
      · refine lv_iload_n hx hb dX12_from_30 rfl (lv_at hl 3 rfl) ?_
        refine cx_if_eq (tgt := 51) E dX12_from_31 (by decide) (fun _ => ?_) (fun _ => ?_)
        · exact w51  x2 x3 r _ _ _ hw (lv_sub hl [0, 1, 2, 3] rfl)
        · refine lv_aload_n hx hb dX12_from_34 rfl (lv_at hl 0 rfl) ?_
          refine rx_getA E hw on kF_R_22_11 (by decide) dX12_from_35 ?_
          refine lv_iload hx hb dX12_from_38 (lv_at hl 4 rfl) ?_
          refine rx_iald E hw on (by decide) dX12_from_40 (fun v1 => ?_)
          refine W_bind fun z2 hz => ?_
          refine w_after (cells1 := 0) (slots1 := 0) (w_runS E kS_R_260 kc_X12_isCode (t_R_isCode l hfl G v1 M r ((fun z => (.inl (some (.int z)), M, r)) z2) (by rw [hz]; rfl)) ⟨Nat.le_of_ble_eq_true rfl, Nat.le_of_ble_eq_true rfl⟩ hw rfl hl.1 rfl (Nat.le_of_ble_eq_true rfl) dX12_from_41 ⟨Nat.le_of_ble_eq_true rfl, Nat.le_of_ble_eq_true rfl⟩) hw rfl (Nat.le_of_ble_eq_true rfl) (Nat.le_of_ble_eq_true rfl) (fun H locs hw => ?_)
          refine W.eq (g2 := F0 m 44 ls [.int z2]) rfl ?_
          have hw : w_W G M r s H locs := hw
          refine lv_istore_n (lv' := [(3, .int z2), (0, .ref (g_r G)), (1, .int a0), (2, .int x2), (4, .int x4)]) hx hb dX12_from_44 rfl hl (by decide) rfl (fun ls hl => ?_)
          refine lv_iinc (v := x4 + 1) (lv' := [(4, .int (x4 + 1)), (3, .int z2), (0, .ref (g_r G)), (1, .int a0), (2, .int x2)]) hx hb dX12_from_45 hl (k := 4) rfl rfl (by decide) rfl (fun ls hl => ?_)
          refine lv_goto (tgt := 24) hx hb dX12_from_48 (by decide) ?_
          exact ih x2 z2 (x4 + 1) r _ _ _ hw (lv_sub hl [2, 3, 4, 1, 0] rfl)
  have w20 : ∀ (x2 : Int32) (y0 : Int32) (r : Rho) (H : Heap) (locs : List Loc) (ls : Array Slot), w_W G M r s H locs → lv_has ls 7 [(0, .ref (g_r G)), (1, .int a0), (2, .int x2)] → W p l e rm_R_from s m args below meth c H locs 0 0 (PQ G below args s rm_R_from.cells rm_R_from.slots (fun z => (.inl (some (.int z.1)), M, z.2)) (f_R_from_20 N a0 x2 y0 r)) (F0 m 20 ls [.int y0]) := by
    intro x2 y0 r H locs ls hw hl
    unfold f_R_from_20
    refine lv_istore_n (lv' := [(3, .int y0), (0, .ref (g_r G)), (1, .int a0), (2, .int x2)]) hx hb dX12_from_20 rfl hl (by decide) rfl (fun ls hl => ?_)
    refine lv_iconst (v := 0) hx hb dX12_from_21 (by decide) ?_
    refine lv_istore (lv' := [(4, .int 0), (3, .int y0), (0, .ref (g_r G)), (1, .int a0), (2, .int x2)]) hx hb dX12_from_22 hl (by decide) rfl (fun ls hl => ?_)
    exact w24  N x2 y0 0 r _ _ _ hw (lv_sub hl [2, 3, 4, 1, 0] rfl)
  unfold f_R_from
  refine lv_aload_n hx hb dX12_from_0 rfl (lv_at hl 0 rfl) ?_
  refine rx_getI E hw on kF_R_73_11 (by decide) dX12_from_1 ?_
  refine lv_istore_n (lv' := [(2, .int (r.1 8)), (0, .ref (g_r G)), (1, .int a0)]) hx hb dX12_from_4 rfl hl (by decide) rfl (fun ls hl => ?_)
  refine lv_aload_n hx hb dX12_from_5 rfl (lv_at hl 1 rfl) ?_
  refine lv_iconst (v := 0) hx hb dX12_from_6 (by decide) ?_
  refine rx_putI E hw on kF_R_73_11 (by decide) kT_11_8 dX12_from_7 (fun H locs hw => ?_)
  refine lv_iload_n hx hb dX12_from_10 rfl (lv_at hl 0 rfl) ?_
  refine lv_iconst (v := 4) hx hb dX12_from_11 (by decide) ?_
  refine cx_icmp_gt (tgt := 19) E dX12_from_12 (by decide) (fun _ => ?_) (fun _ => ?_)
  · refine lv_iconst (v := 0) hx hb dX12_from_19 (by decide) ?_
    exact w20  (r.1 8) 0 (r_set r 8 0) _ _ _ hw (lv_sub hl [1, 2, 0] rfl)
  · refine lv_iconst (v := 1) hx hb dX12_from_15 (by decide) ?_
    refine lv_goto (tgt := 20) hx hb dX12_from_16 (by decide) ?_
    exact w20  (r.1 8) 1 (r_set r 8 0) _ _ _ hw (lv_sub hl [1, 2, 0] rfl)
set_option maxHeartbeats 4000000 in
set_option maxRecDepth 100000 in
theorem t_R_peopleOf (l : Launch) (hfl : l.stackTraces = false) (G : wG) (on : g_on G = true) (N : Nat) (a0 : Int32) (M : Mem) (r : Rho) : Ctr l yX12_peopleOf (wWs yX12_peopleOf cX12_peopleOf 4 (some .int)) rm_R_peopleOf rm_R_peopleOf.cells rm_R_peopleOf.slots G [.ref (g_r G), .int a0] M r ((f_R_peopleOf N a0 r).map (fun z => (.inl (some (.int z)), M, r))) := by
  refine Ctr.ofF (own := "CheekTownModel") (by decide +kernel) hfl rfl (Nat.le_of_ble_eq_true rfl) (fun p e s m args below meth c E hno hr hnm hw ls hl => ?_)
  obtain ⟨hx, hb, hts, hown, hml, hTT, -⟩ := id E
  have hl : lv_has ls 4 [(0, .ref (g_r G)), (1, .int a0)] := hl
  obtain ⟨H, hH⟩ : ∃ H, H = s.heap := ⟨_, rfl⟩
  obtain ⟨locs, hlo⟩ : ∃ L : List Loc, L = [] := ⟨_, rfl⟩
  rw [← hH, ← hlo]
  rw [← hlo] at hw
  replace hw : w_W G M r s H locs := by rw [hH]; exact hw
  have w30 : ∀ (k4 : Int32 → Int32 → Option (Int32)) (hk4 : ∀ (x2 : Int32) (x3 : Int32) (H : Heap) (locs : List Loc) (ls : Array Slot), w_W G M r s H locs → lv_has ls 4 [(0, .ref (g_r G)), (1, .int a0), (2, .int x2), (3, .int x3)] → W p l e rm_R_peopleOf s m args below meth c H locs 0 0 (PQ G below args s rm_R_peopleOf.cells rm_R_peopleOf.slots (fun z => (.inl (some (.int z)), M, r)) (k4 x2 x3)) (F0 m 4 ls [])) (x3 : Int32) (y0 : Int32) (y1 : Int32) (H : Heap) (locs : List Loc) (ls : Array Slot), w_W G M r s H locs → lv_has ls 4 [(0, .ref (g_r G)), (1, .int a0), (3, .int x3)] → W p l e rm_R_peopleOf s m args below meth c H locs 0 0 (PQ G below args s rm_R_peopleOf.cells rm_R_peopleOf.slots (fun z => (.inl (some (.int z)), M, r)) (f_R_peopleOf_30 N a0 r k4 x3 y0 y1)) (F0 m 30 ls [.int y1, .int y0]) := by
    intro k4 hk4 x3 y0 y1 H locs ls hw hl
    unfold f_R_peopleOf_30
    refine lv_iadd hx hb dX12_peopleOf_30 ?_
    refine lv_istore_n (lv' := [(2, .int (y0 + y1)), (0, .ref (g_r G)), (1, .int a0), (3, .int x3)]) hx hb dX12_peopleOf_31 rfl hl (by decide) rfl (fun ls hl => ?_)
    refine lv_iinc (v := x3 + 1) (lv' := [(3, .int (x3 + 1)), (2, .int (y0 + y1)), (0, .ref (g_r G)), (1, .int a0)]) hx hb dX12_peopleOf_32 hl (k := 3) rfl rfl (by decide) rfl (fun ls hl => ?_)
    refine lv_goto (tgt := 4) hx hb dX12_peopleOf_35 (by decide) ?_
    exact hk4 (y0 + y1) (x3 + 1) _ _ _ hw (lv_sub hl [2, 3, 1, 0] rfl)
  have w4 : ∀ (n : Nat) (x2 : Int32) (x3 : Int32) (H : Heap) (locs : List Loc) (ls : Array Slot), w_W G M r s H locs → lv_has ls 4 [(0, .ref (g_r G)), (1, .int a0), (2, .int x2), (3, .int x3)] → W p l e rm_R_peopleOf s m args below meth c H locs 0 0 (PQ G below args s rm_R_peopleOf.cells rm_R_peopleOf.slots (fun z => (.inl (some (.int z)), M, r)) (f_R_peopleOf_4 N a0 r n x2 x3)) (F0 m 4 ls []) := by
    intro n
    induction n with
    | zero => intros; exact W_none
    | succ n ih =>
      intro x2 x3 H locs ls hw hl
      rw [f_R_peopleOf_4]
      refine lv_iload_n hx hb dX12_peopleOf_4 rfl (lv_at hl 3 rfl) ?_
      refine lv_aload_n hx hb dX12_peopleOf_5 rfl (lv_at hl 0 rfl) ?_
      refine rx_getA E hw on kF_R_7_11 (by decide) dX12_peopleOf_6 ?_
      refine lv_iconst (v := 5) hx hb dX12_peopleOf_9 (by decide) ?_
      refine rx_iald E hw on (by decide) dX12_peopleOf_10 (fun v1 => ?_)
      refine cx_icmp_ge (tgt := 38) E dX12_peopleOf_11 (by decide) (fun _ => ?_) (fun _ => ?_)
      · refine lv_iload_n hx hb dX12_peopleOf_38 rfl (lv_at hl 2 rfl) ?_
        exact p_iret E hw hr (Nat.le_of_ble_eq_true rfl) (Nat.le_of_ble_eq_true rfl) rfl dX12_peopleOf_39
      · refine lv_iload_n hx hb dX12_peopleOf_14 rfl (lv_at hl 2 rfl) ?_
        refine lv_aload_n hx hb dX12_peopleOf_15 rfl (lv_at hl 0 rfl) ?_
        refine lv_iload_n hx hb dX12_peopleOf_16 rfl (lv_at hl 3 rfl) ?_
        refine lv_iconst (v := 0) hx hb dX12_peopleOf_17 (by decide) ?_
        refine W_bind fun z2 hz => ?_
        refine w_after (cells1 := 0) (slots1 := 0) (w_runV E kV_R_257 kc_X12_of (t_R_of l hfl G on x3 0 M r ((fun z => (.inl (some (.int z)), M, r)) z2) (by rw [hz]; rfl)) ⟨Nat.le_of_ble_eq_true rfl, Nat.le_of_ble_eq_true rfl⟩ hw (w_recvR E hw on) rfl hl.1 rfl (Nat.le_of_ble_eq_true rfl) dX12_peopleOf_18 ⟨Nat.le_of_ble_eq_true rfl, Nat.le_of_ble_eq_true rfl⟩) hw rfl (Nat.le_of_ble_eq_true rfl) (Nat.le_of_ble_eq_true rfl) (fun H locs hw => ?_)
        refine W.eq (g2 := F0 m 21 ls [.int z2, .int x2]) rfl ?_
        have hw : w_W G M r s H locs := hw
        refine lv_iload_n hx hb dX12_peopleOf_21 rfl (lv_at hl 1 rfl) ?_
        refine cx_icmp_ne (tgt := 29) E dX12_peopleOf_22 (by decide) (fun _ => ?_) (fun _ => ?_)
        · refine lv_iconst (v := 0) hx hb dX12_peopleOf_29 (by decide) ?_
          exact w30 (f_R_peopleOf_4 N a0 r n) ih x3 x2 0 _ _ _ hw (lv_sub hl [0, 1, 3] rfl)
        · refine lv_iconst (v := 1) hx hb dX12_peopleOf_25 (by decide) ?_
          refine lv_goto (tgt := 30) hx hb dX12_peopleOf_26 (by decide) ?_
          exact w30 (f_R_peopleOf_4 N a0 r n) ih x3 x2 1 _ _ _ hw (lv_sub hl [0, 1, 3] rfl)
  unfold f_R_peopleOf
  refine lv_iconst (v := 0) hx hb dX12_peopleOf_0 (by decide) ?_
  refine lv_istore_n (lv' := [(2, .int 0), (0, .ref (g_r G)), (1, .int a0)]) hx hb dX12_peopleOf_1 rfl hl (by decide) rfl (fun ls hl => ?_)
  refine lv_iconst (v := 0) hx hb dX12_peopleOf_2 (by decide) ?_
  refine lv_istore_n (lv' := [(3, .int 0), (2, .int 0), (0, .ref (g_r G)), (1, .int a0)]) hx hb dX12_peopleOf_3 rfl hl (by decide) rfl (fun ls hl => ?_)
  exact w4  N 0 0 _ _ _ hw (lv_sub hl [2, 3, 1, 0] rfl)
set_option maxHeartbeats 4000000 in
set_option maxRecDepth 100000 in
theorem t_R_expectsAll (l : Launch) (hfl : l.stackTraces = false) (G : wG) (on : g_on G = true) (N : Nat) (a0 : Int32) (M : Mem) (r : Rho) : Ctr l yX12_expectsAll (wWs yX12_expectsAll cX12_expectsAll 4 (some .int)) rm_R_expectsAll rm_R_expectsAll.cells rm_R_expectsAll.slots G [.ref (g_r G), .int a0] M r ((f_R_expectsAll N a0 r).map (fun z => (.inl (some (.int z)), M, r))) := by
  refine Ctr.ofF (own := "CheekTownModel") (by decide +kernel) hfl rfl (Nat.le_of_ble_eq_true rfl) (fun p e s m args below meth c E hno hr hnm hw ls hl => ?_)
  obtain ⟨hx, hb, hts, hown, hml, hTT, -⟩ := id E
  have hl : lv_has ls 4 [(0, .ref (g_r G)), (1, .int a0)] := hl
  obtain ⟨H, hH⟩ : ∃ H, H = s.heap := ⟨_, rfl⟩
  obtain ⟨locs, hlo⟩ : ∃ L : List Loc, L = [] := ⟨_, rfl⟩
  rw [← hH, ← hlo]
  rw [← hlo] at hw
  replace hw : w_W G M r s H locs := by rw [hH]; exact hw
  have w36 : ∀ (k4 : Int32 → Int32 → Option (Int32)) (hk4 : ∀ (x2 : Int32) (x3 : Int32) (H : Heap) (locs : List Loc) (ls : Array Slot), w_W G M r s H locs → lv_has ls 4 [(0, .ref (g_r G)), (1, .int a0), (2, .int x2), (3, .int x3)] → W p l e rm_R_expectsAll s m args below meth c H locs 0 0 (PQ G below args s rm_R_expectsAll.cells rm_R_expectsAll.slots (fun z => (.inl (some (.int z)), M, r)) (k4 x2 x3)) (F0 m 4 ls [])) (x3 : Int32) (y0 : Int32) (y1 : Int32) (y3 : Int32) (y4 : Int32) (H : Heap) (locs : List Loc) (ls : Array Slot), w_W G M r s H locs → lv_has ls 4 [(0, .ref (g_r G)), (1, .int a0), (3, .int x3)] → W p l e rm_R_expectsAll s m args below meth c H locs 0 0 (PQ G below args s rm_R_expectsAll.cells rm_R_expectsAll.slots (fun z => (.inl (some (.int z)), M, r)) (f_R_expectsAll_36 N a0 r k4 x3 y0 y1 y3 y4)) (F0 m 36 ls [.int y4, .int y3, .ref (g_r G), .int y1, .int y0]) := by
    intro k4 hk4 x3 y0 y1 y3 y4 H locs ls hw hl
    unfold f_R_expectsAll_36
    refine W_bind fun z4 hz => ?_
    refine w_after (cells1 := 0) (slots1 := 0) (w_runV E kV_R_308 kc_X12_expects (t_R_expects l hfl G on N y3 y4 M r ((fun z => (.inl (some (.int z)), M, r)) z4) (by rw [hz]; rfl)) ⟨Nat.le_of_ble_eq_true rfl, Nat.le_of_ble_eq_true rfl⟩ hw (w_recvR E hw on) rfl hl.1 rfl (Nat.le_of_ble_eq_true rfl) dX12_expectsAll_36 ⟨Nat.le_of_ble_eq_true rfl, Nat.le_of_ble_eq_true rfl⟩) hw rfl (Nat.le_of_ble_eq_true rfl) (Nat.le_of_ble_eq_true rfl) (fun H locs hw => ?_)
    refine W.eq (g2 := F0 m 39 ls [.int z4, .int y1, .int y0]) rfl ?_
    have hw : w_W G M r s H locs := hw
    refine lv_imul hx hb dX12_expectsAll_39 ?_
    refine lv_iadd hx hb dX12_expectsAll_40 ?_
    refine lv_istore_n (lv' := [(2, .int (y0 + (y1 * z4))), (0, .ref (g_r G)), (1, .int a0), (3, .int x3)]) hx hb dX12_expectsAll_41 rfl hl (by decide) rfl (fun ls hl => ?_)
    refine lv_iinc (v := x3 + 1) (lv' := [(3, .int (x3 + 1)), (2, .int (y0 + (y1 * z4))), (0, .ref (g_r G)), (1, .int a0)]) hx hb dX12_expectsAll_42 hl (k := 3) rfl rfl (by decide) rfl (fun ls hl => ?_)
    refine lv_goto (tgt := 4) hx hb dX12_expectsAll_45 (by decide) ?_
    exact hk4 (y0 + (y1 * z4)) (x3 + 1) _ _ _ hw (lv_sub hl [2, 3, 1, 0] rfl)
  have w4 : ∀ (n : Nat) (x2 : Int32) (x3 : Int32) (H : Heap) (locs : List Loc) (ls : Array Slot), w_W G M r s H locs → lv_has ls 4 [(0, .ref (g_r G)), (1, .int a0), (2, .int x2), (3, .int x3)] → W p l e rm_R_expectsAll s m args below meth c H locs 0 0 (PQ G below args s rm_R_expectsAll.cells rm_R_expectsAll.slots (fun z => (.inl (some (.int z)), M, r)) (f_R_expectsAll_4 N a0 r n x2 x3)) (F0 m 4 ls []) := by
    intro n
    induction n with
    | zero => intros; exact W_none
    | succ n ih =>
      intro x2 x3 H locs ls hw hl
      rw [f_R_expectsAll_4]
      refine lv_iload_n hx hb dX12_expectsAll_4 rfl (lv_at hl 3 rfl) ?_
      refine lv_aload_n hx hb dX12_expectsAll_5 rfl (lv_at hl 0 rfl) ?_
      refine rx_getA E hw on kF_R_7_11 (by decide) dX12_expectsAll_6 ?_
      refine lv_iconst (v := 3) hx hb dX12_expectsAll_9 (by decide) ?_
      refine rx_iald E hw on (by decide) dX12_expectsAll_10 (fun v1 => ?_)
      refine cx_icmp_ge (tgt := 48) E dX12_expectsAll_11 (by decide) (fun _ => ?_) (fun _ => ?_)
      · refine lv_iload_n hx hb dX12_expectsAll_48 rfl (lv_at hl 2 rfl) ?_
        exact p_iret E hw hr (Nat.le_of_ble_eq_true rfl) (Nat.le_of_ble_eq_true rfl) rfl dX12_expectsAll_49
      · refine lv_iload_n hx hb dX12_expectsAll_14 rfl (lv_at hl 2 rfl) ?_
        refine lv_aload_n hx hb dX12_expectsAll_15 rfl (lv_at hl 0 rfl) ?_
        refine lv_iload_n hx hb dX12_expectsAll_16 rfl (lv_at hl 3 rfl) ?_
        refine W_bind fun z2 hz => ?_
        refine w_after (cells1 := 0) (slots1 := 0) (w_runV E kV_R_321 kc_X12_peopleOf (t_R_peopleOf l hfl G on N x3 M r ((fun z => (.inl (some (.int z)), M, r)) z2) (by rw [hz]; rfl)) ⟨Nat.le_of_ble_eq_true rfl, Nat.le_of_ble_eq_true rfl⟩ hw (w_recvR E hw on) rfl hl.1 rfl (Nat.le_of_ble_eq_true rfl) dX12_expectsAll_17 ⟨Nat.le_of_ble_eq_true rfl, Nat.le_of_ble_eq_true rfl⟩) hw rfl (Nat.le_of_ble_eq_true rfl) (Nat.le_of_ble_eq_true rfl) (fun H locs hw => ?_)
        refine W.eq (g2 := F0 m 20 ls [.int z2, .int x2]) rfl ?_
        have hw : w_W G M r s H locs := hw
        refine lv_aload_n hx hb dX12_expectsAll_20 rfl (lv_at hl 0 rfl) ?_
        refine lv_iload_n hx hb dX12_expectsAll_21 rfl (lv_at hl 3 rfl) ?_
        refine lv_iload_n hx hb dX12_expectsAll_22 rfl (lv_at hl 1 rfl) ?_
        refine lv_iconst (v := (-1)) hx hb dX12_expectsAll_23 (by decide) ?_
        refine cx_icmp_ne (tgt := 35) E dX12_expectsAll_24 (by decide) (fun _ => ?_) (fun _ => ?_)
        · refine lv_iload_n hx hb dX12_expectsAll_35 rfl (lv_at hl 1 rfl) ?_
          exact w36 (f_R_expectsAll_4 N a0 r n) ih x3 x2 z2 x3 a0 _ _ _ hw (lv_sub hl [0, 1, 3] rfl)
        · refine lv_aload_n hx hb dX12_expectsAll_27 rfl (lv_at hl 0 rfl) ?_
          refine lv_iload_n hx hb dX12_expectsAll_28 rfl (lv_at hl 3 rfl) ?_
          refine W_bind fun z3 hz => ?_
          refine w_after (cells1 := 0) (slots1 := 0) (w_runV E kV_R_311 kc_X12_bestOf (t_R_bestOf l hfl G on N x3 M r ((fun z => (.inl (some (.int z)), M, r)) z3) (by rw [hz]; rfl)) ⟨Nat.le_of_ble_eq_true rfl, Nat.le_of_ble_eq_true rfl⟩ hw (w_recvR E hw on) rfl hl.1 rfl (Nat.le_of_ble_eq_true rfl) dX12_expectsAll_29 ⟨Nat.le_of_ble_eq_true rfl, Nat.le_of_ble_eq_true rfl⟩) hw rfl (Nat.le_of_ble_eq_true rfl) (Nat.le_of_ble_eq_true rfl) (fun H locs hw => ?_)
          refine W.eq (g2 := F0 m 32 ls [.int z3, .int x3, .ref (g_r G), .int z2, .int x2]) rfl ?_
          have hw : w_W G M r s H locs := hw
          refine lv_goto (tgt := 36) hx hb dX12_expectsAll_32 (by decide) ?_
          exact w36 (f_R_expectsAll_4 N a0 r n) ih x3 x2 z2 x3 z3 _ _ _ hw (lv_sub hl [0, 1, 3] rfl)
  unfold f_R_expectsAll
  refine lv_iconst (v := 0) hx hb dX12_expectsAll_0 (by decide) ?_
  refine lv_istore_n (lv' := [(2, .int 0), (0, .ref (g_r G)), (1, .int a0)]) hx hb dX12_expectsAll_1 rfl hl (by decide) rfl (fun ls hl => ?_)
  refine lv_iconst (v := 0) hx hb dX12_expectsAll_2 (by decide) ?_
  refine lv_istore_n (lv' := [(3, .int 0), (2, .int 0), (0, .ref (g_r G)), (1, .int a0)]) hx hb dX12_expectsAll_3 rfl hl (by decide) rfl (fun ls hl => ?_)
  exact w4  N 0 0 _ _ _ hw (lv_sub hl [2, 3, 1, 0] rfl)
set_option maxHeartbeats 4000000 in
set_option maxRecDepth 100000 in
theorem t_R_worth (l : Launch) (hfl : l.stackTraces = false) (G : wG) (on : g_on G = true) (N : Nat) (M : Mem) (r : Rho) : Ctr l yX12_worth (wWs yX12_worth cX12_worth 3 (some .int)) rm_R_worth rm_R_worth.cells rm_R_worth.slots G [.ref (g_r G)] M r ((f_R_worth N r).map (fun z => (.inl (some (.int z.1)), M, z.2))) := by
  refine Ctr.ofF (own := "CheekTownModel") (by decide +kernel) hfl rfl (Nat.le_of_ble_eq_true rfl) (fun p e s m args below meth c E hno hr hnm hw ls hl => ?_)
  obtain ⟨hx, hb, hts, hown, hml, hTT, -⟩ := id E
  have hl : lv_has ls 3 [(0, .ref (g_r G))] := hl
  obtain ⟨H, hH⟩ : ∃ H, H = s.heap := ⟨_, rfl⟩
  obtain ⟨locs, hlo⟩ : ∃ L : List Loc, L = [] := ⟨_, rfl⟩
  rw [← hH, ← hlo]
  rw [← hlo] at hw
  replace hw : w_W G M r s H locs := by rw [hH]; exact hw
  have w13 : ∀ (n : Nat) (x1 : Int32) (x2 : Int32) (r : Rho) (H : Heap) (locs : List Loc) (ls : Array Slot), w_W G M r s H locs → lv_has ls 3 [(0, .ref (g_r G)), (1, .int x1), (2, .int x2)] → W p l e rm_R_worth s m args below meth c H locs 0 0 (PQ G below args s rm_R_worth.cells rm_R_worth.slots (fun z => (.inl (some (.int z.1)), M, z.2)) (f_R_worth_13 N n x1 x2 r)) (F0 m 13 ls []) := by
    intro n
    induction n with
    | zero => intros; exact W_none
    | succ n ih =>
      intro x1 x2 r H locs ls hw hl
      rw [f_R_worth_13]
      refine lv_iload_n hx hb dX12_worth_13 rfl (lv_at hl 2 rfl) ?_
      refine lv_bipush (v := 32) hx hb dX12_worth_14 (by decide) ?_
      refine cx_icmp_ge (tgt := 35) E dX12_worth_16 (by decide) (fun _ => ?_) (fun _ => ?_)
      · refine lv_iload_n hx hb dX12_worth_35 rfl (lv_at hl 1 rfl) ?_
        refine lv_aload_n hx hb dX12_worth_36 rfl (lv_at hl 0 rfl) ?_
        refine lv_iconst (v := (-1)) hx hb dX12_worth_37 (by decide) ?_
        refine W_bind fun z2 hz => ?_
        refine w_after (cells1 := 0) (slots1 := 0) (w_runV E kV_R_324 kc_X12_expectsAll (t_R_expectsAll l hfl G on N (-1) M r ((fun z => (.inl (some (.int z)), M, r)) z2) (by rw [hz]; rfl)) ⟨Nat.le_of_ble_eq_true rfl, Nat.le_of_ble_eq_true rfl⟩ hw (w_recvR E hw on) rfl hl.1 rfl (Nat.le_of_ble_eq_true rfl) dX12_worth_38 ⟨Nat.le_of_ble_eq_true rfl, Nat.le_of_ble_eq_true rfl⟩) hw rfl (Nat.le_of_ble_eq_true rfl) (Nat.le_of_ble_eq_true rfl) (fun H locs hw => ?_)
        refine W.eq (g2 := F0 m 41 ls [.int z2, .int x1]) rfl ?_
        have hw : w_W G M r s H locs := hw
        refine lv_isub hx hb dX12_worth_41 ?_
        exact p_iret E hw hr (Nat.le_of_ble_eq_true rfl) (Nat.le_of_ble_eq_true rfl) rfl dX12_worth_42
      · refine lv_iload_n hx hb dX12_worth_19 rfl (lv_at hl 1 rfl) ?_
        refine lv_aload_n hx hb dX12_worth_20 rfl (lv_at hl 0 rfl) ?_
        refine lv_iload_n hx hb dX12_worth_21 rfl (lv_at hl 2 rfl) ?_
        refine W_bind fun z3 hz => ?_
        refine w_after (cells1 := 0) (slots1 := 0) (w_runV E kV_R_324 kc_X12_expectsAll (t_R_expectsAll l hfl G on N x2 M r ((fun z => (.inl (some (.int z)), M, r)) z3) (by rw [hz]; rfl)) ⟨Nat.le_of_ble_eq_true rfl, Nat.le_of_ble_eq_true rfl⟩ hw (w_recvR E hw on) rfl hl.1 rfl (Nat.le_of_ble_eq_true rfl) dX12_worth_22 ⟨Nat.le_of_ble_eq_true rfl, Nat.le_of_ble_eq_true rfl⟩) hw rfl (Nat.le_of_ble_eq_true rfl) (Nat.le_of_ble_eq_true rfl) (fun H locs hw => ?_)
        refine W.eq (g2 := F0 m 25 ls [.int z3, .int x1]) rfl ?_
        have hw : w_W G M r s H locs := hw
        refine W_bind fun z4 hz => ?_
        refine w_after (cells1 := 0) (slots1 := 0) (w_runS E kS_R_284 kc_X12_lesser (t_R_lesser l hfl G x1 z3 M r ((fun z => (.inl (some (.int z)), M, r)) z4) (by rw [hz]; rfl)) ⟨Nat.le_of_ble_eq_true rfl, Nat.le_of_ble_eq_true rfl⟩ hw rfl hl.1 rfl (Nat.le_of_ble_eq_true rfl) dX12_worth_25 ⟨Nat.le_of_ble_eq_true rfl, Nat.le_of_ble_eq_true rfl⟩) hw rfl (Nat.le_of_ble_eq_true rfl) (Nat.le_of_ble_eq_true rfl) (fun H locs hw => ?_)
        refine W.eq (g2 := F0 m 28 ls [.int z4]) rfl ?_
        have hw : w_W G M r s H locs := hw
        refine lv_istore_n (lv' := [(1, .int z4), (0, .ref (g_r G)), (2, .int x2)]) hx hb dX12_worth_28 rfl hl (by decide) rfl (fun ls hl => ?_)
        refine lv_iinc (v := x2 + 1) (lv' := [(2, .int (x2 + 1)), (1, .int z4), (0, .ref (g_r G))]) hx hb dX12_worth_29 hl (k := 2) rfl rfl (by decide) rfl (fun ls hl => ?_)
        refine lv_goto (tgt := 13) hx hb dX12_worth_32 (by decide) ?_
        exact ih z4 (x2 + 1) r _ _ _ hw (lv_sub hl [2, 1, 0] rfl)
  unfold f_R_worth
  refine lv_aload_n hx hb dX12_worth_0 rfl (lv_at hl 0 rfl) ?_
  refine lv_iconst (v := 0) hx hb dX12_worth_1 (by decide) ?_
  refine rx_putI E hw on kF_R_56_11 (by decide) kT_11_0 dX12_worth_2 (fun H locs hw => ?_)
  refine lv_aload_n hx hb dX12_worth_5 rfl (lv_at hl 0 rfl) ?_
  refine lv_iconst (v := 0) hx hb dX12_worth_6 (by decide) ?_
  refine W_bind fun z1 hz => ?_
  refine w_after (cells1 := 0) (slots1 := 0) (w_runV E kV_R_324 kc_X12_expectsAll (t_R_expectsAll l hfl G on N 0 M (r_set r 0 0) ((fun z => (.inl (some (.int z)), M, (r_set r 0 0))) z1) (by rw [hz]; rfl)) ⟨Nat.le_of_ble_eq_true rfl, Nat.le_of_ble_eq_true rfl⟩ hw (w_recvR E hw on) rfl hl.1 rfl (Nat.le_of_ble_eq_true rfl) dX12_worth_7 ⟨Nat.le_of_ble_eq_true rfl, Nat.le_of_ble_eq_true rfl⟩) hw rfl (Nat.le_of_ble_eq_true rfl) (Nat.le_of_ble_eq_true rfl) (fun H locs hw => ?_)
  refine W.eq (g2 := F0 m 10 ls [.int z1]) rfl ?_
  have hw : w_W G M (r_set r 0 0) s H locs := hw
  refine lv_istore_n (lv' := [(1, .int z1), (0, .ref (g_r G))]) hx hb dX12_worth_10 rfl hl (by decide) rfl (fun ls hl => ?_)
  refine lv_iconst (v := 1) hx hb dX12_worth_11 (by decide) ?_
  refine lv_istore_n (lv' := [(2, .int 1), (1, .int z1), (0, .ref (g_r G))]) hx hb dX12_worth_12 rfl hl (by decide) rfl (fun ls hl => ?_)
  exact w13  N z1 1 (r_set r 0 0) _ _ _ hw (lv_sub hl [2, 1, 0] rfl)

