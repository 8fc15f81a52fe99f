set_option maxHeartbeats 4000000 in
set_option maxRecDepth 100000 in
theorem t_R_read (l : Launch) (hfl : l.stackTraces = false) (G : wG) (on : g_on G = true) (N : Nat) (a0 : Int32) (M : Mem) (r : Rho) : Ctr l yX12_read (wWs yX12_read cX12_read 4 (some .int)) rm_R_read rm_R_read.cells rm_R_read.slots G [.ref (g_r G), .int a0] M r ((f_R_read N a0 r).map (fun z => (.inl (some (.int z.1)), M, z.2))) := by
  refine Ctr.ofF (own := "CheekTownModel") (by decide +kernel) hfl rfl (Nat.le_of_ble_eq_true rfl) (fun p e s m args below meth c E hno hr hnm hw ls hl => ?_)
  obtain ⟨hx, hb, hts, hown, hml, hTT, -⟩ := id E
  have hl : lv_has ls 4 [(0, .ref (g_r G)), (1, .int a0)] := hl
  obtain ⟨H, hH⟩ : ∃ H, H = s.heap := ⟨_, rfl⟩
  obtain ⟨locs, hlo⟩ : ∃ L : List Loc, L = [] := ⟨_, rfl⟩
  rw [← hH, ← hlo]
  rw [← hlo] at hw
  replace hw : w_W G M r s H locs := by rw [hH]; exact hw
  have w106 : ∀ (k23 : Int32 → Int32 → Rho → Option (Int32 × Rho)) (hk23 : ∀ (x2 : Int32) (x3 : Int32) (r : Rho) (H : Heap) (locs : List Loc) (ls : Array Slot), w_W G M r s H locs → lv_has ls 4 [(0, .ref (g_r G)), (1, .int a0), (2, .int x2), (3, .int x3)] → W p l e rm_R_read s m args below meth c H locs 0 0 (PQ G below args s rm_R_read.cells rm_R_read.slots (fun z => (.inl (some (.int z.1)), M, z.2)) (k23 x2 x3 r)) (F0 m 23 ls [])) (x3 : Int32) (r : Rho) (H : Heap) (locs : List Loc) (ls : Array Slot), w_W G M r s H locs → lv_has ls 4 [(0, .ref (g_r G)), (1, .int a0), (3, .int x3)] → W p l e rm_R_read s m args below meth c H locs 0 0 (PQ G below args s rm_R_read.cells rm_R_read.slots (fun z => (.inl (some (.int z.1)), M, z.2)) (f_R_read_106 N a0 k23 x3 r)) (F0 m 106 ls []) := by
    intro k23 hk23 x3 r H locs ls hw hl
    unfold f_R_read_106
    refine lv_iconst (v := 0) hx hb dX12_read_106 (by decide) ?_
    refine lv_istore_n (lv' := [(2, .int 0), (0, .ref (g_r G)), (1, .int a0), (3, .int x3)]) hx hb dX12_read_107 rfl hl (by decide) rfl (fun ls hl => ?_)
    refine lv_goto (tgt := 23) hx hb dX12_read_108 (by decide) ?_
    exact hk23 0 x3 r _ _ _ hw (lv_sub hl [1, 2, 0, 3] rfl)
  have w80 : ∀ (k23 : Int32 → Int32 → Rho → Option (Int32 × Rho)) (hk23 : ∀ (x2 : Int32) (x3 : Int32) (r : Rho) (H : Heap) (locs : List Loc) (ls : Array Slot), w_W G M r s H locs → lv_has ls 4 [(0, .ref (g_r G)), (1, .int a0), (2, .int x2), (3, .int x3)] → W p l e rm_R_read s m args below meth c H locs 0 0 (PQ G below args s rm_R_read.cells rm_R_read.slots (fun z => (.inl (some (.int z.1)), M, z.2)) (k23 x2 x3 r)) (F0 m 23 ls [])) (x2 : Int32) (x3 : Int32) (r : Rho) (H : Heap) (locs : List Loc) (ls : Array Slot), w_W G M r s H locs → lv_has ls 4 [(0, .ref (g_r G)), (1, .int a0), (2, .int x2), (3, .int x3)] → W p l e rm_R_read s m args below meth c H locs 0 0 (PQ G below args s rm_R_read.cells rm_R_read.slots (fun z => (.inl (some (.int z.1)), M, z.2)) (f_R_read_80 N a0 k23 x2 x3 r)) (F0 m 80 ls []) := by
    intro k23 hk23 x2 x3 r H locs ls hw hl
    unfold f_R_read_80
    refine lv_iinc (v := x3 + 1) (lv' := [(3, .int (x3 + 1)), (0, .ref (g_r G)), (1, .int a0), (2, .int x2)]) hx hb dX12_read_80 hl (k := 3) rfl rfl (by decide) rfl (fun ls hl => ?_)
    refine lv_aload_n hx hb dX12_read_83 rfl (lv_at hl 1 rfl) ?_
    refine W_bind fun z6 hz => ?_
    refine w_after (cells1 := 0) (slots1 := 0) (w_runV E kV_R_88 kc_X12_skip (t_R_skip l hfl G on N M r ((fun z => (.inl none, M, z)) z6) (by rw [hz]; rfl)) ⟨Nat.le_of_ble_eq_true rfl, Nat.le_of_ble_eq_true rfl⟩ hw (w_recvR E hw on) rfl hl.1 rfl (Nat.le_of_ble_eq_true rfl) dX12_read_84 ⟨Nat.le_of_ble_eq_true rfl, Nat.le_of_ble_eq_true rfl⟩) hw rfl (Nat.le_of_ble_eq_true rfl) (Nat.le_of_ble_eq_true rfl) (fun H locs hw => ?_)
    refine W.eq (g2 := F0 m 87 ls []) rfl ?_
    have hw : w_W G M z6 s H locs := hw
    refine lv_aload_n hx hb dX12_read_87 rfl (lv_at hl 1 rfl) ?_
    refine rx_getI E hw on kF_R_25_11 (by decide) dX12_read_88 ?_
    refine lv_iconst (v := (-1)) hx hb dX12_read_91 (by decide) ?_
    refine cx_icmp_ne (tgt := 106) E dX12_read_92 (by decide) (fun _ => ?_) (fun _ => ?_)
    · exact w106 k23 hk23 (x3 + 1) z6 _ _ _ hw (lv_sub hl [1, 2, 0] rfl)
    · refine lv_aload_n hx hb dX12_read_95 rfl (lv_at hl 1 rfl) ?_
      refine rx_getI E hw on kF_R_79_11 (by decide) dX12_read_96 ?_
      refine lv_aload_n hx hb dX12_read_99 rfl (lv_at hl 1 rfl) ?_
      refine rx_getI E hw on kF_R_82_11 (by decide) dX12_read_100 ?_
      refine cx_icmp_ne (tgt := 111) E dX12_read_103 (by decide) (fun _ => ?_) (fun _ => ?_)
      · refine lv_aload_n hx hb dX12_read_111 rfl (lv_at hl 1 rfl) ?_
        refine lv_bipush (v := 59) hx hb dX12_read_112 (by decide) ?_
        refine W_bind fun z7 hz => ?_
        refine w_after (cells1 := 0) (slots1 := 0) (w_runV E kV_R_193 kc_X12_isSign (t_R_isSign l hfl G on N 59 M z6 ((fun z => (.inl (some (.int z.1)), M, z.2)) z7) (by rw [hz]; rfl)) ⟨Nat.le_of_ble_eq_true rfl, Nat.le_of_ble_eq_true rfl⟩ hw (w_recvR E hw on) rfl hl.1 rfl (Nat.le_of_ble_eq_true rfl) dX12_read_114 ⟨Nat.le_of_ble_eq_true rfl, Nat.le_of_ble_eq_true rfl⟩) hw rfl (Nat.le_of_ble_eq_true rfl) (Nat.le_of_ble_eq_true rfl) (fun H locs hw => ?_)
        refine W.eq (g2 := F0 m 117 ls [.int z7.1]) rfl ?_
        have hw : w_W G M z7.2 s H locs := hw
        refine cx_if_eq (tgt := 133) E dX12_read_117 (by decide) (fun _ => ?_) (fun _ => ?_)
        · refine lv_aload_n hx hb dX12_read_133 rfl (lv_at hl 1 rfl) ?_
          refine lv_aload_n hx hb dX12_read_134 rfl (lv_at hl 1 rfl) ?_
          refine rx_getI E hw on kF_R_79_11 (by decide) dX12_read_135 ?_
          refine W_bind fun z8 hz => ?_
          refine w_after (cells1 := 0) (slots1 := 0) (w_runV E kV_R_105 kc_X12_wrong (t_R_wrong l hfl G on (z7.2.1 11) M z7.2 ((fun z => (.inl none, M, z)) z8) (by rw [hz]; rfl)) ⟨Nat.le_of_ble_eq_true rfl, Nat.le_of_ble_eq_true rfl⟩ hw (w_recvR E hw on) rfl hl.1 rfl (Nat.le_of_ble_eq_true rfl) dX12_read_138 ⟨Nat.le_of_ble_eq_true rfl, Nat.le_of_ble_eq_true rfl⟩) hw rfl (Nat.le_of_ble_eq_true rfl) (Nat.le_of_ble_eq_true rfl) (fun H locs hw => ?_)
          refine W.eq (g2 := F0 m 141 ls []) rfl ?_
          have hw : w_W G M z8 s H locs := hw
          refine lv_goto (tgt := 23) hx hb dX12_read_141 (by decide) ?_
          exact hk23 x2 (x3 + 1) z8 _ _ _ hw (lv_sub hl [1, 2, 3, 0] rfl)
        · refine lv_aload_n hx hb dX12_read_120 rfl (lv_at hl 1 rfl) ?_
          refine lv_dup hx hb dX12_read_121 rfl ?_
          refine rx_getI E hw on kF_R_79_11 (by decide) dX12_read_122 ?_
          refine lv_iconst (v := 1) hx hb dX12_read_125 (by decide) ?_
          refine lv_iadd hx hb dX12_read_126 ?_
          refine rx_putI E hw on kF_R_79_11 (by decide) kT_11_11 dX12_read_127 (fun H locs hw => ?_)
          refine lv_goto (tgt := 23) hx hb dX12_read_130 (by decide) ?_
          exact hk23 x2 (x3 + 1) (r_set z7.2 11 ((z7.2.1 11) + 1)) _ _ _ hw (lv_sub hl [1, 2, 3, 0] rfl)
      · exact w106 k23 hk23 (x3 + 1) z6 _ _ _ hw (lv_sub hl [1, 2, 0] rfl)
  have w51 : ∀ (k23 : Int32 → Int32 → Rho → Option (Int32 × Rho)) (hk23 : ∀ (x2 : Int32) (x3 : Int32) (r : Rho) (H : Heap) (locs : List Loc) (ls : Array Slot), w_W G M r s H locs → lv_has ls 4 [(0, .ref (g_r G)), (1, .int a0), (2, .int x2), (3, .int x3)] → W p l e rm_R_read s m args below meth c H locs 0 0 (PQ G below args s rm_R_read.cells rm_R_read.slots (fun z => (.inl (some (.int z.1)), M, z.2)) (k23 x2 x3 r)) (F0 m 23 ls [])) (x2 : Int32) (x3 : Int32) (y0 : Int32) (y1 : Int32) (r : Rho) (H : Heap) (locs : List Loc) (ls : Array Slot), w_W G M r s H locs → lv_has ls 4 [(0, .ref (g_r G)), (1, .int a0), (2, .int x2), (3, .int x3)] → W p l e rm_R_read s m args below meth c H locs 0 0 (PQ G below args s rm_R_read.cells rm_R_read.slots (fun z => (.inl (some (.int z.1)), M, z.2)) (f_R_read_51 N a0 k23 x2 x3 y0 y1 r)) (F0 m 51 ls [.int y1, .int y0]) := by
    intro k23 hk23 x2 x3 y0 y1 r H locs ls hw hl
    unfold f_R_read_51
    refine cx_icmp_ne (tgt := 65) E dX12_read_51 (by decide) (fun _ => ?_) (fun _ => ?_)
    · refine lv_iload_n hx hb dX12_read_65 rfl (lv_at hl 1 rfl) ?_
      refine cx_if_eq (tgt := 76) E dX12_read_66 (by decide) (fun _ => ?_) (fun _ => ?_)
      · refine lv_aload_n hx hb dX12_read_76 rfl (lv_at hl 0 rfl) ?_
        refine W_bind fun z3 hz => ?_
        refine w_after (cells1 := 0) (slots1 := 0) (w_runV E kV_R_190 kc_X12_townLine (t_R_townLine l hfl G on N M r ((fun z => (.inl none, M, z)) z3) (by rw [hz]; rfl)) ⟨Nat.le_of_ble_eq_true rfl, Nat.le_of_ble_eq_true rfl⟩ hw (w_recvR E hw on) rfl hl.1 rfl (Nat.le_of_ble_eq_true rfl) dX12_read_77 ⟨Nat.le_of_ble_eq_true rfl, Nat.le_of_ble_eq_true rfl⟩) hw rfl (Nat.le_of_ble_eq_true rfl) (Nat.le_of_ble_eq_true rfl) (fun H locs hw => ?_)
        refine W.eq (g2 := F0 m 80 ls []) rfl ?_
        have hw : w_W G M z3 s H locs := hw
        exact w80 k23 hk23 x2 x3 z3 _ _ _ hw (lv_sub hl [0, 1, 2, 3] rfl)
      · refine lv_aload_n hx hb dX12_read_69 rfl (lv_at hl 0 rfl) ?_
        refine W_bind fun z4 hz => ?_
        refine w_after (cells1 := 0) (slots1 := 0) (w_runV E kV_R_187 kc_X12_lawLine (t_R_lawLine l hfl G on N M r ((fun z => (.inl none, M, z)) z4) (by rw [hz]; rfl)) ⟨Nat.le_of_ble_eq_true rfl, Nat.le_of_ble_eq_true rfl⟩ hw (w_recvR E hw on) rfl hl.1 rfl (Nat.le_of_ble_eq_true rfl) dX12_read_70 ⟨Nat.le_of_ble_eq_true rfl, Nat.le_of_ble_eq_true rfl⟩) hw rfl (Nat.le_of_ble_eq_true rfl) (Nat.le_of_ble_eq_true rfl) (fun H locs hw => ?_)
        refine W.eq (g2 := F0 m 73 ls []) rfl ?_
        have hw : w_W G M z4 s H locs := hw
        refine lv_goto (tgt := 80) hx hb dX12_read_73 (by decide) ?_
        exact w80 k23 hk23 x2 x3 z4 _ _ _ hw (lv_sub hl [0, 1, 2, 3] rfl)
    · refine lv_aload_n hx hb dX12_read_54 rfl (lv_at hl 0 rfl) ?_
      refine lv_aload_n hx hb dX12_read_55 rfl (lv_at hl 0 rfl) ?_
      refine rx_getI E hw on kF_R_79_11 (by decide) dX12_read_56 ?_
      refine W_bind fun z5 hz => ?_
      refine w_after (cells1 := 0) (slots1 := 0) (w_runV E kV_R_105 kc_X12_wrong (t_R_wrong l hfl G on (r.1 11) M r ((fun z => (.inl none, M, z)) z5) (by rw [hz]; rfl)) ⟨Nat.le_of_ble_eq_true rfl, Nat.le_of_ble_eq_true rfl⟩ hw (w_recvR E hw on) rfl hl.1 rfl (Nat.le_of_ble_eq_true rfl) dX12_read_59 ⟨Nat.le_of_ble_eq_true rfl, Nat.le_of_ble_eq_true rfl⟩) hw rfl (Nat.le_of_ble_eq_true rfl) (Nat.le_of_ble_eq_true rfl) (fun H locs hw => ?_)
      refine W.eq (g2 := F0 m 62 ls []) rfl ?_
      have hw : w_W G M z5 s H locs := hw
      refine lv_goto (tgt := 80) hx hb dX12_read_62 (by decide) ?_
      exact w80 k23 hk23 x2 x3 z5 _ _ _ hw (lv_sub hl [0, 1, 2, 3] rfl)
  have w23 : ∀ (n : Nat) (x2 : Int32) (x3 : Int32) (r : Rho) (H : Heap) (locs : List Loc) (ls : Array Slot), w_W G M r s H locs → lv_has ls 4 [(0, .ref (g_r G)), (1, .int a0), (2, .int x2), (3, .int x3)] → W p l e rm_R_read s m args below meth c H locs 0 0 (PQ G below args s rm_R_read.cells rm_R_read.slots (fun z => (.inl (some (.int z.1)), M, z.2)) (f_R_read_23 N a0 n x2 x3 r)) (F0 m 23 ls []) := by
    intro n
    induction n with
    | zero => intros; exact W_none
    | succ n ih =>
      intro x2 x3 r H locs ls hw hl
      rw [f_R_read_23]
      refine lv_iload_n hx hb dX12_read_23 rfl (lv_at hl 2 rfl) ?_
      refine cx_if_eq (tgt := 144) E dX12_read_24 (by decide) (fun _ => ?_) (fun _ => ?_)
      · refine lv_iload_n hx hb dX12_read_144 rfl (lv_at hl 3 rfl) ?_
        exact p_iret E hw hr (Nat.le_of_ble_eq_true rfl) (Nat.le_of_ble_eq_true rfl) rfl dX12_read_145
      · refine lv_aload_n hx hb dX12_read_27 rfl (lv_at hl 0 rfl) ?_
        refine rx_getI E hw on kF_R_25_11 (by decide) dX12_read_28 ?_
        refine lv_iconst (v := (-1)) hx hb dX12_read_31 (by decide) ?_
        refine cx_icmp_ne (tgt := 144) E dX12_read_32 (by decide) (fun _ => ?_) (fun _ => ?_)
        · refine lv_iload_n hx hb dX12_read_144 rfl (lv_at hl 3 rfl) ?_
          exact p_iret E hw hr (Nat.le_of_ble_eq_true rfl) (Nat.le_of_ble_eq_true rfl) rfl dX12_read_145
        · refine lv_aload_n hx hb dX12_read_35 rfl (lv_at hl 0 rfl) ?_
          refine W_bind fun z2 hz => ?_
          refine w_after (cells1 := 0) (slots1 := 0) (w_runV E kV_R_88 kc_X12_skip (t_R_skip l hfl G on N M r ((fun z => (.inl none, M, z)) z2) (by rw [hz]; rfl)) ⟨Nat.le_of_ble_eq_true rfl, Nat.le_of_ble_eq_true rfl⟩ hw (w_recvR E hw on) rfl hl.1 rfl (Nat.le_of_ble_eq_true rfl) dX12_read_36 ⟨Nat.le_of_ble_eq_true rfl, Nat.le_of_ble_eq_true rfl⟩) hw rfl (Nat.le_of_ble_eq_true rfl) (Nat.le_of_ble_eq_true rfl) (fun H locs hw => ?_)
          refine W.eq (g2 := F0 m 39 ls []) rfl ?_
          have hw : w_W G M z2 s H locs := hw
          refine lv_iload_n hx hb dX12_read_39 rfl (lv_at hl 3 rfl) ?_
          refine lv_iload_n hx hb dX12_read_40 rfl (lv_at hl 1 rfl) ?_
          refine cx_if_eq (tgt := 49) E dX12_read_41 (by decide) (fun _ => ?_) (fun _ => ?_)
          · refine lv_bipush (v := 14) hx hb dX12_read_49 (by decide) ?_
            exact w51 (f_R_read_23 N a0 n) ih x2 x3 x3 14 z2 _ _ _ hw (lv_sub hl [0, 1, 2, 3] rfl)
          · refine lv_bipush (v := 12) hx hb dX12_read_44 (by decide) ?_
            refine lv_goto (tgt := 51) hx hb dX12_read_46 (by decide) ?_
            exact w51 (f_R_read_23 N a0 n) ih x2 x3 x3 12 z2 _ _ _ hw (lv_sub hl [0, 1, 2, 3] rfl)
  have w20 : ∀ (y0 : Int32) (r : Rho) (H : Heap) (locs : List Loc) (ls : Array Slot), w_W G M r s H locs → lv_has ls 4 [(0, .ref (g_r G)), (1, .int a0)] → W p l e rm_R_read s m args below meth c H locs 0 0 (PQ G below args s rm_R_read.cells rm_R_read.slots (fun z => (.inl (some (.int z.1)), M, z.2)) (f_R_read_20 N a0 y0 r)) (F0 m 20 ls [.int y0]) := by
    intro y0 r H locs ls hw hl
    unfold f_R_read_20
    refine lv_istore_n (lv' := [(2, .int y0), (0, .ref (g_r G)), (1, .int a0)]) hx hb dX12_read_20 rfl hl (by decide) rfl (fun ls hl => ?_)
    refine lv_iconst (v := 0) hx hb dX12_read_21 (by decide) ?_
    refine lv_istore_n (lv' := [(3, .int 0), (2, .int y0), (0, .ref (g_r G)), (1, .int a0)]) hx hb dX12_read_22 rfl hl (by decide) rfl (fun ls hl => ?_)
    exact w23  N y0 0 r _ _ _ hw (lv_sub hl [2, 3, 1, 0] rfl)
  unfold f_R_read
  refine lv_aload_n hx hb dX12_read_0 rfl (lv_at hl 0 rfl) ?_
  refine W_bind fun z1 hz => ?_
  refine w_after (cells1 := 0) (slots1 := 0) (w_runV E kV_R_88 kc_X12_skip (t_R_skip l hfl G on N M r ((fun z => (.inl none, M, z)) z1) (by rw [hz]; rfl)) ⟨Nat.le_of_ble_eq_true rfl, Nat.le_of_ble_eq_true rfl⟩ hw (w_recvR E hw on) rfl hl.1 rfl (Nat.le_of_ble_eq_true rfl) dX12_read_1 ⟨Nat.le_of_ble_eq_true rfl, Nat.le_of_ble_eq_true rfl⟩) hw rfl (Nat.le_of_ble_eq_true rfl) (Nat.le_of_ble_eq_true rfl) (fun H locs hw => ?_)
  refine W.eq (g2 := F0 m 4 ls []) rfl ?_
  have hw : w_W G M z1 s H locs := hw
  refine lv_aload_n hx hb dX12_read_4 rfl (lv_at hl 0 rfl) ?_
  refine rx_getI E hw on kF_R_79_11 (by decide) dX12_read_5 ?_
  refine lv_aload_n hx hb dX12_read_8 rfl (lv_at hl 0 rfl) ?_
  refine rx_getI E hw on kF_R_82_11 (by decide) dX12_read_9 ?_
  refine cx_icmp_ge (tgt := 19) E dX12_read_12 (by decide) (fun _ => ?_) (fun _ => ?_)
  · refine lv_iconst (v := 0) hx hb dX12_read_19 (by decide) ?_
    exact w20  0 z1 _ _ _ hw (lv_sub hl [0, 1] rfl)
  · refine lv_iconst (v := 1) hx hb dX12_read_15 (by decide) ?_
    refine lv_goto (tgt := 20) hx hb dX12_read_16 (by decide) ?_
    exact w20  1 z1 _ _ _ hw (lv_sub hl [0, 1] rfl)
set_option maxHeartbeats 4000000 in
set_option maxRecDepth 100000 in
theorem t_R_comesBack (l : Launch) (hfl : l.stackTraces = false) (G : wG) (on : g_on G = true) (N : Nat) (M : Mem) (r : Rho) : Ctr l yX12_comesBack (wWs yX12_comesBack cX12_comesBack 2 none) rm_R_comesBack rm_R_comesBack.cells rm_R_comesBack.slots G [.ref (g_r G)] M r ((f_R_comesBack N r).map (fun z => (.inl none, M, z))) := by
  refine Ctr.ofF (own := "CheekTownModel") (by decide +kernel) hfl rfl (Nat.le_of_ble_eq_true rfl) (fun p e s m args below meth c E hno hr hnm hw ls hl => ?_)
  obtain ⟨hx, hb, hts, hown, hml, hTT, -⟩ := id E
  have hl : lv_has ls 2 [(0, .ref (g_r G))] := hl
  obtain ⟨H, hH⟩ : ∃ H, H = s.heap := ⟨_, rfl⟩
  obtain ⟨locs, hlo⟩ : ∃ L : List Loc, L = [] := ⟨_, rfl⟩
  rw [← hH, ← hlo]
  rw [← hlo] at hw
  replace hw : w_W G M r s H locs := by rw [hH]; exact hw
  have w2 : ∀ (n : Nat) (x1 : Int32) (r : Rho) (H : Heap) (locs : List Loc) (ls : Array Slot), w_W G M r s H locs → lv_has ls 2 [(0, .ref (g_r G)), (1, .int x1)] → W p l e rm_R_comesBack s m args below meth c H locs 0 0 (PQ G below args s rm_R_comesBack.cells rm_R_comesBack.slots (fun z => (.inl none, M, z)) (f_R_comesBack_2 N n x1 r)) (F0 m 2 ls []) := by
    intro n
    induction n with
    | zero => intros; exact W_none
    | succ n ih =>
      intro x1 r H locs ls hw hl
      rw [f_R_comesBack_2]
      refine lv_iload_n hx hb dX12_comesBack_2 rfl (lv_at hl 1 rfl) ?_
      refine lv_sipush (v := 900) hx hb dX12_comesBack_3 (by decide) ?_
      refine cx_icmp_ge (tgt := 27) E dX12_comesBack_6 (by decide) (fun _ => ?_) (fun _ => ?_)
      · exact p_vret E hw hr (Nat.le_of_ble_eq_true rfl) (Nat.le_of_ble_eq_true rfl) rfl dX12_comesBack_27
      · refine lv_aload_n hx hb dX12_comesBack_9 rfl (lv_at hl 0 rfl) ?_
        refine rx_getA E hw on kF_R_7_11 (by decide) dX12_comesBack_10 ?_
        refine lv_iload_n hx hb dX12_comesBack_13 rfl (lv_at hl 1 rfl) ?_
        refine lv_aload_n hx hb dX12_comesBack_14 rfl (lv_at hl 0 rfl) ?_
        refine rx_getA E hw on kF_R_16_11 (by decide) dX12_comesBack_15 ?_
        refine lv_iload_n hx hb dX12_comesBack_18 rfl (lv_at hl 1 rfl) ?_
        refine rx_iald E hw on (by decide) dX12_comesBack_19 (fun v1 => ?_)
        refine rx_iast E hw on (by decide) dX12_comesBack_20 (fun r2 H locs hw => ?_)
        refine lv_iinc (v := x1 + 1) (lv' := [(1, .int (x1 + 1)), (0, .ref (g_r G))]) hx hb dX12_comesBack_21 hl (k := 1) rfl rfl (by decide) rfl (fun ls hl => ?_)
        refine lv_goto (tgt := 2) hx hb dX12_comesBack_24 (by decide) ?_
        exact ih (x1 + 1) r2 _ _ _ hw (lv_sub hl [1, 0] rfl)
  unfold f_R_comesBack
  refine lv_iconst (v := 0) hx hb dX12_comesBack_0 (by decide) ?_
  refine lv_istore_n (lv' := [(1, .int 0), (0, .ref (g_r G))]) hx hb dX12_comesBack_1 rfl hl (by decide) rfl (fun ls hl => ?_)
  exact w2  N 0 r _ _ _ hw (lv_sub hl [1, 0] rfl)
set_option maxHeartbeats 4000000 in
set_option maxRecDepth 100000 in
theorem t_R_town (l : Launch) (hfl : l.stackTraces = false) (G : wG) (on : g_on G = true) (N : Nat) (M : Mem) (r : Rho) : Ctr l yX12_town (wWs yX12_town cX12_town 2 (some .int)) rm_R_town rm_R_town.cells rm_R_town.slots G [.ref (g_r G)] M r ((f_R_town N r).map (fun z => (.inl (some (.int z.1)), M, z.2))) := by
  refine Ctr.ofF (own := "CheekTownModel") (by decide +kernel) hfl rfl (Nat.le_of_ble_eq_true rfl) (fun p e s m args below meth c E hno hr hnm hw ls hl => ?_)
  obtain ⟨hx, hb, hts, hown, hml, hTT, -⟩ := id E
  have hl : lv_has ls 2 [(0, .ref (g_r G))] := hl
  obtain ⟨H, hH⟩ : ∃ H, H = s.heap := ⟨_, rfl⟩
  obtain ⟨locs, hlo⟩ : ∃ L : List Loc, L = [] := ⟨_, rfl⟩
  rw [← hH, ← hlo]
  rw [← hlo] at hw
  replace hw : w_W G M r s H locs := by rw [hH]; exact hw
  have w66 : ∀ (y1 : Int32) (r : Rho) (H : Heap) (locs : List Loc) (ls : Array Slot), w_W G M r s H locs → lv_has ls 2 [(0, .ref (g_r G))] → W p l e rm_R_town s m args below meth c H locs 0 0 (PQ G below args s rm_R_town.cells rm_R_town.slots (fun z => (.inl (some (.int z.1)), M, z.2)) (f_R_town_66 N y1 r)) (F0 m 66 ls [.int y1, .ref (g_r G)]) := by
    intro y1 r H locs ls hw hl
    unfold f_R_town_66
    refine rx_putI E hw on kF_R_56_11 (by decide) kT_11_0 dX12_town_66 (fun H locs hw => ?_)
    refine lv_aload_n hx hb dX12_town_69 rfl (lv_at hl 0 rfl) ?_
    refine rx_getI E hw on kF_R_56_11 (by decide) dX12_town_70 ?_
    refine cx_if_le (tgt := 82) E dX12_town_73 (by decide) (fun _ => ?_) (fun _ => ?_)
    · refine lv_aload_n hx hb dX12_town_82 rfl (lv_at hl 0 rfl) ?_
      refine rx_getA E hw on kF_R_7_11 (by decide) dX12_town_83 ?_
      refine lv_iconst (v := 0) hx hb dX12_town_86 (by decide) ?_
      refine lv_dup2_11 hx hb dX12_town_87 rfl rfl ?_
      refine rx_iald E hw on (by decide) dX12_town_88 (fun v6 => ?_)
      refine lv_iconst (v := 1) hx hb dX12_town_89 (by decide) ?_
      refine lv_iadd hx hb dX12_town_90 ?_
      refine rx_iast E hw on (by decide) dX12_town_91 (fun r7 H locs hw => ?_)
      refine lv_aload_n hx hb dX12_town_92 rfl (lv_at hl 0 rfl) ?_
      refine lv_iconst (v := 0) hx hb dX12_town_93 (by decide) ?_
      refine rx_putI E hw on kF_R_207_11 (by decide) kT_11_6 dX12_town_94 (fun H locs hw => ?_)
      refine lv_aload_n hx hb dX12_town_97 rfl (lv_at hl 0 rfl) ?_
      refine rx_getA E hw on kF_R_7_11 (by decide) dX12_town_98 ?_
      refine lv_iconst (v := 0) hx hb dX12_town_101 (by decide) ?_
      refine rx_iald E hw on (by decide) dX12_town_102 (fun v8 => ?_)
      exact p_iret E hw hr (Nat.le_of_ble_eq_true rfl) (Nat.le_of_ble_eq_true rfl) rfl dX12_town_103
    · refine lv_aload_n hx hb dX12_town_76 rfl (lv_at hl 0 rfl) ?_
      refine W_bind fun z9 hz => ?_
      refine w_after (cells1 := 0) (slots1 := 0) (w_runV E kV_R_204 kc_X12_comesBack (t_R_comesBack l hfl G on N M (r_set r 0 y1) ((fun z => (.inl none, M, z)) z9) (by rw [hz]; rfl)) ⟨Nat.le_of_ble_eq_true rfl, Nat.le_of_ble_eq_true rfl⟩ hw (w_recvR E hw on) rfl hl.1 rfl (Nat.le_of_ble_eq_true rfl) dX12_town_77 ⟨Nat.le_of_ble_eq_true rfl, Nat.le_of_ble_eq_true rfl⟩) hw rfl (Nat.le_of_ble_eq_true rfl) (Nat.le_of_ble_eq_true rfl) (fun H locs hw => ?_)
      refine W.eq (g2 := F0 m 80 ls []) rfl ?_
      have hw : w_W G M z9 s H locs := hw
      refine lv_iconst (v := 0) hx hb dX12_town_80 (by decide) ?_
      exact p_iret E hw hr (Nat.le_of_ble_eq_true rfl) (Nat.le_of_ble_eq_true rfl) rfl dX12_town_81
  have w2 : ∀ (n : Nat) (x1 : Int32) (r : Rho) (H : Heap) (locs : List Loc) (ls : Array Slot), w_W G M r s H locs → lv_has ls 2 [(0, .ref (g_r G)), (1, .int x1)] → W p l e rm_R_town s m args below meth c H locs 0 0 (PQ G below args s rm_R_town.cells rm_R_town.slots (fun z => (.inl (some (.int z.1)), M, z.2)) (f_R_town_2 N n x1 r)) (F0 m 2 ls []) := by
    intro n
    induction n with
    | zero => intros; exact W_none
    | succ n ih =>
      intro x1 r H locs ls hw hl
      rw [f_R_town_2]
      refine lv_iload_n hx hb dX12_town_2 rfl (lv_at hl 1 rfl) ?_
      refine lv_sipush (v := 900) hx hb dX12_town_3 (by decide) ?_
      refine cx_icmp_ge (tgt := 27) E dX12_town_6 (by decide) (fun _ => ?_) (fun _ => ?_)
      · refine lv_aload_n hx hb dX12_town_27 rfl (lv_at hl 0 rfl) ?_
        refine W_bind fun z1 hz => ?_
        refine w_after (cells1 := 0) (slots1 := 0) (w_runV E kV_R_197 kc_X12_begins (t_R_begins l hfl G on M r ((fun z => (.inl none, M, z)) z1) (by rw [hz]; rfl)) ⟨Nat.le_of_ble_eq_true rfl, Nat.le_of_ble_eq_true rfl⟩ hw (w_recvR E hw on) rfl hl.1 rfl (Nat.le_of_ble_eq_true rfl) dX12_town_28 ⟨Nat.le_of_ble_eq_true rfl, Nat.le_of_ble_eq_true rfl⟩) hw rfl (Nat.le_of_ble_eq_true rfl) (Nat.le_of_ble_eq_true rfl) (fun H locs hw => ?_)
        refine W.eq (g2 := F0 m 31 ls []) rfl ?_
        have hw : w_W G M z1 s H locs := hw
        refine lv_aload_n hx hb dX12_town_31 rfl (lv_at hl 0 rfl) ?_
        refine lv_iconst (v := 0) hx hb dX12_town_32 (by decide) ?_
        refine W_bind fun z2 hz => ?_
        refine w_after (cells1 := 0) (slots1 := 0) (w_runV E kV_R_200 kc_X12_read (t_R_read l hfl G on N 0 M z1 ((fun z => (.inl (some (.int z.1)), M, z.2)) z2) (by rw [hz]; rfl)) ⟨Nat.le_of_ble_eq_true rfl, Nat.le_of_ble_eq_true rfl⟩ hw (w_recvR E hw on) rfl hl.1 rfl (Nat.le_of_ble_eq_true rfl) dX12_town_33 ⟨Nat.le_of_ble_eq_true rfl, Nat.le_of_ble_eq_true rfl⟩) hw rfl (Nat.le_of_ble_eq_true rfl) (Nat.le_of_ble_eq_true rfl) (fun H locs hw => ?_)
        refine W.eq (g2 := F0 m 36 ls [.int z2.1]) rfl ?_
        have hw : w_W G M z2.2 s H locs := hw
        refine lv_istore_n (lv' := [(1, .int z2.1), (0, .ref (g_r G))]) hx hb dX12_town_36 rfl hl (by decide) rfl (fun ls hl => ?_)
        refine lv_aload_n hx hb dX12_town_37 rfl (lv_at hl 1 rfl) ?_
        refine lv_aload_n hx hb dX12_town_38 rfl (lv_at hl 1 rfl) ?_
        refine rx_getI E hw on kF_R_25_11 (by decide) dX12_town_39 ?_
        refine lv_iconst (v := (-1)) hx hb dX12_town_42 (by decide) ?_
        refine cx_icmp_eq (tgt := 50) E dX12_town_43 (by decide) (fun _ => ?_) (fun _ => ?_)
        · refine lv_aload_n hx hb dX12_town_50 rfl (lv_at hl 1 rfl) ?_
          refine rx_getA E hw on kF_R_7_11 (by decide) dX12_town_51 ?_
          refine lv_iconst (v := 0) hx hb dX12_town_54 (by decide) ?_
          refine rx_iald E hw on (by decide) dX12_town_55 (fun v3 => ?_)
          refine lv_bipush (v := 12) hx hb dX12_town_56 (by decide) ?_
          refine cx_icmp_ne (tgt := 65) E dX12_town_58 (by decide) (fun _ => ?_) (fun _ => ?_)
          · refine lv_iconst (v := 0) hx hb dX12_town_65 (by decide) ?_
            exact w66  0 z2.2 _ _ _ hw (lv_sub hl [1] rfl)
          · refine lv_iconst (v := 2) hx hb dX12_town_61 (by decide) ?_
            refine lv_goto (tgt := 66) hx hb dX12_town_62 (by decide) ?_
            exact w66  2 z2.2 _ _ _ hw (lv_sub hl [1] rfl)
        · refine lv_iconst (v := 1) hx hb dX12_town_46 (by decide) ?_
          refine lv_goto (tgt := 66) hx hb dX12_town_47 (by decide) ?_
          exact w66  1 z2.2 _ _ _ hw (lv_sub hl [1] rfl)
      · refine lv_aload_n hx hb dX12_town_9 rfl (lv_at hl 0 rfl) ?_
        refine rx_getA E hw on kF_R_16_11 (by decide) dX12_town_10 ?_
        refine lv_iload_n hx hb dX12_town_13 rfl (lv_at hl 1 rfl) ?_
        refine lv_aload_n hx hb dX12_town_14 rfl (lv_at hl 0 rfl) ?_
        refine rx_getA E hw on kF_R_7_11 (by decide) dX12_town_15 ?_
        refine lv_iload_n hx hb dX12_town_18 rfl (lv_at hl 1 rfl) ?_
        refine rx_iald E hw on (by decide) dX12_town_19 (fun v4 => ?_)
        refine rx_iast E hw on (by decide) dX12_town_20 (fun r5 H locs hw => ?_)
        refine lv_iinc (v := x1 + 1) (lv' := [(1, .int (x1 + 1)), (0, .ref (g_r G))]) hx hb dX12_town_21 hl (k := 1) rfl rfl (by decide) rfl (fun ls hl => ?_)
        refine lv_goto (tgt := 2) hx hb dX12_town_24 (by decide) ?_
        exact ih (x1 + 1) r5 _ _ _ hw (lv_sub hl [1, 0] rfl)
  unfold f_R_town
  refine lv_iconst (v := 0) hx hb dX12_town_0 (by decide) ?_
  refine lv_istore_n (lv' := [(1, .int 0), (0, .ref (g_r G))]) hx hb dX12_town_1 rfl hl (by decide) rfl (fun ls hl => ?_)
  exact w2  N 0 r _ _ _ hw (lv_sub hl [1, 0] rfl)
set_option maxHeartbeats 4000000 in
set_option maxRecDepth 100000 in
theorem t_R_law (l : Launch) (hfl : l.stackTraces = false) (G : wG) (on : g_on G = true) (N : Nat) (M : Mem) (r : Rho) : Ctr l yX12_law (wWs yX12_law cX12_law 3 (some .int)) rm_R_law rm_R_law.cells rm_R_law.slots G [.ref (g_r G)] M r ((f_R_law N r).map (fun z => (.inl (some (.int z.1)), M, z.2))) := by
  refine Ctr.ofF (own := "CheekTownModel") (by decide +kernel) hfl rfl (Nat.le_of_ble_eq_true rfl) (fun p e s m args below meth c E hno hr hnm hw ls hl => ?_)
  obtain ⟨hx, hb, hts, hown, hml, hTT, -⟩ := id E
  have hl : lv_has ls 3 [(0, .ref (g_r G))] := hl
  obtain ⟨H, hH⟩ : ∃ H, H = s.heap := ⟨_, rfl⟩
  obtain ⟨locs, hlo⟩ : ∃ L : List Loc, L = [] := ⟨_, rfl⟩
  rw [← hH, ← hlo]
  rw [← hlo] at hw
  replace hw : w_W G M r s H locs := by rw [hH]; exact hw
  have w55 : ∀ (n : Nat) (x1 : Int32) (x2 : Int32) (r : Rho) (H : Heap) (locs : List Loc) (ls : Array Slot), w_W G M r s H locs → lv_has ls 3 [(0, .ref (g_r G)), (1, .int x1), (2, .int x2)] → W p l e rm_R_law s m args below meth c H locs 0 0 (PQ G below args s rm_R_law.cells rm_R_law.slots (fun z => (.inl (some (.int z.1)), M, z.2)) (f_R_law_55 N n x1 x2 r)) (F0 m 55 ls []) := by
    intro n
    induction n with
    | zero => intros; exact W_none
    | succ n ih =>
      intro x1 x2 r H locs ls hw hl
      rw [f_R_law_55]
      refine lv_iload_n hx hb dX12_law_55 rfl (lv_at hl 2 rfl) ?_
      refine lv_aload_n hx hb dX12_law_56 rfl (lv_at hl 0 rfl) ?_
      refine rx_getI E hw on kF_R_82_11 (by decide) dX12_law_57 ?_
      refine cx_icmp_ge (tgt := 85) E dX12_law_60 (by decide) (fun _ => ?_) (fun _ => ?_)
      · refine lv_aload_n hx hb dX12_law_85 rfl (lv_at hl 0 rfl) ?_
        refine lv_iconst (v := 0) hx hb dX12_law_86 (by decide) ?_
        refine rx_putI E hw on kF_R_207_11 (by decide) kT_11_6 dX12_law_87 (fun H locs hw => ?_)
        refine lv_iload_n hx hb dX12_law_90 rfl (lv_at hl 1 rfl) ?_
        exact p_iret E hw hr (Nat.le_of_ble_eq_true rfl) (Nat.le_of_ble_eq_true rfl) rfl dX12_law_91
      · refine lv_aload_n hx hb dX12_law_63 rfl (lv_at hl 0 rfl) ?_
        refine rx_getA E hw on kF_R_7_11 (by decide) dX12_law_64 ?_
        refine lv_sipush (v := 900) hx hb dX12_law_67 (by decide) ?_
        refine lv_iload_n hx hb dX12_law_70 rfl (lv_at hl 2 rfl) ?_
        refine lv_iadd hx hb dX12_law_71 ?_
        refine lv_aload_n hx hb dX12_law_72 rfl (lv_at hl 0 rfl) ?_
        refine rx_getA E hw on kF_R_22_11 (by decide) dX12_law_73 ?_
        refine lv_iload_n hx hb dX12_law_76 rfl (lv_at hl 2 rfl) ?_
        refine rx_iald E hw on (by decide) dX12_law_77 (fun v5 => ?_)
        refine rx_iast E hw on (by decide) dX12_law_78 (fun r6 H locs hw => ?_)
        refine lv_iinc (v := x2 + 1) (lv' := [(2, .int (x2 + 1)), (0, .ref (g_r G)), (1, .int x1)]) hx hb dX12_law_79 hl (k := 2) rfl rfl (by decide) rfl (fun ls hl => ?_)
        refine lv_goto (tgt := 55) hx hb dX12_law_82 (by decide) ?_
        exact ih x1 (x2 + 1) r6 _ _ _ hw (lv_sub hl [1, 2, 0] rfl)
  have w24 : ∀ (x1 : Int32) (y1 : Int32) (r : Rho) (H : Heap) (locs : List Loc) (ls : Array Slot), w_W G M r s H locs → lv_has ls 3 [(0, .ref (g_r G)), (1, .int x1)] → W p l e rm_R_law s m args below meth c H locs 0 0 (PQ G below args s rm_R_law.cells rm_R_law.slots (fun z => (.inl (some (.int z.1)), M, z.2)) (f_R_law_24 N x1 y1 r)) (F0 m 24 ls [.int y1, .ref (g_r G)]) := by
    intro x1 y1 r H locs ls hw hl
    unfold f_R_law_24
    refine rx_putI E hw on kF_R_56_11 (by decide) kT_11_0 dX12_law_24 (fun H locs hw => ?_)
    refine lv_aload_n hx hb dX12_law_27 rfl (lv_at hl 0 rfl) ?_
    refine rx_getI E hw on kF_R_56_11 (by decide) dX12_law_28 ?_
    refine cx_if_le (tgt := 36) E dX12_law_31 (by decide) (fun _ => ?_) (fun _ => ?_)
    · refine lv_aload_n hx hb dX12_law_36 rfl (lv_at hl 0 rfl) ?_
      refine rx_getA E hw on kF_R_7_11 (by decide) dX12_law_37 ?_
      refine lv_iconst (v := 1) hx hb dX12_law_40 (by decide) ?_
      refine lv_iload_n hx hb dX12_law_41 rfl (lv_at hl 1 rfl) ?_
      refine rx_iast E hw on (by decide) dX12_law_42 (fun r3 H locs hw => ?_)
      refine lv_aload_n hx hb dX12_law_43 rfl (lv_at hl 0 rfl) ?_
      refine rx_getA E hw on kF_R_7_11 (by decide) dX12_law_44 ?_
      refine lv_iconst (v := 2) hx hb dX12_law_47 (by decide) ?_
      refine lv_aload_n hx hb dX12_law_48 rfl (lv_at hl 0 rfl) ?_
      refine rx_getI E hw on kF_R_82_11 (by decide) dX12_law_49 ?_
      refine rx_iast E hw on (by decide) dX12_law_52 (fun r4 H locs hw => ?_)
      refine lv_iconst (v := 0) hx hb dX12_law_53 (by decide) ?_
      refine lv_istore_n (lv' := [(2, .int 0), (0, .ref (g_r G)), (1, .int x1)]) hx hb dX12_law_54 rfl hl (by decide) rfl (fun ls hl => ?_)
      exact w55  N x1 0 r4 _ _ _ hw (lv_sub hl [1, 2, 0] rfl)
    · refine lv_iconst (v := 0) hx hb dX12_law_34 (by decide) ?_
      exact p_iret E hw hr (Nat.le_of_ble_eq_true rfl) (Nat.le_of_ble_eq_true rfl) rfl dX12_law_35
  unfold f_R_law
  refine lv_aload_n hx hb dX12_law_0 rfl (lv_at hl 0 rfl) ?_
  refine W_bind fun z1 hz => ?_
  refine w_after (cells1 := 0) (slots1 := 0) (w_runV E kV_R_197 kc_X12_begins (t_R_begins l hfl G on M r ((fun z => (.inl none, M, z)) z1) (by rw [hz]; rfl)) ⟨Nat.le_of_ble_eq_true rfl, Nat.le_of_ble_eq_true rfl⟩ hw (w_recvR E hw on) rfl hl.1 rfl (Nat.le_of_ble_eq_true rfl) dX12_law_1 ⟨Nat.le_of_ble_eq_true rfl, Nat.le_of_ble_eq_true rfl⟩) hw rfl (Nat.le_of_ble_eq_true rfl) (Nat.le_of_ble_eq_true rfl) (fun H locs hw => ?_)
  refine W.eq (g2 := F0 m 4 ls []) rfl ?_
  have hw : w_W G M z1 s H locs := hw
  refine lv_aload_n hx hb dX12_law_4 rfl (lv_at hl 0 rfl) ?_
  refine lv_iconst (v := 1) hx hb dX12_law_5 (by decide) ?_
  refine W_bind fun z2 hz => ?_
  refine w_after (cells1 := 0) (slots1 := 0) (w_runV E kV_R_200 kc_X12_read (t_R_read l hfl G on N 1 M z1 ((fun z => (.inl (some (.int z.1)), M, z.2)) z2) (by rw [hz]; rfl)) ⟨Nat.le_of_ble_eq_true rfl, Nat.le_of_ble_eq_true rfl⟩ hw (w_recvR E hw on) rfl hl.1 rfl (Nat.le_of_ble_eq_true rfl) dX12_law_6 ⟨Nat.le_of_ble_eq_true rfl, Nat.le_of_ble_eq_true rfl⟩) hw rfl (Nat.le_of_ble_eq_true rfl) (Nat.le_of_ble_eq_true rfl) (fun H locs hw => ?_)
  refine W.eq (g2 := F0 m 9 ls [.int z2.1]) rfl ?_
  have hw : w_W G M z2.2 s H locs := hw
  refine lv_istore_n (lv' := [(1, .int z2.1), (0, .ref (g_r G))]) hx hb dX12_law_9 rfl hl (by decide) rfl (fun ls hl => ?_)
  refine lv_aload_n hx hb dX12_law_10 rfl (lv_at hl 1 rfl) ?_
  refine lv_aload_n hx hb dX12_law_11 rfl (lv_at hl 1 rfl) ?_
  refine rx_getI E hw on kF_R_25_11 (by decide) dX12_law_12 ?_
  refine lv_iconst (v := (-1)) hx hb dX12_law_15 (by decide) ?_
  refine cx_icmp_eq (tgt := 23) E dX12_law_16 (by decide) (fun _ => ?_) (fun _ => ?_)
  · refine lv_iconst (v := 0) hx hb dX12_law_23 (by decide) ?_
    exact w24  z2.1 0 z2.2 _ _ _ hw (lv_sub hl [1, 0] rfl)
  · refine lv_iconst (v := 1) hx hb dX12_law_19 (by decide) ?_
    refine lv_goto (tgt := 24) hx hb dX12_law_20 (by decide) ?_
    exact w24  z2.1 1 z2.2 _ _ _ hw (lv_sub hl [1, 0] rfl)
set_option maxHeartbeats 4000000 in
set_option maxRecDepth 100000 in
theorem t_R_fault (l : Launch) (hfl : l.stackTraces = false) (G : wG) (on : g_on G = true) (M : Mem) (r : Rho) : Ctr l yX12_fault (wWs yX12_fault cX12_fault 1 (some .int)) rm_R_fault rm_R_fault.cells rm_R_fault.slots G [.ref (g_r G)] M r ((f_R_fault r).map (fun z => (.inl (some (.int z.1)), M, z.2))) := by
  refine Ctr.ofF (own := "CheekTownModel") (by decide +kernel) hfl rfl (Nat.le_of_ble_eq_true rfl) (fun p e s m args below meth c E hno hr hnm hw ls hl => ?_)
  obtain ⟨hx, hb, hts, hown, hml, hTT, -⟩ := id E
  have hl : lv_has ls 1 [(0, .ref (g_r G))] := hl
  obtain ⟨H, hH⟩ : ∃ H, H = s.heap := ⟨_, rfl⟩
  obtain ⟨locs, hlo⟩ : ∃ L : List Loc, L = [] := ⟨_, rfl⟩
  rw [← hH, ← hlo]
  rw [← hlo] at hw
  replace hw : w_W G M r s H locs := by rw [hH]; exact hw
  unfold f_R_fault
  refine lv_aload_n hx hb dX12_fault_0 rfl (lv_at hl 0 rfl) ?_
  refine lv_iconst (v := 0) hx hb dX12_fault_1 (by decide) ?_
  refine rx_putI E hw on kF_R_56_11 (by decide) kT_11_0 dX12_fault_2 (fun H locs hw => ?_)
  refine lv_aload_n hx hb dX12_fault_5 rfl (lv_at hl 0 rfl) ?_
  refine rx_getI E hw on kF_R_25_11 (by decide) dX12_fault_6 ?_
  exact p_iret E hw hr (Nat.le_of_ble_eq_true rfl) (Nat.le_of_ble_eq_true rfl) rfl dX12_fault_9
set_option maxHeartbeats 4000000 in
set_option maxRecDepth 100000 in
theorem t_R_isCode (l : Launch) (hfl : l.stackTraces = false) (G : wG) (a0 : Int32) (M : Mem) (r : Rho) : Ctr l yX12_isCode (wWs yX12_isCode cX12_isCode 1 (some .boolean)) rm_R_isCode rm_R_isCode.cells rm_R_isCode.slots G [.int a0] M r ((f_R_isCode a0).map (fun z => (.inl (some (.int z)), M, r))) := by
  refine Ctr.ofF (own := "CheekTownModel") (by decide +kernel) hfl rfl (Nat.le_of_ble_eq_true rfl) (fun p e s m args below meth c E hno hr hnm hw ls hl => ?_)
  obtain ⟨hx, hb, hts, hown, hml, hTT, -⟩ := id E
  have hl : lv_has ls 1 [(0, .int a0)] := hl
  obtain ⟨H, hH⟩ : ∃ H, H = s.heap := ⟨_, rfl⟩
  obtain ⟨locs, hlo⟩ : ∃ L : List Loc, L = [] := ⟨_, rfl⟩
  rw [← hH, ← hlo]
  rw [← hlo] at hw
  replace hw : w_W G M r s H locs := by rw [hH]; exact hw
  unfold f_R_isCode
  refine lv_iload_n hx hb dX12_isCode_0 rfl (lv_at hl 0 rfl) ?_
  refine lv_iconst (v := 0) hx hb dX12_isCode_1 (by decide) ?_
  refine lv_bipush (v := 31) hx hb dX12_isCode_2 (by decide) ?_
  refine W_bind fun z1 hz => ?_
  refine w_after (cells1 := 0) (slots1 := 0) (w_runS E kS_R_59 kc_X12_isIn (t_R_isIn l hfl G a0 0 31 M r ((fun z => (.inl (some (.int z)), M, r)) z1) (by rw [hz]; rfl)) ⟨Nat.le_of_ble_eq_true rfl, Nat.le_of_ble_eq_true rfl⟩ hw rfl hl.1 rfl (Nat.le_of_ble_eq_true rfl) dX12_isCode_4 ⟨Nat.le_of_ble_eq_true rfl, Nat.le_of_ble_eq_true rfl⟩) hw rfl (Nat.le_of_ble_eq_true rfl) (Nat.le_of_ble_eq_true rfl) (fun H locs hw => ?_)
  refine W.eq (g2 := F0 m 7 ls [.int z1]) rfl ?_
  have hw : w_W G M r s H locs := hw
  refine W_bind fun z2 hz => ?_
  obtain ⟨rfl, hz0⟩ := zg_ok hz
  exact p_zret E hw hr hz0 (Nat.le_of_ble_eq_true rfl) (Nat.le_of_ble_eq_true rfl) rfl dX12_isCode_7
set_option maxHeartbeats 4000000 in
set_option maxRecDepth 100000 in
theorem t_R_countOf (l : Launch) (hfl : l.stackTraces = false) (G : wG) (a0 : Int32) (M : Mem) (r : Rho) : Ctr l yX12_countOf (wWs yX12_countOf cX12_countOf 1 (some .int)) rm_R_countOf rm_R_countOf.cells rm_R_countOf.slots G [.int a0] M r ((f_R_countOf a0).map (fun z => (.inl (some (.int z)), M, r))) := by
  refine Ctr.ofF (own := "CheekTownModel") (by decide +kernel) hfl rfl (Nat.le_of_ble_eq_true rfl) (fun p e s m args below meth c E hno hr hnm hw ls hl => ?_)
  obtain ⟨hx, hb, hts, hown, hml, hTT, -⟩ := id E
  have hl : lv_has ls 1 [(0, .int a0)] := hl
  obtain ⟨H, hH⟩ : ∃ H, H = s.heap := ⟨_, rfl⟩
  obtain ⟨locs, hlo⟩ : ∃ L : List Loc, L = [] := ⟨_, rfl⟩
  rw [← hH, ← hlo]
  rw [← hlo] at hw
  replace hw : w_W G M r s H locs := by rw [hH]; exact hw
  unfold f_R_countOf
  refine lv_iload_n hx hb dX12_countOf_0 rfl (lv_at hl 0 rfl) ?_
  refine lv_iconst (v := 1) hx hb dX12_countOf_1 (by decide) ?_
  refine lv_ishr hx hb dX12_countOf_2 ?_
  refine lv_iconst (v := 3) hx hb dX12_countOf_3 (by decide) ?_
  refine lv_iand hx hb dX12_countOf_4 ?_
  refine lv_iconst (v := 1) hx hb dX12_countOf_5 (by decide) ?_
  refine lv_iadd hx hb dX12_countOf_6 ?_
  exact p_iret E hw hr (Nat.le_of_ble_eq_true rfl) (Nat.le_of_ble_eq_true rfl) rfl dX12_countOf_7
set_option maxHeartbeats 4000000 in
set_option maxRecDepth 100000 in
theorem t_R_costOf (l : Launch) (hfl : l.stackTraces = false) (G : wG) (on : g_on G = true) (a0 : Int32) (a1 : Int32) (M : Mem) (r : Rho) : Ctr l yX12_costOf (wWs yX12_costOf cX12_costOf 4 (some .int)) rm_R_costOf rm_R_costOf.cells rm_R_costOf.slots G [.ref (g_r G), .int a0, .int a1] M r ((f_R_costOf a0 a1 r).map (fun z => (.inl (some (.int z)), M, r))) := by
  refine Ctr.ofF (own := "CheekTownModel") (by decide +kernel) hfl rfl (Nat.le_of_ble_eq_true rfl) (fun p e s m args below meth c E hno hr hnm hw ls hl => ?_)
  obtain ⟨hx, hb, hts, hown, hml, hTT, -⟩ := id E
  have hl : lv_has ls 4 [(0, .ref (g_r G)), (1, .int a0), (2, .int a1)] := hl
  obtain ⟨H, hH⟩ : ∃ H, H = s.heap := ⟨_, rfl⟩
  obtain ⟨locs, hlo⟩ : ∃ L : List Loc, L = [] := ⟨_, rfl⟩
  rw [← hH, ← hlo]
  rw [← hlo] at hw
  replace hw : w_W G M r s H locs := by rw [hH]; exact hw
  have w74 : ∀ (y0 : Int32) (y1 : Int32) (H : Heap) (locs : List Loc) (ls : Array Slot), w_W G M r s H locs → lv_has ls 4 [] → W p l e rm_R_costOf s m args below meth c H locs 0 0 (PQ G below args s rm_R_costOf.cells rm_R_costOf.slots (fun z => (.inl (some (.int z)), M, r)) (f_R_costOf_74 a0 a1 r y0 y1)) (F0 m 74 ls [.int y1, .int y0]) := by
    intro y0 y1 H locs ls hw hl
    unfold f_R_costOf_74
    refine lv_iadd hx hb dX12_costOf_74 ?_
    exact p_iret E hw hr (Nat.le_of_ble_eq_true rfl) (Nat.le_of_ble_eq_true rfl) rfl dX12_costOf_75
  have w53 : ∀ (y0 : Int32) (y1 : Int32) (H : Heap) (locs : List Loc) (ls : Array Slot), w_W G M r s H locs → lv_has ls 4 [(0, .ref (g_r G)), (1, .int a0), (2, .int a1)] → W p l e rm_R_costOf s m args below meth c H locs 0 0 (PQ G below args s rm_R_costOf.cells rm_R_costOf.slots (fun z => (.inl (some (.int z)), M, r)) (f_R_costOf_53 a0 a1 r y0 y1)) (F0 m 53 ls [.int y1, .int y0]) := by
    intro y0 y1 H locs ls hw hl
    unfold f_R_costOf_53
    refine lv_imul hx hb dX12_costOf_53 ?_
    refine lv_iload_n hx hb dX12_costOf_54 rfl (lv_at hl 1 rfl) ?_
    refine lv_iconst (v := 1) hx hb dX12_costOf_55 (by decide) ?_
    refine lv_iand hx hb dX12_costOf_56 ?_
    refine lv_iload_n hx hb dX12_costOf_57 rfl (lv_at hl 2 rfl) ?_
    refine lv_iconst (v := 1) hx hb dX12_costOf_58 (by decide) ?_
    refine lv_iand hx hb dX12_costOf_59 ?_
    refine cx_icmp_ne (tgt := 67) E dX12_costOf_60 (by decide) (fun _ => ?_) (fun _ => ?_)
    · refine lv_aload_n hx hb dX12_costOf_67 rfl (lv_at hl 0 rfl) ?_
      refine rx_getA E hw on kF_R_7_11 (by decide) dX12_costOf_68 ?_
      refine lv_bipush (v := 15) hx hb dX12_costOf_71 (by decide) ?_
      refine rx_iald E hw on (by decide) dX12_costOf_73 (fun v5 => ?_)
      exact w74  (y0 * y1) v5 _ _ _ hw (lv_sub hl [] rfl)
    · refine lv_iconst (v := 0) hx hb dX12_costOf_63 (by decide) ?_
      refine lv_goto (tgt := 74) hx hb dX12_costOf_64 (by decide) ?_
      exact w74  (y0 * y1) 0 _ _ _ hw (lv_sub hl [] rfl)
  unfold f_R_costOf
  refine lv_iload_n hx hb dX12_costOf_0 rfl (lv_at hl 1 rfl) ?_
  refine lv_iconst (v := 3) hx hb dX12_costOf_1 (by decide) ?_
  refine lv_ishr hx hb dX12_costOf_2 ?_
  refine lv_iload_n hx hb dX12_costOf_3 rfl (lv_at hl 2 rfl) ?_
  refine lv_iconst (v := 3) hx hb dX12_costOf_4 (by decide) ?_
  refine lv_ishr hx hb dX12_costOf_5 ?_
  refine cx_icmp_eq (tgt := 17) E dX12_costOf_6 (by decide) (fun _ => ?_) (fun _ => ?_)
  · refine lv_iload_n hx hb dX12_costOf_17 rfl (lv_at hl 1 rfl) ?_
    refine lv_iconst (v := 3) hx hb dX12_costOf_18 (by decide) ?_
    refine lv_ishr hx hb dX12_costOf_19 ?_
    refine lv_iconst (v := 2) hx hb dX12_costOf_20 (by decide) ?_
    refine cx_icmp_eq (tgt := 26) E dX12_costOf_21 (by decide) (fun _ => ?_) (fun _ => ?_)
    · refine lv_iload_n hx hb dX12_costOf_26 rfl (lv_at hl 1 rfl) ?_
      refine W_bind fun z1 hz => ?_
      refine w_after (cells1 := 0) (slots1 := 0) (w_runS E kS_R_70 kc_X12_countOf (t_R_countOf l hfl G a0 M r ((fun z => (.inl (some (.int z)), M, r)) z1) (by rw [hz]; rfl)) ⟨Nat.le_of_ble_eq_true rfl, Nat.le_of_ble_eq_true rfl⟩ hw rfl hl.1 rfl (Nat.le_of_ble_eq_true rfl) dX12_costOf_27 ⟨Nat.le_of_ble_eq_true rfl, Nat.le_of_ble_eq_true rfl⟩) hw rfl (Nat.le_of_ble_eq_true rfl) (Nat.le_of_ble_eq_true rfl) (fun H locs hw => ?_)
      refine W.eq (g2 := F0 m 30 ls [.int z1]) rfl ?_
      have hw : w_W G M r s H locs := hw
      refine lv_iload_n hx hb dX12_costOf_30 rfl (lv_at hl 2 rfl) ?_
      refine W_bind fun z2 hz => ?_
      refine w_after (cells1 := 0) (slots1 := 0) (w_runS E kS_R_70 kc_X12_countOf (t_R_countOf l hfl G a1 M r ((fun z => (.inl (some (.int z)), M, r)) z2) (by rw [hz]; rfl)) ⟨Nat.le_of_ble_eq_true rfl, Nat.le_of_ble_eq_true rfl⟩ hw rfl hl.1 rfl (Nat.le_of_ble_eq_true rfl) dX12_costOf_31 ⟨Nat.le_of_ble_eq_true rfl, Nat.le_of_ble_eq_true rfl⟩) hw rfl (Nat.le_of_ble_eq_true rfl) (Nat.le_of_ble_eq_true rfl) (fun H locs hw => ?_)
      refine W.eq (g2 := F0 m 34 ls [.int z2, .int z1]) rfl ?_
      have hw : w_W G M r s H locs := hw
      refine lv_isub hx hb dX12_costOf_34 ?_
      refine lv_istore_n (lv' := [(3, .int (z1 - z2)), (0, .ref (g_r G)), (1, .int a0), (2, .int a1)]) hx hb dX12_costOf_35 rfl hl (by decide) rfl (fun ls hl => ?_)
      refine lv_aload_n hx hb dX12_costOf_36 rfl (lv_at hl 1 rfl) ?_
      refine rx_getA E hw on kF_R_7_11 (by decide) dX12_costOf_37 ?_
      refine lv_bipush (v := 14) hx hb dX12_costOf_40 (by decide) ?_
      refine rx_iald E hw on (by decide) dX12_costOf_42 (fun v3 => ?_)
      refine lv_iload_n hx hb dX12_costOf_43 rfl (lv_at hl 0 rfl) ?_
      refine cx_if_ge (tgt := 52) E dX12_costOf_44 (by decide) (fun _ => ?_) (fun _ => ?_)
      · refine lv_iload_n hx hb dX12_costOf_52 rfl (lv_at hl 0 rfl) ?_
        exact w53  v3 (z1 - z2) _ _ _ hw (lv_sub hl [1, 2, 3] rfl)
      · refine lv_iload_n hx hb dX12_costOf_47 rfl (lv_at hl 0 rfl) ?_
        refine lv_ineg hx hb dX12_costOf_48 ?_
        refine lv_goto (tgt := 53) hx hb dX12_costOf_49 (by decide) ?_
        exact w53  v3 (-(z1 - z2)) _ _ _ hw (lv_sub hl [1, 2, 3] rfl)
    · refine lv_iconst (v := 0) hx hb dX12_costOf_24 (by decide) ?_
      exact p_iret E hw hr (Nat.le_of_ble_eq_true rfl) (Nat.le_of_ble_eq_true rfl) rfl dX12_costOf_25
  · refine lv_aload_n hx hb dX12_costOf_9 rfl (lv_at hl 0 rfl) ?_
    refine rx_getA E hw on kF_R_7_11 (by decide) dX12_costOf_10 ?_
    refine lv_bipush (v := 13) hx hb dX12_costOf_13 (by decide) ?_
    refine rx_iald E hw on (by decide) dX12_costOf_15 (fun v4 => ?_)
    exact p_iret E hw hr (Nat.le_of_ble_eq_true rfl) (Nat.le_of_ble_eq_true rfl) rfl dX12_costOf_16
set_option maxHeartbeats 4000000 in
set_option maxRecDepth 100000 in
theorem t_R_cost (l : Launch) (hfl : l.stackTraces = false) (G : wG) (on : g_on G = true) (a0 : Int32) (a1 : Int32) (M : Mem) (r : Rho) : Ctr l yX12_cost (wWs yX12_cost cX12_cost 3 (some .int)) rm_R_cost rm_R_cost.cells rm_R_cost.slots G [.ref (g_r G), .int a0, .int a1] M r ((f_R_cost a0 a1 r).map (fun z => (.inl (some (.int z.1)), M, z.2))) := by
  refine Ctr.ofF (own := "CheekTownModel") (by decide +kernel) hfl rfl (Nat.le_of_ble_eq_true rfl) (fun p e s m args below meth c E hno hr hnm hw ls hl => ?_)
  obtain ⟨hx, hb, hts, hown, hml, hTT, -⟩ := id E
  have hl : lv_has ls 3 [(0, .ref (g_r G)), (1, .int a0), (2, .int a1)] := hl
  obtain ⟨H, hH⟩ : ∃ H, H = s.heap := ⟨_, rfl⟩
  obtain ⟨locs, hlo⟩ : ∃ L : List Loc, L = [] := ⟨_, rfl⟩
  rw [← hH, ← hlo]
  rw [← hlo] at hw
  replace hw : w_W G M r s H locs := by rw [hH]; exact hw
  have w20 : ∀ (y1 : Int32) (r : Rho) (H : Heap) (locs : List Loc) (ls : Array Slot), w_W G M r s H locs → lv_has ls 3 [(0, .ref (g_r G)), (1, .int a0), (2, .int a1)] → W p l e rm_R_cost s m args below meth c H locs 0 0 (PQ G below args s rm_R_cost.cells rm_R_cost.slots (fun z => (.inl (some (.int z.1)), M, z.2)) (f_R_cost_20 a0 a1 y1 r)) (F0 m 20 ls [.int y1, .ref (g_r G)]) := by
    intro y1 r H locs ls hw hl
    unfold f_R_cost_20
    refine rx_putI E hw on kF_R_56_11 (by decide) kT_11_0 dX12_cost_20 (fun H locs hw => ?_)
    refine lv_aload_n hx hb dX12_cost_23 rfl (lv_at hl 0 rfl) ?_
    refine rx_getI E hw on kF_R_56_11 (by decide) dX12_cost_24 ?_
    refine cx_if_le (tgt := 34) E dX12_cost_27 (by decide) (fun _ => ?_) (fun _ => ?_)
    · refine lv_aload_n hx hb dX12_cost_34 rfl (lv_at hl 0 rfl) ?_
      refine lv_iload_n hx hb dX12_cost_35 rfl (lv_at hl 1 rfl) ?_
      refine lv_iload_n hx hb dX12_cost_36 rfl (lv_at hl 2 rfl) ?_
      refine W_bind fun z3 hz => ?_
      refine w_after (cells1 := 0) (slots1 := 0) (w_runV E kV_R_263 kc_X12_costOf (t_R_costOf l hfl G on a0 a1 M (r_set r 0 y1) ((fun z => (.inl (some (.int z)), M, (r_set r 0 y1))) z3) (by rw [hz]; rfl)) ⟨Nat.le_of_ble_eq_true rfl, Nat.le_of_ble_eq_true rfl⟩ hw (w_recvR E hw on) rfl hl.1 rfl (Nat.le_of_ble_eq_true rfl) dX12_cost_37 ⟨Nat.le_of_ble_eq_true rfl, Nat.le_of_ble_eq_true rfl⟩) hw rfl (Nat.le_of_ble_eq_true rfl) (Nat.le_of_ble_eq_true rfl) (fun H locs hw => ?_)
      refine W.eq (g2 := F0 m 40 ls [.int z3]) rfl ?_
      have hw : w_W G M (r_set r 0 y1) s H locs := hw
      exact p_iret E hw hr (Nat.le_of_ble_eq_true rfl) (Nat.le_of_ble_eq_true rfl) rfl dX12_cost_40
    · refine lv_iconst (v := 0) hx hb dX12_cost_30 (by decide) ?_
      refine lv_goto (tgt := 40) hx hb dX12_cost_31 (by decide) ?_
      exact p_iret E hw hr (Nat.le_of_ble_eq_true rfl) (Nat.le_of_ble_eq_true rfl) rfl dX12_cost_40
  have w15 : ∀ (r : Rho) (H : Heap) (locs : List Loc) (ls : Array Slot), w_W G M r s H locs → lv_has ls 3 [(0, .ref (g_r G)), (1, .int a0), (2, .int a1)] → W p l e rm_R_cost s m args below meth c H locs 0 0 (PQ G below args s rm_R_cost.cells rm_R_cost.slots (fun z => (.inl (some (.int z.1)), M, z.2)) (f_R_cost_15 a0 a1 r)) (F0 m 15 ls [.ref (g_r G)]) := by
    intro r H locs ls hw hl
    unfold f_R_cost_15
    refine lv_iconst (v := 1) hx hb dX12_cost_15 (by decide) ?_
    refine lv_goto (tgt := 20) hx hb dX12_cost_16 (by decide) ?_
    exact w20  1 r _ _ _ hw (lv_sub hl [0, 1, 2] rfl)
  unfold f_R_cost
  refine lv_aload_n hx hb dX12_cost_0 rfl (lv_at hl 0 rfl) ?_
  refine lv_iload_n hx hb dX12_cost_1 rfl (lv_at hl 1 rfl) ?_
  refine W_bind fun z1 hz => ?_
  refine w_after (cells1 := 0) (slots1 := 0) (w_runS E kS_R_260 kc_X12_isCode (t_R_isCode l hfl G a0 M r ((fun z => (.inl (some (.int z)), M, r)) z1) (by rw [hz]; rfl)) ⟨Nat.le_of_ble_eq_true rfl, Nat.le_of_ble_eq_true rfl⟩ hw rfl hl.1 rfl (Nat.le_of_ble_eq_true rfl) dX12_cost_2 ⟨Nat.le_of_ble_eq_true rfl, Nat.le_of_ble_eq_true rfl⟩) hw rfl (Nat.le_of_ble_eq_true rfl) (Nat.le_of_ble_eq_true rfl) (fun H locs hw => ?_)
  refine W.eq (g2 := F0 m 5 ls [.int z1, .ref (g_r G)]) rfl ?_
  have hw : w_W G M r s H locs := hw
  refine cx_if_eq (tgt := 15) E dX12_cost_5 (by decide) (fun _ => ?_) (fun _ => ?_)
  · exact w15  r _ _ _ hw (lv_sub hl [0, 1, 2] rfl)
  · refine lv_iload_n hx hb dX12_cost_8 rfl (lv_at hl 2 rfl) ?_
    refine W_bind fun z2 hz => ?_
    refine w_after (cells1 := 0) (slots1 := 0) (w_runS E kS_R_260 kc_X12_isCode (t_R_isCode l hfl G a1 M r ((fun z => (.inl (some (.int z)), M, r)) z2) (by rw [hz]; rfl)) ⟨Nat.le_of_ble_eq_true rfl, Nat.le_of_ble_eq_true rfl⟩ hw rfl hl.1 rfl (Nat.le_of_ble_eq_true rfl) dX12_cost_9 ⟨Nat.le_of_ble_eq_true rfl, Nat.le_of_ble_eq_true rfl⟩) hw rfl (Nat.le_of_ble_eq_true rfl) (Nat.le_of_ble_eq_true rfl) (fun H locs hw => ?_)
    refine W.eq (g2 := F0 m 12 ls [.int z2, .ref (g_r G)]) rfl ?_
    have hw : w_W G M r s H locs := hw
    refine cx_if_ne (tgt := 19) E dX12_cost_12 (by decide) (fun _ => ?_) (fun _ => ?_)
    · refine lv_iconst (v := 0) hx hb dX12_cost_19 (by decide) ?_
      exact w20  0 r _ _ _ hw (lv_sub hl [0, 1, 2] rfl)
    · exact w15  r _ _ _ hw (lv_sub hl [0, 1, 2] rfl)
set_option maxHeartbeats 4000000 in
set_option maxRecDepth 100000 in
theorem t_R_isLand (l : Launch) (hfl : l.stackTraces = false) (G : wG) (on : g_on G = true) (a0 : Int32) (M : Mem) (r : Rho) : Ctr l yX12_isLand (wWs yX12_isLand cX12_isLand 2 (some .boolean)) rm_R_isLand rm_R_isLand.cells rm_R_isLand.slots G [.ref (g_r G), .int a0] M r ((f_R_isLand a0 r).map (fun z => (.inl (some (.int z)), M, r))) := by
  refine Ctr.ofF (own := "CheekTownModel") (by decide +kernel) hfl rfl (Nat.le_of_ble_eq_true rfl) (fun p e s m args below meth c E hno hr hnm hw ls hl => ?_)
  obtain ⟨hx, hb, hts, hown, hml, hTT, -⟩ := id E
  have hl : lv_has ls 2 [(0, .ref (g_r G)), (1, .int a0)] := hl
  obtain ⟨H, hH⟩ : ∃ H, H = s.heap := ⟨_, rfl⟩
  obtain ⟨locs, hlo⟩ : ∃ L : List Loc, L = [] := ⟨_, rfl⟩
  rw [← hH, ← hlo]
  rw [← hlo] at hw
  replace hw : w_W G M r s H locs := by rw [hH]; exact hw
  unfold f_R_isLand
  refine lv_iload_n hx hb dX12_isLand_0 rfl (lv_at hl 1 rfl) ?_
  refine lv_iconst (v := 0) hx hb dX12_isLand_1 (by decide) ?_
  refine lv_aload_n hx hb dX12_isLand_2 rfl (lv_at hl 0 rfl) ?_
  refine rx_getA E hw on kF_R_7_11 (by decide) dX12_isLand_3 ?_
  refine lv_iconst (v := 3) hx hb dX12_isLand_6 (by decide) ?_
  refine rx_iald E hw on (by decide) dX12_isLand_7 (fun v1 => ?_)
  refine lv_iconst (v := 1) hx hb dX12_isLand_8 (by decide) ?_
  refine lv_isub hx hb dX12_isLand_9 ?_
  refine W_bind fun z2 hz => ?_
  refine w_after (cells1 := 0) (slots1 := 0) (w_runS E kS_R_59 kc_X12_isIn (t_R_isIn l hfl G a0 0 (v1 - 1) M r ((fun z => (.inl (some (.int z)), M, r)) z2) (by rw [hz]; rfl)) ⟨Nat.le_of_ble_eq_true rfl, Nat.le_of_ble_eq_true rfl⟩ hw rfl hl.1 rfl (Nat.le_of_ble_eq_true rfl) dX12_isLand_10 ⟨Nat.le_of_ble_eq_true rfl, Nat.le_of_ble_eq_true rfl⟩) hw rfl (Nat.le_of_ble_eq_true rfl) (Nat.le_of_ble_eq_true rfl) (fun H locs hw => ?_)
  refine W.eq (g2 := F0 m 13 ls [.int z2]) rfl ?_
  have hw : w_W G M r s H locs := hw
  refine W_bind fun z3 hz => ?_
  obtain ⟨rfl, hz0⟩ := zg_ok hz
  exact p_zret E hw hr hz0 (Nat.le_of_ble_eq_true rfl) (Nat.le_of_ble_eq_true rfl) rfl dX12_isLand_13
set_option maxHeartbeats 4000000 in
set_option maxRecDepth 100000 in
theorem t_R_weight (l : Launch) (hfl : l.stackTraces = false) (G : wG) (on : g_on G = true) (N : Nat) (a0 : Int32) (a1 : Int32) (M : Mem) (r : Rho) : Ctr l yX12_weight (wWs yX12_weight cX12_weight 5 (some .int)) rm_R_weight rm_R_weight.cells rm_R_weight.slots G [.ref (g_r G), .int a0, .int a1] M r ((f_R_weight N a0 a1 r).map (fun z => (.inl (some (.int z)), M, r))) := by
  refine Ctr.ofF (own := "CheekTownModel") (by decide +kernel) hfl rfl (Nat.le_of_ble_eq_true rfl) (fun p e s m args below meth c E hno hr hnm hw ls hl => ?_)
  obtain ⟨hx, hb, hts, hown, hml, hTT, -⟩ := id E
  have hl : lv_has ls 5 [(0, .ref (g_r G)), (1, .int a0), (2, .int a1)] := hl
  obtain ⟨H, hH⟩ : ∃ H, H = s.heap := ⟨_, rfl⟩
  obtain ⟨locs, hlo⟩ : ∃ L : List Loc, L = [] := ⟨_, rfl⟩
  rw [← hH, ← hlo]
  rw [← hlo] at hw
  replace hw : w_W G M r s H locs := by rw [hH]; exact hw
  have w74 : ∀ (k5 : Int32 → Int32 → Option (Int32)) (hk5 : ∀ (x3 : Int32) (x4 : Int32) (H : Heap) (locs : List Loc) (ls : Array Slot), w_W G M r s H locs → lv_has ls 5 [(0, .ref (g_r G)), (1, .int a0), (2, .int a1), (3, .int x3), (4, .int x4)] → W p l e rm_R_weight s m args below meth c H locs 0 0 (PQ G below args s rm_R_weight.cells rm_R_weight.slots (fun z => (.inl (some (.int z)), M, r)) (k5 x3 x4)) (F0 m 5 ls [])) (x4 : Int32) (y0 : Int32) (y1 : Int32) (H : Heap) (locs : List Loc) (ls : Array Slot), w_W G M r s H locs → lv_has ls 5 [(0, .ref (g_r G)), (1, .int a0), (2, .int a1), (4, .int x4)] → W p l e rm_R_weight s m args below meth c H locs 0 0 (PQ G below args s rm_R_weight.cells rm_R_weight.slots (fun z => (.inl (some (.int z)), M, r)) (f_R_weight_74 N a0 a1 r k5 x4 y0 y1)) (F0 m 74 ls [.int y1, .int y0]) := by
    intro k5 hk5 x4 y0 y1 H locs ls hw hl
    unfold f_R_weight_74
    refine lv_iadd hx hb dX12_weight_74 ?_
    refine lv_istore_n (lv' := [(3, .int (y0 + y1)), (0, .ref (g_r G)), (1, .int a0), (2, .int a1), (4, .int x4)]) hx hb dX12_weight_75 rfl hl (by decide) rfl (fun ls hl => ?_)
    refine lv_iinc (v := x4 + 1) (lv' := [(4, .int (x4 + 1)), (3, .int (y0 + y1)), (0, .ref (g_r G)), (1, .int a0), (2, .int a1)]) hx hb dX12_weight_76 hl (k := 4) rfl rfl (by decide) rfl (fun ls hl => ?_)
    refine lv_goto (tgt := 5) hx hb dX12_weight_79 (by decide) ?_
    exact hk5 (y0 + y1) (x4 + 1) _ _ _ hw (lv_sub hl [2, 3, 4, 1, 0] rfl)
  have w73 : ∀ (k5 : Int32 → Int32 → Option (Int32)) (hk5 : ∀ (x3 : Int32) (x4 : Int32) (H : Heap) (locs : List Loc) (ls : Array Slot), w_W G M r s H locs → lv_has ls 5 [(0, .ref (g_r G)), (1, .int a0), (2, .int a1), (3, .int x3), (4, .int x4)] → W p l e rm_R_weight s m args below meth c H locs 0 0 (PQ G below args s rm_R_weight.cells rm_R_weight.slots (fun z => (.inl (some (.int z)), M, r)) (k5 x3 x4)) (F0 m 5 ls [])) (x4 : Int32) (y0 : Int32) (H : Heap) (locs : List Loc) (ls : Array Slot), w_W G M r s H locs → lv_has ls 5 [(0, .ref (g_r G)), (1, .int a0), (2, .int a1), (4, .int x4)] → W p l e rm_R_weight s m args below meth c H locs 0 0 (PQ G below args s rm_R_weight.cells rm_R_weight.slots (fun z => (.inl (some (.int z)), M, r)) (f_R_weight_73 N a0 a1 r k5 x4 y0)) (F0 m 73 ls [.int y0]) := by
    intro k5 hk5 x4 y0 H locs ls hw hl
    unfold f_R_weight_73
    refine lv_iconst (v := 0) hx hb dX12_weight_73 (by decide) ?_
    exact w74 k5 hk5 x4 y0 0 _ _ _ hw (lv_sub hl [0, 1, 2, 3] rfl)
  have w56 : ∀ (k5 : Int32 → Int32 → Option (Int32)) (hk5 : ∀ (x3 : Int32) (x4 : Int32) (H : Heap) (locs : List Loc) (ls : Array Slot), w_W G M r s H locs → lv_has ls 5 [(0, .ref (g_r G)), (1, .int a0), (2, .int a1), (3, .int x3), (4, .int x4)] → W p l e rm_R_weight s m args below meth c H locs 0 0 (PQ G below args s rm_R_weight.cells rm_R_weight.slots (fun z => (.inl (some (.int z)), M, r)) (k5 x3 x4)) (F0 m 5 ls [])) (x4 : Int32) (y0 : Int32) (H : Heap) (locs : List Loc) (ls : Array Slot), w_W G M r s H locs → lv_has ls 5 [(0, .ref (g_r G)), (1, .int a0), (2, .int a1), (4, .int x4)] → W p l e rm_R_weight s m args below meth c H locs 0 0 (PQ G below args s rm_R_weight.cells rm_R_weight.slots (fun z => (.inl (some (.int z)), M, r)) (f_R_weight_56 N a0 a1 r k5 x4 y0)) (F0 m 56 ls [.int y0]) := by
    intro k5 hk5 x4 y0 H locs ls hw hl
    unfold f_R_weight_56
    refine lv_aload_n hx hb dX12_weight_56 rfl (lv_at hl 0 rfl) ?_
    refine rx_getA E hw on kF_R_7_11 (by decide) dX12_weight_57 ?_
    refine lv_bipush (v := 20) hx hb dX12_weight_60 (by decide) ?_
    refine lv_iconst (v := 3) hx hb dX12_weight_62 (by decide) ?_
    refine lv_iload hx hb dX12_weight_63 (lv_at hl 3 rfl) ?_
    refine lv_imul hx hb dX12_weight_65 ?_
    refine lv_iadd hx hb dX12_weight_66 ?_
    refine lv_iconst (v := 2) hx hb dX12_weight_67 (by decide) ?_
    refine lv_iadd hx hb dX12_weight_68 ?_
    refine rx_iald E hw on (by decide) dX12_weight_69 (fun v4 => ?_)
    refine lv_goto (tgt := 74) hx hb dX12_weight_70 (by decide) ?_
    exact w74 k5 hk5 x4 y0 v4 _ _ _ hw (lv_sub hl [0, 1, 2, 3] rfl)
  have w5 : ∀ (n : Nat) (x3 : Int32) (x4 : Int32) (H : Heap) (locs : List Loc) (ls : Array Slot), w_W G M r s H locs → lv_has ls 5 [(0, .ref (g_r G)), (1, .int a0), (2, .int a1), (3, .int x3), (4, .int x4)] → W p l e rm_R_weight s m args below meth c H locs 0 0 (PQ G below args s rm_R_weight.cells rm_R_weight.slots (fun z => (.inl (some (.int z)), M, r)) (f_R_weight_5 N a0 a1 r n x3 x4)) (F0 m 5 ls []) := by
    intro n
    induction n with
    | zero => intros; exact W_none
    | succ n ih =>
      intro x3 x4 H locs ls hw hl
      rw [f_R_weight_5]
      refine lv_iload hx hb dX12_weight_5 (lv_at hl 4 rfl) ?_
      refine lv_aload_n hx hb dX12_weight_7 rfl (lv_at hl 0 rfl) ?_
      refine rx_getA E hw on kF_R_7_11 (by decide) dX12_weight_8 ?_
      refine lv_iconst (v := 4) hx hb dX12_weight_11 (by decide) ?_
      refine rx_iald E hw on (by decide) dX12_weight_12 (fun v1 => ?_)
      refine cx_icmp_ge (tgt := 82) E dX12_weight_13 (by decide) (fun _ => ?_) (fun _ => ?_)
      · refine lv_iload_n hx hb dX12_weight_82 rfl (lv_at hl 3 rfl) ?_
        exact p_iret E hw hr (Nat.le_of_ble_eq_true rfl) (Nat.le_of_ble_eq_true rfl) rfl dX12_weight_83
      · refine lv_iload_n hx hb dX12_weight_16 rfl (lv_at hl 3 rfl) ?_
        refine lv_aload_n hx hb dX12_weight_17 rfl (lv_at hl 0 rfl) ?_
        refine rx_getA E hw on kF_R_7_11 (by decide) dX12_weight_18 ?_
        refine lv_bipush (v := 20) hx hb dX12_weight_21 (by decide) ?_
        refine lv_iconst (v := 3) hx hb dX12_weight_23 (by decide) ?_
        refine lv_iload hx hb dX12_weight_24 (lv_at hl 4 rfl) ?_
        refine lv_imul hx hb dX12_weight_26 ?_
        refine lv_iadd hx hb dX12_weight_27 ?_
        refine rx_iald E hw on (by decide) dX12_weight_28 (fun v2 => ?_)
        refine lv_iload_n hx hb dX12_weight_29 rfl (lv_at hl 1 rfl) ?_
        refine cx_icmp_ne (tgt := 73) E dX12_weight_30 (by decide) (fun _ => ?_) (fun _ => ?_)
        · exact w73 (f_R_weight_5 N a0 a1 r n) ih x4 x3 _ _ _ hw (lv_sub hl [0, 1, 2, 4] rfl)
        · refine lv_iload_n hx hb dX12_weight_33 rfl (lv_at hl 2 rfl) ?_
          refine lv_iconst (v := (-1)) hx hb dX12_weight_34 (by decide) ?_
          refine cx_icmp_eq (tgt := 56) E dX12_weight_35 (by decide) (fun _ => ?_) (fun _ => ?_)
          · exact w56 (f_R_weight_5 N a0 a1 r n) ih x4 x3 _ _ _ hw (lv_sub hl [0, 1, 2, 4] rfl)
          · refine lv_aload_n hx hb dX12_weight_38 rfl (lv_at hl 0 rfl) ?_
            refine rx_getA E hw on kF_R_7_11 (by decide) dX12_weight_39 ?_
            refine lv_bipush (v := 20) hx hb dX12_weight_42 (by decide) ?_
            refine lv_iconst (v := 3) hx hb dX12_weight_44 (by decide) ?_
            refine lv_iload hx hb dX12_weight_45 (lv_at hl 4 rfl) ?_
            refine lv_imul hx hb dX12_weight_47 ?_
            refine lv_iadd hx hb dX12_weight_48 ?_
            refine lv_iconst (v := 1) hx hb dX12_weight_49 (by decide) ?_
            refine lv_iadd hx hb dX12_weight_50 ?_
            refine rx_iald E hw on (by decide) dX12_weight_51 (fun v3 => ?_)
            refine lv_iload_n hx hb dX12_weight_52 rfl (lv_at hl 2 rfl) ?_
            refine cx_icmp_ne (tgt := 73) E dX12_weight_53 (by decide) (fun _ => ?_) (fun _ => ?_)
            · exact w73 (f_R_weight_5 N a0 a1 r n) ih x4 x3 _ _ _ hw (lv_sub hl [0, 1, 2, 4] rfl)
            · exact w56 (f_R_weight_5 N a0 a1 r n) ih x4 x3 _ _ _ hw (lv_sub hl [0, 1, 2, 4] rfl)
  unfold f_R_weight
  refine lv_iconst (v := 0) hx hb dX12_weight_0 (by decide) ?_
  refine lv_istore_n (lv' := [(3, .int 0), (0, .ref (g_r G)), (1, .int a0), (2, .int a1)]) hx hb dX12_weight_1 rfl hl (by decide) rfl (fun ls hl => ?_)
  refine lv_iconst (v := 0) hx hb dX12_weight_2 (by decide) ?_
  refine lv_istore (lv' := [(4, .int 0), (3, .int 0), (0, .ref (g_r G)), (1, .int a0), (2, .int a1)]) hx hb dX12_weight_3 hl (by decide) rfl (fun ls hl => ?_)
  exact w5  N 0 0 _ _ _ hw (lv_sub hl [2, 3, 4, 1, 0] rfl)
set_option maxHeartbeats 4000000 in
set_option maxRecDepth 100000 in
theorem t_R_habit (l : Launch) (hfl : l.stackTraces = false) (G : wG) (on : g_on G = true) (N : Nat) (a0 : Int32) (a1 : Int32) (M : Mem) (r : Rho) : Ctr l yX12_habit (wWs yX12_habit cX12_habit 3 (some .int)) rm_R_habit rm_R_habit.cells rm_R_habit.slots G [.ref (g_r G), .int a0, .int a1] M r ((f_R_habit N a0 a1 r).map (fun z => (.inl (some (.int z.1)), M, z.2))) := by
  refine Ctr.ofF (own := "CheekTownModel") (by decide +kernel) hfl rfl (Nat.le_of_ble_eq_true rfl) (fun p e s m args below meth c E hno hr hnm hw ls hl => ?_)
  obtain ⟨hx, hb, hts, hown, hml, hTT, -⟩ := id E
  have hl : lv_has ls 3 [(0, .ref (g_r G)), (1, .int a0), (2, .int a1)] := hl
  obtain ⟨H, hH⟩ : ∃ H, H = s.heap := ⟨_, rfl⟩
  obtain ⟨locs, hlo⟩ : ∃ L : List Loc, L = [] := ⟨_, rfl⟩
  rw [← hH, ← hlo]
  rw [← hlo] at hw
  replace hw : w_W G M r s H locs := by rw [hH]; exact hw
  have w21 : ∀ (y1 : Int32) (r : Rho) (H : Heap) (locs : List Loc) (ls : Array Slot), w_W G M r s H locs → lv_has ls 3 [(0, .ref (g_r G)), (1, .int a0), (2, .int a1)] → W p l e rm_R_habit s m args below meth c H locs 0 0 (PQ G below args s rm_R_habit.cells rm_R_habit.slots (fun z => (.inl (some (.int z.1)), M, z.2)) (f_R_habit_21 N a0 a1 y1 r)) (F0 m 21 ls [.int y1, .ref (g_r G)]) := by
    intro y1 r H locs ls hw hl
    unfold f_R_habit_21
    refine rx_putI E hw on kF_R_56_11 (by decide) kT_11_0 dX12_habit_21 (fun H locs hw => ?_)
    refine lv_aload_n hx hb dX12_habit_24 rfl (lv_at hl 0 rfl) ?_
    refine rx_getI E hw on kF_R_56_11 (by decide) dX12_habit_25 ?_
    refine cx_if_le (tgt := 35) E dX12_habit_28 (by decide) (fun _ => ?_) (fun _ => ?_)
    · refine lv_aload_n hx hb dX12_habit_35 rfl (lv_at hl 0 rfl) ?_
      refine lv_iload_n hx hb dX12_habit_36 rfl (lv_at hl 1 rfl) ?_
      refine lv_iload_n hx hb dX12_habit_37 rfl (lv_at hl 2 rfl) ?_
      refine W_bind fun z3 hz => ?_
      refine w_after (cells1 := 0) (slots1 := 0) (w_runV E kV_R_269 kc_X12_weight (t_R_weight l hfl G on N a0 a1 M (r_set r 0 y1) ((fun z => (.inl (some (.int z)), M, (r_set r 0 y1))) z3) (by rw [hz]; rfl)) ⟨Nat.le_of_ble_eq_true rfl, Nat.le_of_ble_eq_true rfl⟩ hw (w_recvR E hw on) rfl hl.1 rfl (Nat.le_of_ble_eq_true rfl) dX12_habit_38 ⟨Nat.le_of_ble_eq_true rfl, Nat.le_of_ble_eq_true rfl⟩) hw rfl (Nat.le_of_ble_eq_true rfl) (Nat.le_of_ble_eq_true rfl) (fun H locs hw => ?_)
      refine W.eq (g2 := F0 m 41 ls [.int z3]) rfl ?_
      have hw : w_W G M (r_set r 0 y1) s H locs := hw
      exact p_iret E hw hr (Nat.le_of_ble_eq_true rfl) (Nat.le_of_ble_eq_true rfl) rfl dX12_habit_41
    · refine lv_iconst (v := 0) hx hb dX12_habit_31 (by decide) ?_
      refine lv_goto (tgt := 41) hx hb dX12_habit_32 (by decide) ?_
      exact p_iret E hw hr (Nat.le_of_ble_eq_true rfl) (Nat.le_of_ble_eq_true rfl) rfl dX12_habit_41
  have w16 : ∀ (r : Rho) (H : Heap) (locs : List Loc) (ls : Array Slot), w_W G M r s H locs → lv_has ls 3 [(0, .ref (g_r G)), (1, .int a0), (2, .int a1)] → W p l e rm_R_habit s m args below meth c H locs 0 0 (PQ G below args s rm_R_habit.cells rm_R_habit.slots (fun z => (.inl (some (.int z.1)), M, z.2)) (f_R_habit_16 N a0 a1 r)) (F0 m 16 ls [.ref (g_r G)]) := by
    intro r H locs ls hw hl
    unfold f_R_habit_16
    refine lv_iconst (v := 1) hx hb dX12_habit_16 (by decide) ?_
    refine lv_goto (tgt := 21) hx hb dX12_habit_17 (by decide) ?_
    exact w21  1 r _ _ _ hw (lv_sub hl [0, 1, 2] rfl)
  unfold f_R_habit
  refine lv_aload_n hx hb dX12_habit_0 rfl (lv_at hl 0 rfl) ?_
  refine lv_aload_n hx hb dX12_habit_1 rfl (lv_at hl 0 rfl) ?_
  refine lv_iload_n hx hb dX12_habit_2 rfl (lv_at hl 1 rfl) ?_
  refine W_bind fun z1 hz => ?_
  refine w_after (cells1 := 0) (slots1 := 0) (w_runV E kV_R_266 kc_X12_isLand (t_R_isLand l hfl G on a0 M r ((fun z => (.inl (some (.int z)), M, r)) z1) (by rw [hz]; rfl)) ⟨Nat.le_of_ble_eq_true rfl, Nat.le_of_ble_eq_true rfl⟩ hw (w_recvR E hw on) rfl hl.1 rfl (Nat.le_of_ble_eq_true rfl) dX12_habit_3 ⟨Nat.le_of_ble_eq_true rfl, Nat.le_of_ble_eq_true rfl⟩) hw rfl (Nat.le_of_ble_eq_true rfl) (Nat.le_of_ble_eq_true rfl) (fun H locs hw => ?_)
  refine W.eq (g2 := F0 m 6 ls [.int z1, .ref (g_r G)]) rfl ?_
  have hw : w_W G M r s H locs := hw
  refine cx_if_eq (tgt := 16) E dX12_habit_6 (by decide) (fun _ => ?_) (fun _ => ?_)
  · exact w16  r _ _ _ hw (lv_sub hl [0, 1, 2] rfl)
  · refine lv_iload_n hx hb dX12_habit_9 rfl (lv_at hl 2 rfl) ?_
    refine W_bind fun z2 hz => ?_
    refine w_after (cells1 := 0) (slots1 := 0) (w_runS E kS_R_260 kc_X12_isCode (t_R_isCode l hfl G a1 M r ((fun z => (.inl (some (.int z)), M, r)) z2) (by rw [hz]; rfl)) ⟨Nat.le_of_ble_eq_true rfl, Nat.le_of_ble_eq_true rfl⟩ hw rfl hl.1 rfl (Nat.le_of_ble_eq_true rfl) dX12_habit_10 ⟨Nat.le_of_ble_eq_true rfl, Nat.le_of_ble_eq_true rfl⟩) hw rfl (Nat.le_of_ble_eq_true rfl) (Nat.le_of_ble_eq_true rfl) (fun H locs hw => ?_)
    refine W.eq (g2 := F0 m 13 ls [.int z2, .ref (g_r G)]) rfl ?_
    have hw : w_W G M r s H locs := hw
    refine cx_if_ne (tgt := 20) E dX12_habit_13 (by decide) (fun _ => ?_) (fun _ => ?_)
    · refine lv_iconst (v := 0) hx hb dX12_habit_20 (by decide) ?_
      exact w21  0 r _ _ _ hw (lv_sub hl [0, 1, 2] rfl)
    · exact w16  r _ _ _ hw (lv_sub hl [0, 1, 2] rfl)
set_option maxHeartbeats 4000000 in
set_option maxRecDepth 100000 in
theorem t_R_isPerson (l : Launch) (hfl : l.stackTraces = false) (G : wG) (on : g_on G = true) (a0 : Int32) (M : Mem) (r : Rho) : Ctr l yX12_isPerson (wWs yX12_isPerson cX12_isPerson 2 (some .boolean)) rm_R_isPerson rm_R_isPerson.cells rm_R_isPerson.slots G [.ref (g_r G), .int a0] M r ((f_R_isPerson a0 r).map (fun z => (.inl (some (.int z)), M, r))) := by
  refine Ctr.ofF (own := "CheekTownModel") (by decide +kernel) hfl rfl (Nat.le_of_ble_eq_true rfl) (fun p e s m args below meth c E hno hr hnm hw ls hl => ?_)
  obtain ⟨hx, hb, hts, hown, hml, hTT, -⟩ := id E
  have hl : lv_has ls 2 [(0, .ref (g_r G)), (1, .int a0)] := hl
  obtain ⟨H, hH⟩ : ∃ H, H = s.heap := ⟨_, rfl⟩
  obtain ⟨locs, hlo⟩ : ∃ L : List Loc, L = [] := ⟨_, rfl⟩
  rw [← hH, ← hlo]
  rw [← hlo] at hw
  replace hw : w_W G M r s H locs := by rw [hH]; exact hw
  unfold f_R_isPerson
  refine lv_iload_n hx hb dX12_isPerson_0 rfl (lv_at hl 1 rfl) ?_
  refine lv_iconst (v := 0) hx hb dX12_isPerson_1 (by decide) ?_
  refine lv_aload_n hx hb dX12_isPerson_2 rfl (lv_at hl 0 rfl) ?_
  refine rx_getA E hw on kF_R_7_11 (by decide) dX12_isPerson_3 ?_
  refine lv_iconst (v := 5) hx hb dX12_isPerson_6 (by decide) ?_
  refine rx_iald E hw on (by decide) dX12_isPerson_7 (fun v1 => ?_)
  refine lv_iconst (v := 1) hx hb dX12_isPerson_8 (by decide) ?_
  refine lv_isub hx hb dX12_isPerson_9 ?_
  refine W_bind fun z2 hz => ?_
  refine w_after (cells1 := 0) (slots1 := 0) (w_runS E kS_R_59 kc_X12_isIn (t_R_isIn l hfl G a0 0 (v1 - 1) M r ((fun z => (.inl (some (.int z)), M, r)) z2) (by rw [hz]; rfl)) ⟨Nat.le_of_ble_eq_true rfl, Nat.le_of_ble_eq_true rfl⟩ hw rfl hl.1 rfl (Nat.le_of_ble_eq_true rfl) dX12_isPerson_10 ⟨Nat.le_of_ble_eq_true rfl, Nat.le_of_ble_eq_true rfl⟩) hw rfl (Nat.le_of_ble_eq_true rfl) (Nat.le_of_ble_eq_true rfl) (fun H locs hw => ?_)
  refine W.eq (g2 := F0 m 13 ls [.int z2]) rfl ?_
  have hw : w_W G M r s H locs := hw
  refine W_bind fun z3 hz => ?_
  obtain ⟨rfl, hz0⟩ := zg_ok hz
  exact p_zret E hw hr hz0 (Nat.le_of_ble_eq_true rfl) (Nat.le_of_ble_eq_true rfl) rfl dX12_isPerson_13
set_option maxHeartbeats 4000000 in
set_option maxRecDepth 100000 in
theorem t_R_of (l : Launch) (hfl : l.stackTraces = false) (G : wG) (on : g_on G = true) (a0 : Int32) (a1 : Int32) (M : Mem) (r : Rho) : Ctr l yX12_of (wWs yX12_of cX12_of 3 (some .int)) rm_R_of rm_R_of.cells rm_R_of.slots G [.ref (g_r G), .int a0, .int a1] M r ((f_R_of a0 a1 r).map (fun z => (.inl (some (.int z)), M, r))) := by
  refine Ctr.ofF (own := "CheekTownModel") (by decide +kernel) hfl rfl (Nat.le_of_ble_eq_true rfl) (fun p e s m args below meth c E hno hr hnm hw ls hl => ?_)
  obtain ⟨hx, hb, hts, hown, hml, hTT, -⟩ := id E
  have hl : lv_has ls 3 [(0, .ref (g_r G)), (1, .int a0), (2, .int a1)] := hl
  obtain ⟨H, hH⟩ : ∃ H, H = s.heap := ⟨_, rfl⟩
  obtain ⟨locs, hlo⟩ : ∃ L : List Loc, L = [] := ⟨_, rfl⟩
  rw [← hH, ← hlo]
  rw [← hlo] at hw
  replace hw : w_W G M r s H locs := by rw [hH]; exact hw
  unfold f_R_of
  refine lv_aload_n hx hb dX12_of_0 rfl (lv_at hl 0 rfl) ?_
  refine rx_getA E hw on kF_R_7_11 (by decide) dX12_of_1 ?_
  refine lv_bipush (v := 92) hx hb dX12_of_4 (by decide) ?_
  refine lv_bipush (v := 8) hx hb dX12_of_6 (by decide) ?_
  refine lv_iload_n hx hb dX12_of_8 rfl (lv_at hl 1 rfl) ?_
  refine lv_imul hx hb dX12_of_9 ?_
  refine lv_iadd hx hb dX12_of_10 ?_
  refine lv_iload_n hx hb dX12_of_11 rfl (lv_at hl 2 rfl) ?_
  refine lv_iadd hx hb dX12_of_12 ?_
  refine rx_iald E hw on (by decide) dX12_of_13 (fun v1 => ?_)
  exact p_iret E hw hr (Nat.le_of_ble_eq_true rfl) (Nat.le_of_ble_eq_true rfl) rfl dX12_of_14
set_option maxHeartbeats 4000000 in
set_option maxRecDepth 100000 in
theorem t_R_tiedTo (l : Launch) (hfl : l.stackTraces = false) (G : wG) (on : g_on G = true) (N : Nat) (a0 : Int32) (M : Mem) (r : Rho) : Ctr l yX12_tiedTo (wWs yX12_tiedTo cX12_tiedTo 4 (some .int)) rm_R_tiedTo rm_R_tiedTo.cells rm_R_tiedTo.slots G [.ref (g_r G), .int a0] M r ((f_R_tiedTo N a0 r).map (fun z => (.inl (some (.int z)), M, r))) := by
  refine Ctr.ofF (own := "CheekTownModel") (by decide +kernel) hfl rfl (Nat.le_of_ble_eq_true rfl) (fun p e s m args below meth c E hno hr hnm hw ls hl => ?_)
  obtain ⟨hx, hb, hts, hown, hml, hTT, -⟩ := id E
  have hl : lv_has ls 4 [(0, .ref (g_r G)), (1, .int a0)] := hl
  obtain ⟨H, hH⟩ : ∃ H, H = s.heap := ⟨_, rfl⟩
  obtain ⟨locs, hlo⟩ : ∃ L : List Loc, L = [] := ⟨_, rfl⟩
  rw [← hH, ← hlo]
  rw [← hlo] at hw
  replace hw : w_W G M r s H locs := by rw [hH]; exact hw
  have w31 : ∀ (k4 : Int32 → Int32 → Option (Int32)) (hk4 : ∀ (x2 : Int32) (x3 : Int32) (H : Heap) (locs : List Loc) (ls : Array Slot), w_W G M r s H locs → lv_has ls 4 [(0, .ref (g_r G)), (1, .int a0), (2, .int x2), (3, .int x3)] → W p l e rm_R_tiedTo s m args below meth c H locs 0 0 (PQ G below args s rm_R_tiedTo.cells rm_R_tiedTo.slots (fun z => (.inl (some (.int z)), M, r)) (k4 x2 x3)) (F0 m 4 ls [])) (x3 : Int32) (y0 : Int32) (y1 : Int32) (H : Heap) (locs : List Loc) (ls : Array Slot), w_W G M r s H locs → lv_has ls 4 [(0, .ref (g_r G)), (1, .int a0), (3, .int x3)] → W p l e rm_R_tiedTo s m args below meth c H locs 0 0 (PQ G below args s rm_R_tiedTo.cells rm_R_tiedTo.slots (fun z => (.inl (some (.int z)), M, r)) (f_R_tiedTo_31 N a0 r k4 x3 y0 y1)) (F0 m 31 ls [.int y1, .int y0]) := by
    intro k4 hk4 x3 y0 y1 H locs ls hw hl
    unfold f_R_tiedTo_31
    refine lv_ior hx hb dX12_tiedTo_31 ?_
    refine lv_istore_n (lv' := [(2, .int (y0 ||| y1)), (0, .ref (g_r G)), (1, .int a0), (3, .int x3)]) hx hb dX12_tiedTo_32 rfl hl (by decide) rfl (fun ls hl => ?_)
    refine lv_iinc (v := x3 + 1) (lv' := [(3, .int (x3 + 1)), (2, .int (y0 ||| y1)), (0, .ref (g_r G)), (1, .int a0)]) hx hb dX12_tiedTo_33 hl (k := 3) rfl rfl (by decide) rfl (fun ls hl => ?_)
    refine lv_goto (tgt := 4) hx hb dX12_tiedTo_36 (by decide) ?_
    exact hk4 (y0 ||| y1) (x3 + 1) _ _ _ hw (lv_sub hl [2, 3, 1, 0] rfl)
  have w4 : ∀ (n : Nat) (x2 : Int32) (x3 : Int32) (H : Heap) (locs : List Loc) (ls : Array Slot), w_W G M r s H locs → lv_has ls 4 [(0, .ref (g_r G)), (1, .int a0), (2, .int x2), (3, .int x3)] → W p l e rm_R_tiedTo s m args below meth c H locs 0 0 (PQ G below args s rm_R_tiedTo.cells rm_R_tiedTo.slots (fun z => (.inl (some (.int z)), M, r)) (f_R_tiedTo_4 N a0 r n x2 x3)) (F0 m 4 ls []) := by
    intro n
    induction n with
    | zero => intros; exact W_none
    | succ n ih =>
      intro x2 x3 H locs ls hw hl
      rw [f_R_tiedTo_4]
      refine lv_iload_n hx hb dX12_tiedTo_4 rfl (lv_at hl 3 rfl) ?_
      refine lv_aload_n hx hb dX12_tiedTo_5 rfl (lv_at hl 0 rfl) ?_
      refine rx_getA E hw on kF_R_7_11 (by decide) dX12_tiedTo_6 ?_
      refine lv_iconst (v := 5) hx hb dX12_tiedTo_9 (by decide) ?_
      refine rx_iald E hw on (by decide) dX12_tiedTo_10 (fun v1 => ?_)
      refine cx_icmp_ge (tgt := 39) E dX12_tiedTo_11 (by decide) (fun _ => ?_) (fun _ => ?_)
      · refine lv_iload_n hx hb dX12_tiedTo_39 rfl (lv_at hl 2 rfl) ?_
        exact p_iret E hw hr (Nat.le_of_ble_eq_true rfl) (Nat.le_of_ble_eq_true rfl) rfl dX12_tiedTo_40
      · refine lv_iload_n hx hb dX12_tiedTo_14 rfl (lv_at hl 2 rfl) ?_
        refine lv_aload_n hx hb dX12_tiedTo_15 rfl (lv_at hl 0 rfl) ?_
        refine lv_iload_n hx hb dX12_tiedTo_16 rfl (lv_at hl 1 rfl) ?_
        refine lv_iload_n hx hb dX12_tiedTo_17 rfl (lv_at hl 3 rfl) ?_
        refine W_bind fun z2 hz => ?_
        refine w_after (cells1 := 0) (slots1 := 0) (w_runV E kV_R_148 kc_X12_areTied (t_R_areTied l hfl G on N a0 x3 M r ((fun z => (.inl (some (.int z)), M, r)) z2) (by rw [hz]; rfl)) ⟨Nat.le_of_ble_eq_true rfl, Nat.le_of_ble_eq_true rfl⟩ hw (w_recvR E hw on) rfl hl.1 rfl (Nat.le_of_ble_eq_true rfl) dX12_tiedTo_18 ⟨Nat.le_of_ble_eq_true rfl, Nat.le_of_ble_eq_true rfl⟩) hw rfl (Nat.le_of_ble_eq_true rfl) (Nat.le_of_ble_eq_true rfl) (fun H locs hw => ?_)
        refine W.eq (g2 := F0 m 21 ls [.int z2, .int x2]) rfl ?_
        have hw : w_W G M r s H locs := hw
        refine cx_if_eq (tgt := 30) E dX12_tiedTo_21 (by decide) (fun _ => ?_) (fun _ => ?_)
        · refine lv_iconst (v := 0) hx hb dX12_tiedTo_30 (by decide) ?_
          exact w31 (f_R_tiedTo_4 N a0 r n) ih x3 x2 0 _ _ _ hw (lv_sub hl [0, 1, 3] rfl)
        · refine lv_iconst (v := 1) hx hb dX12_tiedTo_24 (by decide) ?_
          refine lv_iload_n hx hb dX12_tiedTo_25 rfl (lv_at hl 3 rfl) ?_
          refine lv_ishl hx hb dX12_tiedTo_26 ?_
          refine lv_goto (tgt := 31) hx hb dX12_tiedTo_27 (by decide) ?_
          exact w31 (f_R_tiedTo_4 N a0 r n) ih x3 x2 (1 <<< (x3 &&& 31)) _ _ _ hw (lv_sub hl [0, 1, 3] rfl)
  unfold f_R_tiedTo
  refine lv_iconst (v := 0) hx hb dX12_tiedTo_0 (by decide) ?_
  refine lv_istore_n (lv' := [(2, .int 0), (0, .ref (g_r G)), (1, .int a0)]) hx hb dX12_tiedTo_1 rfl hl (by decide) rfl (fun ls hl => ?_)
  refine lv_iconst (v := 0) hx hb dX12_tiedTo_2 (by decide) ?_
  refine lv_istore_n (lv' := [(3, .int 0), (2, .int 0), (0, .ref (g_r G)), (1, .int a0)]) hx hb dX12_tiedTo_3 rfl hl (by decide) rfl (fun ls hl => ?_)
  exact w4  N 0 0 _ _ _ hw (lv_sub hl [2, 3, 1, 0] rfl)
set_option maxHeartbeats 4000000 in
set_option maxRecDepth 100000 in
theorem t_R_person (l : Launch) (hfl : l.stackTraces = false) (G : wG) (on : g_on G = true) (N : Nat) (a0 : Int32) (a1 : Int32) (M : Mem) (r : Rho) : Ctr l yX12_person (wWs yX12_person cX12_person 3 (some .int)) rm_R_person rm_R_person.cells rm_R_person.slots G [.ref (g_r G), .int a0, .int a1] M r ((f_R_person N a0 a1 r).map (fun z => (.inl (some (.int z.1)), M, z.2))) := by
  refine Ctr.ofF (own := "CheekTownModel") (by decide +kernel) hfl rfl (Nat.le_of_ble_eq_true rfl) (fun p e s m args below meth c E hno hr hnm hw ls hl => ?_)
  obtain ⟨hx, hb, hts, hown, hml, hTT, -⟩ := id E
  have hl : lv_has ls 3 [(0, .ref (g_r G)), (1, .int a0), (2, .int a1)] := hl
  obtain ⟨H, hH⟩ : ∃ H, H = s.heap := ⟨_, rfl⟩
  obtain ⟨locs, hlo⟩ : ∃ L : List Loc, L = [] := ⟨_, rfl⟩
  rw [← hH, ← hlo]
  rw [← hlo] at hw
  replace hw : w_W G M r s H locs := by rw [hH]; exact hw
  have w28 : ∀ (y1 : Int32) (r : Rho) (H : Heap) (locs : List Loc) (ls : Array Slot), w_W G M r s H locs → lv_has ls 3 [(0, .ref (g_r G)), (1, .int a0), (2, .int a1)] → W p l e rm_R_person s m args below meth c H locs 0 0 (PQ G below args s rm_R_person.cells rm_R_person.slots (fun z => (.inl (some (.int z.1)), M, z.2)) (f_R_person_28 N a0 a1 y1 r)) (F0 m 28 ls [.int y1, .ref (g_r G)]) := by
    intro y1 r H locs ls hw hl
    unfold f_R_person_28
    refine rx_putI E hw on kF_R_56_11 (by decide) kT_11_0 dX12_person_28 (fun H locs hw => ?_)
    refine lv_aload_n hx hb dX12_person_31 rfl (lv_at hl 0 rfl) ?_
    refine rx_getI E hw on kF_R_56_11 (by decide) dX12_person_32 ?_
    refine cx_if_le (tgt := 40) E dX12_person_35 (by decide) (fun _ => ?_) (fun _ => ?_)
    · refine lv_iload_n hx hb dX12_person_40 rfl (lv_at hl 2 rfl) ?_
      refine lv_iconst (v := 5) hx hb dX12_person_41 (by decide) ?_
      refine cx_icmp_ge (tgt := 54) E dX12_person_42 (by decide) (fun _ => ?_) (fun _ => ?_)
      · refine lv_iload_n hx hb dX12_person_54 rfl (lv_at hl 2 rfl) ?_
        refine lv_iconst (v := 5) hx hb dX12_person_55 (by decide) ?_
        refine cx_icmp_ne (tgt := 67) E dX12_person_56 (by decide) (fun _ => ?_) (fun _ => ?_)
        · refine lv_aload_n hx hb dX12_person_67 rfl (lv_at hl 0 rfl) ?_
          refine lv_iload_n hx hb dX12_person_68 rfl (lv_at hl 1 rfl) ?_
          refine lv_iconst (v := 5) hx hb dX12_person_69 (by decide) ?_
          refine W_bind fun z3 hz => ?_
          refine w_after (cells1 := 0) (slots1 := 0) (w_runV E kV_R_257 kc_X12_of (t_R_of l hfl G on a0 5 M (r_set r 0 y1) ((fun z => (.inl (some (.int z)), M, (r_set r 0 y1))) z3) (by rw [hz]; rfl)) ⟨Nat.le_of_ble_eq_true rfl, Nat.le_of_ble_eq_true rfl⟩ hw (w_recvR E hw on) rfl hl.1 rfl (Nat.le_of_ble_eq_true rfl) dX12_person_70 ⟨Nat.le_of_ble_eq_true rfl, Nat.le_of_ble_eq_true rfl⟩) hw rfl (Nat.le_of_ble_eq_true rfl) (Nat.le_of_ble_eq_true rfl) (fun H locs hw => ?_)
          refine W.eq (g2 := F0 m 73 ls [.int z3]) rfl ?_
          have hw : w_W G M (r_set r 0 y1) s H locs := hw
          exact p_iret E hw hr (Nat.le_of_ble_eq_true rfl) (Nat.le_of_ble_eq_true rfl) rfl dX12_person_73
        · refine lv_aload_n hx hb dX12_person_59 rfl (lv_at hl 0 rfl) ?_
          refine lv_iload_n hx hb dX12_person_60 rfl (lv_at hl 1 rfl) ?_
          refine W_bind fun z4 hz => ?_
          refine w_after (cells1 := 0) (slots1 := 0) (w_runV E kV_R_274 kc_X12_tiedTo (t_R_tiedTo l hfl G on N a0 M (r_set r 0 y1) ((fun z => (.inl (some (.int z)), M, (r_set r 0 y1))) z4) (by rw [hz]; rfl)) ⟨Nat.le_of_ble_eq_true rfl, Nat.le_of_ble_eq_true rfl⟩ hw (w_recvR E hw on) rfl hl.1 rfl (Nat.le_of_ble_eq_true rfl) dX12_person_61 ⟨Nat.le_of_ble_eq_true rfl, Nat.le_of_ble_eq_true rfl⟩) hw rfl (Nat.le_of_ble_eq_true rfl) (Nat.le_of_ble_eq_true rfl) (fun H locs hw => ?_)
          refine W.eq (g2 := F0 m 64 ls [.int z4]) rfl ?_
          have hw : w_W G M (r_set r 0 y1) s H locs := hw
          refine lv_goto (tgt := 73) hx hb dX12_person_64 (by decide) ?_
          exact p_iret E hw hr (Nat.le_of_ble_eq_true rfl) (Nat.le_of_ble_eq_true rfl) rfl dX12_person_73
      · refine lv_aload_n hx hb dX12_person_45 rfl (lv_at hl 0 rfl) ?_
        refine lv_iload_n hx hb dX12_person_46 rfl (lv_at hl 1 rfl) ?_
        refine lv_iload_n hx hb dX12_person_47 rfl (lv_at hl 2 rfl) ?_
        refine W_bind fun z5 hz => ?_
        refine w_after (cells1 := 0) (slots1 := 0) (w_runV E kV_R_257 kc_X12_of (t_R_of l hfl G on a0 a1 M (r_set r 0 y1) ((fun z => (.inl (some (.int z)), M, (r_set r 0 y1))) z5) (by rw [hz]; rfl)) ⟨Nat.le_of_ble_eq_true rfl, Nat.le_of_ble_eq_true rfl⟩ hw (w_recvR E hw on) rfl hl.1 rfl (Nat.le_of_ble_eq_true rfl) dX12_person_48 ⟨Nat.le_of_ble_eq_true rfl, Nat.le_of_ble_eq_true rfl⟩) hw rfl (Nat.le_of_ble_eq_true rfl) (Nat.le_of_ble_eq_true rfl) (fun H locs hw => ?_)
        refine W.eq (g2 := F0 m 51 ls [.int z5]) rfl ?_
        have hw : w_W G M (r_set r 0 y1) s H locs := hw
        refine lv_goto (tgt := 73) hx hb dX12_person_51 (by decide) ?_
        exact p_iret E hw hr (Nat.le_of_ble_eq_true rfl) (Nat.le_of_ble_eq_true rfl) rfl dX12_person_73
    · refine lv_iconst (v := 0) hx hb dX12_person_38 (by decide) ?_
      exact p_iret E hw hr (Nat.le_of_ble_eq_true rfl) (Nat.le_of_ble_eq_true rfl) rfl dX12_person_39
  unfold f_R_person
  refine lv_aload_n hx hb dX12_person_0 rfl (lv_at hl 0 rfl) ?_
  refine lv_aload_n hx hb dX12_person_1 rfl (lv_at hl 0 rfl) ?_
  refine lv_iload_n hx hb dX12_person_2 rfl (lv_at hl 1 rfl) ?_
  refine W_bind fun z1 hz => ?_
  refine w_after (cells1 := 0) (slots1 := 0) (w_runV E kV_R_271 kc_X12_isPerson (t_R_isPerson l hfl G on a0 M r ((fun z => (.inl (some (.int z)), M, r)) z1) (by rw [hz]; rfl)) ⟨Nat.le_of_ble_eq_true rfl, Nat.le_of_ble_eq_true rfl⟩ hw (w_recvR E hw on) rfl hl.1 rfl (Nat.le_of_ble_eq_true rfl) dX12_person_3 ⟨Nat.le_of_ble_eq_true rfl, Nat.le_of_ble_eq_true rfl⟩) hw rfl (Nat.le_of_ble_eq_true rfl) (Nat.le_of_ble_eq_true rfl) (fun H locs hw => ?_)
  refine W.eq (g2 := F0 m 6 ls [.int z1, .ref (g_r G)]) rfl ?_
  have hw : w_W G M r s H locs := hw
  refine cx_if_ne (tgt := 13) E dX12_person_6 (by decide) (fun _ => ?_) (fun _ => ?_)
  · refine lv_iload_n hx hb dX12_person_13 rfl (lv_at hl 2 rfl) ?_
    refine lv_iconst (v := 0) hx hb dX12_person_14 (by decide) ?_
    refine lv_bipush (v := 6) hx hb dX12_person_15 (by decide) ?_
    refine W_bind fun z2 hz => ?_
    refine w_after (cells1 := 0) (slots1 := 0) (w_runS E kS_R_59 kc_X12_isIn (t_R_isIn l hfl G a1 0 6 M r ((fun z => (.inl (some (.int z)), M, r)) z2) (by rw [hz]; rfl)) ⟨Nat.le_of_ble_eq_true rfl, Nat.le_of_ble_eq_true rfl⟩ hw rfl hl.1 rfl (Nat.le_of_ble_eq_true rfl) dX12_person_17 ⟨Nat.le_of_ble_eq_true rfl, Nat.le_of_ble_eq_true rfl⟩) hw rfl (Nat.le_of_ble_eq_true rfl) (Nat.le_of_ble_eq_true rfl) (fun H locs hw => ?_)
    refine W.eq (g2 := F0 m 20 ls [.int z2, .ref (g_r G)]) rfl ?_
    have hw : w_W G M r s H locs := hw
    refine cx_if_ne (tgt := 27) E dX12_person_20 (by decide) (fun _ => ?_) (fun _ => ?_)
    · refine lv_iconst (v := 0) hx hb dX12_person_27 (by decide) ?_
      exact w28  0 r _ _ _ hw (lv_sub hl [0, 1, 2] rfl)
    · refine lv_iconst (v := 2) hx hb dX12_person_23 (by decide) ?_
      refine lv_goto (tgt := 28) hx hb dX12_person_24 (by decide) ?_
      exact w28  2 r _ _ _ hw (lv_sub hl [0, 1, 2] rfl)
  · refine lv_iconst (v := 1) hx hb dX12_person_9 (by decide) ?_
    refine lv_goto (tgt := 28) hx hb dX12_person_10 (by decide) ?_
    exact w28  1 r _ _ _ hw (lv_sub hl [0, 1, 2] rfl)
set_option maxHeartbeats 4000000 in
set_option maxRecDepth 100000 in
theorem t_R_two (l : Launch) (hfl : l.stackTraces = false) (G : wG) (on : g_on G = true) (a0 : Int32) (a1 : Int32) (M : Mem) (r : Rho) : Ctr l yX12_two (wWs yX12_two cX12_two 3 (some .int)) rm_R_two rm_R_two.cells rm_R_two.slots G [.ref (g_r G), .int a0, .int a1] M r ((f_R_two a0 a1 r).map (fun z => (.inl (some (.int z)), M, r))) := by
  refine Ctr.ofF (own := "CheekTownModel") (by decide +kernel) hfl rfl (Nat.le_of_ble_eq_true rfl) (fun p e s m args below meth c E hno hr hnm hw ls hl => ?_)
  obtain ⟨hx, hb, hts, hown, hml, hTT, -⟩ := id E
  have hl : lv_has ls 3 [(0, .ref (g_r G)), (1, .int a0), (2, .int a1)] := hl
  obtain ⟨H, hH⟩ : ∃ H, H = s.heap := ⟨_, rfl⟩
  obtain ⟨locs, hlo⟩ : ∃ L : List Loc, L = [] := ⟨_, rfl⟩
  rw [← hH, ← hlo]
  rw [← hlo] at hw
  replace hw : w_W G M r s H locs := by rw [hH]; exact hw
  unfold f_R_two
  refine lv_aload_n hx hb dX12_two_0 rfl (lv_at hl 0 rfl) ?_
  refine lv_iload_n hx hb dX12_two_1 rfl (lv_at hl 1 rfl) ?_
  refine W_bind fun z1 hz => ?_
  refine w_after (cells1 := 0) (slots1 := 0) (w_runV E kV_R_271 kc_X12_isPerson (t_R_isPerson l hfl G on a0 M r ((fun z => (.inl (some (.int z)), M, r)) z1) (by rw [hz]; rfl)) ⟨Nat.le_of_ble_eq_true rfl, Nat.le_of_ble_eq_true rfl⟩ hw (w_recvR E hw on) rfl hl.1 rfl (Nat.le_of_ble_eq_true rfl) dX12_two_2 ⟨Nat.le_of_ble_eq_true rfl, Nat.le_of_ble_eq_true rfl⟩) hw rfl (Nat.le_of_ble_eq_true rfl) (Nat.le_of_ble_eq_true rfl) (fun H locs hw => ?_)
  refine W.eq (g2 := F0 m 5 ls [.int z1]) rfl ?_
  have hw : w_W G M r s H locs := hw
  refine cx_if_eq (tgt := 16) E dX12_two_5 (by decide) (fun _ => ?_) (fun _ => ?_)
  · refine lv_iconst (v := 1) hx hb dX12_two_16 (by decide) ?_
    refine lv_goto (tgt := 30) hx hb dX12_two_17 (by decide) ?_
    exact p_iret E hw hr (Nat.le_of_ble_eq_true rfl) (Nat.le_of_ble_eq_true rfl) rfl dX12_two_30
  · refine lv_aload_n hx hb dX12_two_8 rfl (lv_at hl 0 rfl) ?_
    refine lv_iload_n hx hb dX12_two_9 rfl (lv_at hl 2 rfl) ?_
    refine W_bind fun z2 hz => ?_
    refine w_after (cells1 := 0) (slots1 := 0) (w_runV E kV_R_271 kc_X12_isPerson (t_R_isPerson l hfl G on a1 M r ((fun z => (.inl (some (.int z)), M, r)) z2) (by rw [hz]; rfl)) ⟨Nat.le_of_ble_eq_true rfl, Nat.le_of_ble_eq_true rfl⟩ hw (w_recvR E hw on) rfl hl.1 rfl (Nat.le_of_ble_eq_true rfl) dX12_two_10 ⟨Nat.le_of_ble_eq_true rfl, Nat.le_of_ble_eq_true rfl⟩) hw rfl (Nat.le_of_ble_eq_true rfl) (Nat.le_of_ble_eq_true rfl) (fun H locs hw => ?_)
    refine W.eq (g2 := F0 m 13 ls [.int z2]) rfl ?_
    have hw : w_W G M r s H locs := hw
    refine cx_if_ne (tgt := 20) E dX12_two_13 (by decide) (fun _ => ?_) (fun _ => ?_)
    · refine lv_iload_n hx hb dX12_two_20 rfl (lv_at hl 1 rfl) ?_
      refine lv_iload_n hx hb dX12_two_21 rfl (lv_at hl 2 rfl) ?_
      refine cx_icmp_ne (tgt := 29) E dX12_two_22 (by decide) (fun _ => ?_) (fun _ => ?_)
      · refine lv_iconst (v := 0) hx hb dX12_two_29 (by decide) ?_
        exact p_iret E hw hr (Nat.le_of_ble_eq_true rfl) (Nat.le_of_ble_eq_true rfl) rfl dX12_two_30
      · refine lv_iconst (v := 2) hx hb dX12_two_25 (by decide) ?_
        refine lv_goto (tgt := 30) hx hb dX12_two_26 (by decide) ?_
        exact p_iret E hw hr (Nat.le_of_ble_eq_true rfl) (Nat.le_of_ble_eq_true rfl) rfl dX12_two_30
    · refine lv_iconst (v := 1) hx hb dX12_two_16 (by decide) ?_
      refine lv_goto (tgt := 30) hx hb dX12_two_17 (by decide) ?_
      exact p_iret E hw hr (Nat.le_of_ble_eq_true rfl) (Nat.le_of_ble_eq_true rfl) rfl dX12_two_30
set_option maxHeartbeats 4000000 in
set_option maxRecDepth 100000 in
theorem t_R_saw (l : Launch) (hfl : l.stackTraces = false) (G : wG) (on : g_on G = true) (a0 : Int32) (a1 : Int32) (a2 : Int32) (M : Mem) (r : Rho) : Ctr l yX12_saw (wWs yX12_saw cX12_saw 4 (some .int)) rm_R_saw rm_R_saw.cells rm_R_saw.slots G [.ref (g_r G), .int a0, .int a1, .int a2] M r ((f_R_saw a0 a1 a2 r).map (fun z => (.inl (some (.int z.1)), M, z.2))) := by
  refine Ctr.ofF (own := "CheekTownModel") (by decide +kernel) hfl rfl (Nat.le_of_ble_eq_true rfl) (fun p e s m args below meth c E hno hr hnm hw ls hl => ?_)
  obtain ⟨hx, hb, hts, hown, hml, hTT, -⟩ := id E
  have hl : lv_has ls 4 [(0, .ref (g_r G)), (1, .int a0), (2, .int a1), (3, .int a2)] := hl
  obtain ⟨H, hH⟩ : ∃ H, H = s.heap := ⟨_, rfl⟩
  obtain ⟨locs, hlo⟩ : ∃ L : List Loc, L = [] := ⟨_, rfl⟩
  rw [← hH, ← hlo]
  rw [← hlo] at hw
  replace hw : w_W G M r s H locs := by rw [hH]; exact hw
  have w36 : ∀ (y1 : Int32) (r : Rho) (H : Heap) (locs : List Loc) (ls : Array Slot), w_W G M r s H locs → lv_has ls 4 [(1, .int a0), (2, .int a1)] → W p l e rm_R_saw s m args below meth c H locs 0 0 (PQ G below args s rm_R_saw.cells rm_R_saw.slots (fun z => (.inl (some (.int z.1)), M, z.2)) (f_R_saw_36 a0 a1 a2 y1 r)) (F0 m 36 ls [.int y1, .ref (g_r G + r_off 1)]) := by
    intro y1 r H locs ls hw hl
    unfold f_R_saw_36
    refine lv_bipush (v := 10) hx hb dX12_saw_36 (by decide) ?_
    refine lv_iload_n hx hb dX12_saw_38 rfl (lv_at hl 0 rfl) ?_
    refine lv_imul hx hb dX12_saw_39 ?_
    refine lv_iadd hx hb dX12_saw_40 ?_
    refine lv_iload_n hx hb dX12_saw_41 rfl (lv_at hl 1 rfl) ?_
    refine lv_iadd hx hb dX12_saw_42 ?_
    refine rx_iald E hw on (by decide) dX12_saw_43 (fun v2 => ?_)
    exact p_iret E hw hr (Nat.le_of_ble_eq_true rfl) (Nat.le_of_ble_eq_true rfl) rfl dX12_saw_44
  unfold f_R_saw
  refine lv_aload_n hx hb dX12_saw_0 rfl (lv_at hl 0 rfl) ?_
  refine lv_aload_n hx hb dX12_saw_1 rfl (lv_at hl 0 rfl) ?_
  refine lv_iload_n hx hb dX12_saw_2 rfl (lv_at hl 1 rfl) ?_
  refine lv_iload_n hx hb dX12_saw_3 rfl (lv_at hl 2 rfl) ?_
  refine W_bind fun z1 hz => ?_
  refine w_after (cells1 := 0) (slots1 := 0) (w_runV E kV_R_277 kc_X12_two (t_R_two l hfl G on a0 a1 M r ((fun z => (.inl (some (.int z)), M, r)) z1) (by rw [hz]; rfl)) ⟨Nat.le_of_ble_eq_true rfl, Nat.le_of_ble_eq_true rfl⟩ hw (w_recvR E hw on) rfl hl.1 rfl (Nat.le_of_ble_eq_true rfl) dX12_saw_4 ⟨Nat.le_of_ble_eq_true rfl, Nat.le_of_ble_eq_true rfl⟩) hw rfl (Nat.le_of_ble_eq_true rfl) (Nat.le_of_ble_eq_true rfl) (fun H locs hw => ?_)
  refine W.eq (g2 := F0 m 7 ls [.int z1, .ref (g_r G)]) rfl ?_
  have hw : w_W G M r s H locs := hw
  refine rx_putI E hw on kF_R_56_11 (by decide) kT_11_0 dX12_saw_7 (fun H locs hw => ?_)
  refine lv_aload_n hx hb dX12_saw_10 rfl (lv_at hl 0 rfl) ?_
  refine rx_getI E hw on kF_R_56_11 (by decide) dX12_saw_11 ?_
  refine cx_if_le (tgt := 19) E dX12_saw_14 (by decide) (fun _ => ?_) (fun _ => ?_)
  · refine lv_aload_n hx hb dX12_saw_19 rfl (lv_at hl 0 rfl) ?_
    refine rx_getA E hw on kF_R_7_11 (by decide) dX12_saw_20 ?_
    refine lv_iload_n hx hb dX12_saw_23 rfl (lv_at hl 3 rfl) ?_
    refine cx_if_eq (tgt := 33) E dX12_saw_24 (by decide) (fun _ => ?_) (fun _ => ?_)
    · refine lv_sipush (v := 272) hx hb dX12_saw_33 (by decide) ?_
      exact w36  272 (r_set r 0 z1) _ _ _ hw (lv_sub hl [1, 2] rfl)
    · refine lv_sipush (v := 172) hx hb dX12_saw_27 (by decide) ?_
      refine lv_goto (tgt := 36) hx hb dX12_saw_30 (by decide) ?_
      exact w36  172 (r_set r 0 z1) _ _ _ hw (lv_sub hl [1, 2] rfl)
  · refine lv_iconst (v := 0) hx hb dX12_saw_17 (by decide) ?_
    exact p_iret E hw hr (Nat.le_of_ble_eq_true rfl) (Nat.le_of_ble_eq_true rfl) rfl dX12_saw_18
set_option maxHeartbeats 4000000 in
set_option maxRecDepth 100000 in
theorem t_R_tie (l : Launch) (hfl : l.stackTraces = false) (G : wG) (on : g_on G = true) (a0 : Int32) (a1 : Int32) (M : Mem) (r : Rho) : Ctr l yX12_tie (wWs yX12_tie cX12_tie 3 (some .int)) rm_R_tie rm_R_tie.cells rm_R_tie.slots G [.ref (g_r G), .int a0, .int a1] M r ((f_R_tie a0 a1 r).map (fun z => (.inl (some (.int z.1)), M, z.2))) := by
  refine Ctr.ofF (own := "CheekTownModel") (by decide +kernel) hfl rfl (Nat.le_of_ble_eq_true rfl) (fun p e s m args below meth c E hno hr hnm hw ls hl => ?_)
  obtain ⟨hx, hb, hts, hown, hml, hTT, -⟩ := id E
  have hl : lv_has ls 3 [(0, .ref (g_r G)), (1, .int a0), (2, .int a1)] := hl
  obtain ⟨H, hH⟩ : ∃ H, H = s.heap := ⟨_, rfl⟩
  obtain ⟨locs, hlo⟩ : ∃ L : List Loc, L = [] := ⟨_, rfl⟩
  rw [← hH, ← hlo]
  rw [← hlo] at hw
  replace hw : w_W G M r s H locs := by rw [hH]; exact hw
  have w23 : ∀ (y1 : Int32) (r : Rho) (H : Heap) (locs : List Loc) (ls : Array Slot), w_W G M r s H locs → lv_has ls 3 [(0, .ref (g_r G)), (1, .int a0), (2, .int a1)] → W p l e rm_R_tie s m args below meth c H locs 0 0 (PQ G below args s rm_R_tie.cells rm_R_tie.slots (fun z => (.inl (some (.int z.1)), M, z.2)) (f_R_tie_23 a0 a1 y1 r)) (F0 m 23 ls [.int y1, .ref (g_r G)]) := by
    intro y1 r H locs ls hw hl
    unfold f_R_tie_23
    refine rx_putI E hw on kF_R_56_11 (by decide) kT_11_0 dX12_tie_23 (fun H locs hw => ?_)
    refine lv_aload_n hx hb dX12_tie_26 rfl (lv_at hl 0 rfl) ?_
    refine rx_getI E hw on kF_R_56_11 (by decide) dX12_tie_27 ?_
    refine cx_if_le (tgt := 35) E dX12_tie_30 (by decide) (fun _ => ?_) (fun _ => ?_)
    · refine lv_iload_n hx hb dX12_tie_35 rfl (lv_at hl 2 rfl) ?_
      refine cx_if_eq (tgt := 47) E dX12_tie_36 (by decide) (fun _ => ?_) (fun _ => ?_)
      · refine lv_aload_n hx hb dX12_tie_47 rfl (lv_at hl 0 rfl) ?_
        refine lv_iload_n hx hb dX12_tie_48 rfl (lv_at hl 1 rfl) ?_
        refine W_bind fun z3 hz => ?_
        refine w_after (cells1 := 0) (slots1 := 0) (w_runV E kV_R_63 kc_X12_who (t_R_who l hfl G on a0 M (r_set r 0 y1) ((fun z => (.inl (some (.int z)), M, (r_set r 0 y1))) z3) (by rw [hz]; rfl)) ⟨Nat.le_of_ble_eq_true rfl, Nat.le_of_ble_eq_true rfl⟩ hw (w_recvR E hw on) rfl hl.1 rfl (Nat.le_of_ble_eq_true rfl) dX12_tie_49 ⟨Nat.le_of_ble_eq_true rfl, Nat.le_of_ble_eq_true rfl⟩) hw rfl (Nat.le_of_ble_eq_true rfl) (Nat.le_of_ble_eq_true rfl) (fun H locs hw => ?_)
        refine W.eq (g2 := F0 m 52 ls [.int z3]) rfl ?_
        have hw : w_W G M (r_set r 0 y1) s H locs := hw
        exact p_iret E hw hr (Nat.le_of_ble_eq_true rfl) (Nat.le_of_ble_eq_true rfl) rfl dX12_tie_52
      · refine lv_aload_n hx hb dX12_tie_39 rfl (lv_at hl 0 rfl) ?_
        refine lv_iload_n hx hb dX12_tie_40 rfl (lv_at hl 1 rfl) ?_
        refine W_bind fun z4 hz => ?_
        refine w_after (cells1 := 0) (slots1 := 0) (w_runV E kV_R_67 kc_X12_whom (t_R_whom l hfl G on a0 M (r_set r 0 y1) ((fun z => (.inl (some (.int z)), M, (r_set r 0 y1))) z4) (by rw [hz]; rfl)) ⟨Nat.le_of_ble_eq_true rfl, Nat.le_of_ble_eq_true rfl⟩ hw (w_recvR E hw on) rfl hl.1 rfl (Nat.le_of_ble_eq_true rfl) dX12_tie_41 ⟨Nat.le_of_ble_eq_true rfl, Nat.le_of_ble_eq_true rfl⟩) hw rfl (Nat.le_of_ble_eq_true rfl) (Nat.le_of_ble_eq_true rfl) (fun H locs hw => ?_)
        refine W.eq (g2 := F0 m 44 ls [.int z4]) rfl ?_
        have hw : w_W G M (r_set r 0 y1) s H locs := hw
        refine lv_goto (tgt := 52) hx hb dX12_tie_44 (by decide) ?_
        exact p_iret E hw hr (Nat.le_of_ble_eq_true rfl) (Nat.le_of_ble_eq_true rfl) rfl dX12_tie_52
    · refine lv_iconst (v := 0) hx hb dX12_tie_33 (by decide) ?_
      exact p_iret E hw hr (Nat.le_of_ble_eq_true rfl) (Nat.le_of_ble_eq_true rfl) rfl dX12_tie_34
  unfold f_R_tie
  refine lv_aload_n hx hb dX12_tie_0 rfl (lv_at hl 0 rfl) ?_
  refine lv_iload_n hx hb dX12_tie_1 rfl (lv_at hl 1 rfl) ?_
  refine lv_iconst (v := 0) hx hb dX12_tie_2 (by decide) ?_
  refine lv_aload_n hx hb dX12_tie_3 rfl (lv_at hl 0 rfl) ?_
  refine rx_getA E hw on kF_R_7_11 (by decide) dX12_tie_4 ?_
  refine lv_bipush (v := 6) hx hb dX12_tie_7 (by decide) ?_
  refine rx_iald E hw on (by decide) dX12_tie_9 (fun v1 => ?_)
  refine lv_iconst (v := 1) hx hb dX12_tie_10 (by decide) ?_
  refine lv_isub hx hb dX12_tie_11 ?_
  refine W_bind fun z2 hz => ?_
  refine w_after (cells1 := 0) (slots1 := 0) (w_runS E kS_R_59 kc_X12_isIn (t_R_isIn l hfl G a0 0 (v1 - 1) M r ((fun z => (.inl (some (.int z)), M, r)) z2) (by rw [hz]; rfl)) ⟨Nat.le_of_ble_eq_true rfl, Nat.le_of_ble_eq_true rfl⟩ hw rfl hl.1 rfl (Nat.le_of_ble_eq_true rfl) dX12_tie_12 ⟨Nat.le_of_ble_eq_true rfl, Nat.le_of_ble_eq_true rfl⟩) hw rfl (Nat.le_of_ble_eq_true rfl) (Nat.le_of_ble_eq_true rfl) (fun H locs hw => ?_)
  refine W.eq (g2 := F0 m 15 ls [.int z2, .ref (g_r G)]) rfl ?_
  have hw : w_W G M r s H locs := hw
  refine cx_if_ne (tgt := 22) E dX12_tie_15 (by decide) (fun _ => ?_) (fun _ => ?_)
  · refine lv_iconst (v := 0) hx hb dX12_tie_22 (by decide) ?_
    exact w23  0 r _ _ _ hw (lv_sub hl [0, 1, 2] rfl)
  · refine lv_iconst (v := 1) hx hb dX12_tie_18 (by decide) ?_
    refine lv_goto (tgt := 23) hx hb dX12_tie_19 (by decide) ?_
    exact w23  1 r _ _ _ hw (lv_sub hl [0, 1, 2] rfl)
set_option maxHeartbeats 4000000 in
set_option maxRecDepth 100000 in
theorem t_R_beginning (l : Launch) (hfl : l.stackTraces = false) (G : wG) (on : g_on G = true) (N : Nat) (a0 : Int32) (a1 : Int32) (M : Mem) (r : Rho) : Ctr l yX12_beginning (wWs yX12_beginning cX12_beginning 5 (some .int)) rm_R_beginning rm_R_beginning.cells rm_R_beginning.slots G [.ref (g_r G), .int a0, .int a1] M r ((f_R_beginning N a0 a1 r).map (fun z => (.inl (some (.int z.1)), M, z.2))) := by
  refine Ctr.ofF (own := "CheekTownModel") (by decide +kernel) hfl rfl (Nat.le_of_ble_eq_true rfl) (fun p e s m args below meth c E hno hr hnm hw ls hl => ?_)
  obtain ⟨hx, hb, hts, hown, hml, hTT, -⟩ := id E
  have hl : lv_has ls 5 [(0, .ref (g_r G)), (1, .int a0), (2, .int a1)] := hl
  obtain ⟨H, hH⟩ : ∃ H, H = s.heap := ⟨_, rfl⟩
  obtain ⟨locs, hlo⟩ : ∃ L : List Loc, L = [] := ⟨_, rfl⟩
  rw [← hH, ← hlo]
  rw [← hlo] at hw
  replace hw : w_W G M r s H locs := by rw [hH]; exact hw
  have w184 : ∀ (r : Rho) (H : Heap) (locs : List Loc) (ls : Array Slot), w_W G M r s H locs → lv_has ls 5 [(0, .ref (g_r G)), (1, .int a0), (2, .int a1)] → W p l e rm_R_beginning s m args below meth c H locs 0 0 (PQ G below args s rm_R_beginning.cells rm_R_beginning.slots (fun z => (.inl (some (.int z.1)), M, z.2)) (f_R_beginning_184 N a0 a1 r)) (F0 m 184 ls []) := by
    intro r H locs ls hw hl
    unfold f_R_beginning_184
    refine lv_aload_n hx hb dX12_beginning_184 rfl (lv_at hl 0 rfl) ?_
    refine rx_getI E hw on kF_R_254_11 (by decide) dX12_beginning_185 ?_
    refine lv_iconst (v := (-1)) hx hb dX12_beginning_188 (by decide) ?_
    refine cx_icmp_eq (tgt := 197) E dX12_beginning_189 (by decide) (fun _ => ?_) (fun _ => ?_)
    · refine lv_aload_n hx hb dX12_beginning_197 rfl (lv_at hl 0 rfl) ?_
      refine rx_getA E hw on kF_R_7_11 (by decide) dX12_beginning_198 ?_
      refine lv_sipush (v := 272) hx hb dX12_beginning_201 (by decide) ?_
      refine lv_bipush (v := 10) hx hb dX12_beginning_204 (by decide) ?_
      refine lv_iload_n hx hb dX12_beginning_206 rfl (lv_at hl 1 rfl) ?_
      refine lv_imul hx hb dX12_beginning_207 ?_
      refine lv_iadd hx hb dX12_beginning_208 ?_
      refine lv_iload_n hx hb dX12_beginning_209 rfl (lv_at hl 2 rfl) ?_
      refine lv_iadd hx hb dX12_beginning_210 ?_
      refine rx_iald E hw on (by decide) dX12_beginning_211 (fun v20 => ?_)
      refine lv_istore_n (lv' := [(3, .int v20), (0, .ref (g_r G)), (1, .int a0), (2, .int a1)]) hx hb dX12_beginning_212 rfl hl (by decide) rfl (fun ls hl => ?_)
      refine lv_iload_n hx hb dX12_beginning_213 rfl (lv_at hl 0 rfl) ?_
      refine lv_iconst (v := (-1)) hx hb dX12_beginning_214 (by decide) ?_
      refine cx_icmp_ne (tgt := 227) E dX12_beginning_215 (by decide) (fun _ => ?_) (fun _ => ?_)
      · refine lv_iload_n hx hb dX12_beginning_227 rfl (lv_at hl 0 rfl) ?_
        exact p_iret E hw hr (Nat.le_of_ble_eq_true rfl) (Nat.le_of_ble_eq_true rfl) rfl dX12_beginning_228
      · refine lv_aload_n hx hb dX12_beginning_218 rfl (lv_at hl 1 rfl) ?_
        refine lv_iload_n hx hb dX12_beginning_219 rfl (lv_at hl 2 rfl) ?_
        refine lv_iconst (v := 1) hx hb dX12_beginning_220 (by decide) ?_
        refine W_bind fun z21 hz => ?_
        refine w_after (cells1 := 0) (slots1 := 0) (w_runV E kV_R_257 kc_X12_of (t_R_of l hfl G on a0 1 M r ((fun z => (.inl (some (.int z)), M, r)) z21) (by rw [hz]; rfl)) ⟨Nat.le_of_ble_eq_true rfl, Nat.le_of_ble_eq_true rfl⟩ hw (w_recvR E hw on) rfl hl.1 rfl (Nat.le_of_ble_eq_true rfl) dX12_beginning_221 ⟨Nat.le_of_ble_eq_true rfl, Nat.le_of_ble_eq_true rfl⟩) hw rfl (Nat.le_of_ble_eq_true rfl) (Nat.le_of_ble_eq_true rfl) (fun H locs hw => ?_)
        refine W.eq (g2 := F0 m 224 ls [.int z21]) rfl ?_
        have hw : w_W G M r s H locs := hw
        refine lv_goto (tgt := 228) hx hb dX12_beginning_224 (by decide) ?_
        exact p_iret E hw hr (Nat.le_of_ble_eq_true rfl) (Nat.le_of_ble_eq_true rfl) rfl dX12_beginning_228
    · refine lv_aload_n hx hb dX12_beginning_192 rfl (lv_at hl 0 rfl) ?_
      refine rx_getI E hw on kF_R_254_11 (by decide) dX12_beginning_193 ?_
      exact p_iret E hw hr (Nat.le_of_ble_eq_true rfl) (Nat.le_of_ble_eq_true rfl) rfl dX12_beginning_196
  have w118 : ∀ (y1 : Int32) (r : Rho) (H : Heap) (locs : List Loc) (ls : Array Slot), w_W G M r s H locs → lv_has ls 5 [(0, .ref (g_r G)), (1, .int a0), (2, .int a1)] → W p l e rm_R_beginning s m args below meth c H locs 0 0 (PQ G below args s rm_R_beginning.cells rm_R_beginning.slots (fun z => (.inl (some (.int z.1)), M, z.2)) (f_R_beginning_118 N a0 a1 y1 r)) (F0 m 118 ls [.int y1, .ref (g_r G)]) := by
    intro y1 r H locs ls hw hl
    unfold f_R_beginning_118
    refine rx_putZ E hw on kF_R_227_11 (by decide) kT_11_16 dX12_beginning_118 (fun r16 H locs hw => ?_)
    refine lv_aload_n hx hb dX12_beginning_121 rfl (lv_at hl 0 rfl) ?_
    refine lv_iconst (v := (-1)) hx hb dX12_beginning_122 (by decide) ?_
    refine rx_putI E hw on kF_R_254_11 (by decide) kT_11_17 dX12_beginning_123 (fun H locs hw => ?_)
    refine lv_aload_n hx hb dX12_beginning_126 rfl (lv_at hl 0 rfl) ?_
    refine rx_getA E hw on kF_R_7_11 (by decide) dX12_beginning_127 ?_
    refine lv_iconst (v := 1) hx hb dX12_beginning_130 (by decide) ?_
    refine rx_iald E hw on (by decide) dX12_beginning_131 (fun v17 => ?_)
    refine cx_if_le (tgt := 184) E dX12_beginning_132 (by decide) (fun _ => ?_) (fun _ => ?_)
    · exact w184  (r_set r16 17 (-1)) _ _ _ hw (lv_sub hl [0, 1, 2] rfl)
    · refine lv_aload_n hx hb dX12_beginning_135 rfl (lv_at hl 0 rfl) ?_
      refine rx_getI E hw on kF_R_25_11 (by decide) dX12_beginning_136 ?_
      refine lv_istore_n (lv' := [(3, .int ((r_set r16 17 (-1)).1 12)), (0, .ref (g_r G)), (1, .int a0), (2, .int a1)]) hx hb dX12_beginning_139 rfl hl (by decide) rfl (fun ls hl => ?_)
      refine lv_aload_n hx hb dX12_beginning_140 rfl (lv_at hl 1 rfl) ?_
      refine lv_iconst (v := (-1)) hx hb dX12_beginning_141 (by decide) ?_
      refine rx_putI E hw on kF_R_25_11 (by decide) kT_11_12 dX12_beginning_142 (fun H locs hw => ?_)
      refine lv_aload_n hx hb dX12_beginning_145 rfl (lv_at hl 1 rfl) ?_
      refine lv_sipush (v := 900) hx hb dX12_beginning_146 (by decide) ?_
      refine rx_putI E hw on kF_R_76_11 (by decide) kT_11_9 dX12_beginning_149 (fun H locs hw => ?_)
      refine lv_aload_n hx hb dX12_beginning_152 rfl (lv_at hl 1 rfl) ?_
      refine lv_aload_n hx hb dX12_beginning_153 rfl (lv_at hl 1 rfl) ?_
      refine rx_getA E hw on kF_R_7_11 (by decide) dX12_beginning_154 ?_
      refine lv_iconst (v := 2) hx hb dX12_beginning_157 (by decide) ?_
      refine rx_iald E hw on (by decide) dX12_beginning_158 (fun v18 => ?_)
      refine rx_putI E hw on kF_R_82_11 (by decide) kT_11_10 dX12_beginning_159 (fun H locs hw => ?_)
      refine lv_aload_n hx hb dX12_beginning_162 rfl (lv_at hl 1 rfl) ?_
      refine lv_iconst (v := 0) hx hb dX12_beginning_163 (by decide) ?_
      refine rx_putI E hw on kF_R_79_11 (by decide) kT_11_11 dX12_beginning_164 (fun H locs hw => ?_)
      refine lv_aload_n hx hb dX12_beginning_167 rfl (lv_at hl 1 rfl) ?_
      refine lv_iconst (v := 0) hx hb dX12_beginning_168 (by decide) ?_
      refine rx_putI E hw on kF_R_184_11 (by decide) kT_11_13 dX12_beginning_169 (fun H locs hw => ?_)
      refine lv_aload_n hx hb dX12_beginning_172 rfl (lv_at hl 1 rfl) ?_
      refine lv_iconst (v := 1) hx hb dX12_beginning_173 (by decide) ?_
      refine W_bind fun z19 hz => ?_
      refine w_after (cells1 := 0) (slots1 := 0) (w_runV E kV_R_200 kc_X12_read (t_R_read l hfl G on N 1 M (r_set (r_set (r_set (r_set (r_set (r_set r16 17 (-1)) 12 (-1)) 9 900) 10 v18) 11 0) 13 0) ((fun z => (.inl (some (.int z.1)), M, z.2)) z19) (by rw [hz]; rfl)) ⟨Nat.le_of_ble_eq_true rfl, Nat.le_of_ble_eq_true rfl⟩ hw (w_recvR E hw on) rfl hl.1 rfl (Nat.le_of_ble_eq_true rfl) dX12_beginning_174 ⟨Nat.le_of_ble_eq_true rfl, Nat.le_of_ble_eq_true rfl⟩) hw rfl (Nat.le_of_ble_eq_true rfl) (Nat.le_of_ble_eq_true rfl) (fun H locs hw => ?_)
      refine W.eq (g2 := F0 m 177 ls [.int z19.1]) rfl ?_
      have hw : w_W G M z19.2 s H locs := hw
      refine lv_istore (lv' := [(4, .int z19.1), (3, .int ((r_set r16 17 (-1)).1 12)), (0, .ref (g_r G)), (1, .int a0), (2, .int a1)]) hx hb dX12_beginning_177 hl (by decide) rfl (fun ls hl => ?_)
      refine lv_aload_n hx hb dX12_beginning_179 rfl (lv_at hl 2 rfl) ?_
      refine lv_iload_n hx hb dX12_beginning_180 rfl (lv_at hl 1 rfl) ?_
      refine rx_putI E hw on kF_R_25_11 (by decide) kT_11_12 dX12_beginning_181 (fun H locs hw => ?_)
      exact w184  (r_set z19.2 12 ((r_set r16 17 (-1)).1 12)) _ _ _ hw (lv_sub hl [2, 3, 4] rfl)
  have w93 : ∀ (y1 : Int32) (r : Rho) (H : Heap) (locs : List Loc) (ls : Array Slot), w_W G M r s H locs → lv_has ls 5 [(0, .ref (g_r G)), (1, .int a0), (2, .int a1)] → W p l e rm_R_beginning s m args below meth c H locs 0 0 (PQ G below args s rm_R_beginning.cells rm_R_beginning.slots (fun z => (.inl (some (.int z.1)), M, z.2)) (f_R_beginning_93 N a0 a1 y1 r)) (F0 m 93 ls [.int y1, .ref (g_r G)]) := by
    intro y1 r H locs ls hw hl
    unfold f_R_beginning_93
    refine rx_putZ E hw on kF_R_223_11 (by decide) kT_11_15 dX12_beginning_93 (fun r13 H locs hw => ?_)
    refine lv_aload_n hx hb dX12_beginning_96 rfl (lv_at hl 0 rfl) ?_
    refine lv_aload_n hx hb dX12_beginning_97 rfl (lv_at hl 0 rfl) ?_
    refine lv_iload_n hx hb dX12_beginning_98 rfl (lv_at hl 1 rfl) ?_
    refine lv_iconst (v := 4) hx hb dX12_beginning_99 (by decide) ?_
    refine W_bind fun z14 hz => ?_
    refine w_after (cells1 := 0) (slots1 := 0) (w_runV E kV_R_257 kc_X12_of (t_R_of l hfl G on a0 4 M r13 ((fun z => (.inl (some (.int z)), M, r13)) z14) (by rw [hz]; rfl)) ⟨Nat.le_of_ble_eq_true rfl, Nat.le_of_ble_eq_true rfl⟩ hw (w_recvR E hw on) rfl hl.1 rfl (Nat.le_of_ble_eq_true rfl) dX12_beginning_100 ⟨Nat.le_of_ble_eq_true rfl, Nat.le_of_ble_eq_true rfl⟩) hw rfl (Nat.le_of_ble_eq_true rfl) (Nat.le_of_ble_eq_true rfl) (fun H locs hw => ?_)
    refine W.eq (g2 := F0 m 103 ls [.int z14, .ref (g_r G)]) rfl ?_
    have hw : w_W G M r13 s H locs := hw
    refine lv_aload_n hx hb dX12_beginning_103 rfl (lv_at hl 0 rfl) ?_
    refine lv_iload_n hx hb dX12_beginning_104 rfl (lv_at hl 2 rfl) ?_
    refine lv_iconst (v := 4) hx hb dX12_beginning_105 (by decide) ?_
    refine W_bind fun z15 hz => ?_
    refine w_after (cells1 := 0) (slots1 := 0) (w_runV E kV_R_257 kc_X12_of (t_R_of l hfl G on a1 4 M r13 ((fun z => (.inl (some (.int z)), M, r13)) z15) (by rw [hz]; rfl)) ⟨Nat.le_of_ble_eq_true rfl, Nat.le_of_ble_eq_true rfl⟩ hw (w_recvR E hw on) rfl hl.1 rfl (Nat.le_of_ble_eq_true rfl) dX12_beginning_106 ⟨Nat.le_of_ble_eq_true rfl, Nat.le_of_ble_eq_true rfl⟩) hw rfl (Nat.le_of_ble_eq_true rfl) (Nat.le_of_ble_eq_true rfl) (fun H locs hw => ?_)
    refine W.eq (g2 := F0 m 109 ls [.int z15, .int z14, .ref (g_r G)]) rfl ?_
    have hw : w_W G M r13 s H locs := hw
    refine lv_iadd hx hb dX12_beginning_109 ?_
    refine cx_if_le (tgt := 117) E dX12_beginning_110 (by decide) (fun _ => ?_) (fun _ => ?_)
    · refine lv_iconst (v := 0) hx hb dX12_beginning_117 (by decide) ?_
      exact w118  0 r13 _ _ _ hw (lv_sub hl [0, 1, 2] rfl)
    · refine lv_iconst (v := 1) hx hb dX12_beginning_113 (by decide) ?_
      refine lv_goto (tgt := 118) hx hb dX12_beginning_114 (by decide) ?_
      exact w118  1 r13 _ _ _ hw (lv_sub hl [0, 1, 2] rfl)
  unfold f_R_beginning
  refine lv_aload_n hx hb dX12_beginning_0 rfl (lv_at hl 0 rfl) ?_
  refine rx_getA E hw on kF_R_29_11 (by decide) dX12_beginning_1 ?_
  refine lv_iconst (v := 0) hx hb dX12_beginning_4 (by decide) ?_
  refine lv_iload_n hx hb dX12_beginning_5 rfl (lv_at hl 1 rfl) ?_
  refine rx_iast E hw on (by decide) dX12_beginning_6 (fun r1 H locs hw => ?_)
  refine lv_aload_n hx hb dX12_beginning_7 rfl (lv_at hl 0 rfl) ?_
  refine rx_getA E hw on kF_R_29_11 (by decide) dX12_beginning_8 ?_
  refine lv_iconst (v := 1) hx hb dX12_beginning_11 (by decide) ?_
  refine lv_iload_n hx hb dX12_beginning_12 rfl (lv_at hl 2 rfl) ?_
  refine rx_iast E hw on (by decide) dX12_beginning_13 (fun r2 H locs hw => ?_)
  refine lv_aload_n hx hb dX12_beginning_14 rfl (lv_at hl 0 rfl) ?_
  refine rx_getA E hw on kF_R_29_11 (by decide) dX12_beginning_15 ?_
  refine lv_iconst (v := 2) hx hb dX12_beginning_18 (by decide) ?_
  refine lv_aload_n hx hb dX12_beginning_19 rfl (lv_at hl 0 rfl) ?_
  refine lv_iload_n hx hb dX12_beginning_20 rfl (lv_at hl 1 rfl) ?_
  refine lv_iconst (v := 2) hx hb dX12_beginning_21 (by decide) ?_
  refine W_bind fun z3 hz => ?_
  refine w_after (cells1 := 0) (slots1 := 0) (w_runV E kV_R_257 kc_X12_of (t_R_of l hfl G on a0 2 M r2 ((fun z => (.inl (some (.int z)), M, r2)) z3) (by rw [hz]; rfl)) ⟨Nat.le_of_ble_eq_true rfl, Nat.le_of_ble_eq_true rfl⟩ hw (w_recvR E hw on) rfl hl.1 rfl (Nat.le_of_ble_eq_true rfl) dX12_beginning_22 ⟨Nat.le_of_ble_eq_true rfl, Nat.le_of_ble_eq_true rfl⟩) hw rfl (Nat.le_of_ble_eq_true rfl) (Nat.le_of_ble_eq_true rfl) (fun H locs hw => ?_)
  refine W.eq (g2 := F0 m 25 ls [.int z3, .int 2, .ref (g_r G + r_off 14)]) rfl ?_
  have hw : w_W G M r2 s H locs := hw
  refine rx_iast E hw on (by decide) dX12_beginning_25 (fun r4 H locs hw => ?_)
  refine lv_aload_n hx hb dX12_beginning_26 rfl (lv_at hl 0 rfl) ?_
  refine rx_getA E hw on kF_R_29_11 (by decide) dX12_beginning_27 ?_
  refine lv_iconst (v := 3) hx hb dX12_beginning_30 (by decide) ?_
  refine lv_aload_n hx hb dX12_beginning_31 rfl (lv_at hl 0 rfl) ?_
  refine lv_iload_n hx hb dX12_beginning_32 rfl (lv_at hl 2 rfl) ?_
  refine lv_iconst (v := 2) hx hb dX12_beginning_33 (by decide) ?_
  refine W_bind fun z5 hz => ?_
  refine w_after (cells1 := 0) (slots1 := 0) (w_runV E kV_R_257 kc_X12_of (t_R_of l hfl G on a1 2 M r4 ((fun z => (.inl (some (.int z)), M, r4)) z5) (by rw [hz]; rfl)) ⟨Nat.le_of_ble_eq_true rfl, Nat.le_of_ble_eq_true rfl⟩ hw (w_recvR E hw on) rfl hl.1 rfl (Nat.le_of_ble_eq_true rfl) dX12_beginning_34 ⟨Nat.le_of_ble_eq_true rfl, Nat.le_of_ble_eq_true rfl⟩) hw rfl (Nat.le_of_ble_eq_true rfl) (Nat.le_of_ble_eq_true rfl) (fun H locs hw => ?_)
  refine W.eq (g2 := F0 m 37 ls [.int z5, .int 3, .ref (g_r G + r_off 14)]) rfl ?_
  have hw : w_W G M r4 s H locs := hw
  refine rx_iast E hw on (by decide) dX12_beginning_37 (fun r6 H locs hw => ?_)
  refine lv_aload_n hx hb dX12_beginning_38 rfl (lv_at hl 0 rfl) ?_
  refine rx_getA E hw on kF_R_29_11 (by decide) dX12_beginning_39 ?_
  refine lv_iconst (v := 4) hx hb dX12_beginning_42 (by decide) ?_
  refine lv_aload_n hx hb dX12_beginning_43 rfl (lv_at hl 0 rfl) ?_
  refine rx_getA E hw on kF_R_7_11 (by decide) dX12_beginning_44 ?_
  refine lv_sipush (v := 172) hx hb dX12_beginning_47 (by decide) ?_
  refine lv_bipush (v := 10) hx hb dX12_beginning_50 (by decide) ?_
  refine lv_iload_n hx hb dX12_beginning_52 rfl (lv_at hl 1 rfl) ?_
  refine lv_imul hx hb dX12_beginning_53 ?_
  refine lv_iadd hx hb dX12_beginning_54 ?_
  refine lv_iload_n hx hb dX12_beginning_55 rfl (lv_at hl 2 rfl) ?_
  refine lv_iadd hx hb dX12_beginning_56 ?_
  refine rx_iald E hw on (by decide) dX12_beginning_57 (fun v7 => ?_)
  refine rx_iast E hw on (by decide) dX12_beginning_58 (fun r8 H locs hw => ?_)
  refine lv_aload_n hx hb dX12_beginning_59 rfl (lv_at hl 0 rfl) ?_
  refine rx_getA E hw on kF_R_29_11 (by decide) dX12_beginning_60 ?_
  refine lv_iconst (v := 5) hx hb dX12_beginning_63 (by decide) ?_
  refine lv_aload_n hx hb dX12_beginning_64 rfl (lv_at hl 0 rfl) ?_
  refine rx_getA E hw on kF_R_7_11 (by decide) dX12_beginning_65 ?_
  refine lv_bipush (v := 7) hx hb dX12_beginning_68 (by decide) ?_
  refine rx_iald E hw on (by decide) dX12_beginning_70 (fun v9 => ?_)
  refine rx_iast E hw on (by decide) dX12_beginning_71 (fun r10 H locs hw => ?_)
  refine lv_aload_n hx hb dX12_beginning_72 rfl (lv_at hl 0 rfl) ?_
  refine lv_aload_n hx hb dX12_beginning_73 rfl (lv_at hl 0 rfl) ?_
  refine lv_iload_n hx hb dX12_beginning_74 rfl (lv_at hl 1 rfl) ?_
  refine lv_iconst (v := 0) hx hb dX12_beginning_75 (by decide) ?_
  refine W_bind fun z11 hz => ?_
  refine w_after (cells1 := 0) (slots1 := 0) (w_runV E kV_R_257 kc_X12_of (t_R_of l hfl G on a0 0 M r10 ((fun z => (.inl (some (.int z)), M, r10)) z11) (by rw [hz]; rfl)) ⟨Nat.le_of_ble_eq_true rfl, Nat.le_of_ble_eq_true rfl⟩ hw (w_recvR E hw on) rfl hl.1 rfl (Nat.le_of_ble_eq_true rfl) dX12_beginning_76 ⟨Nat.le_of_ble_eq_true rfl, Nat.le_of_ble_eq_true rfl⟩) hw rfl (Nat.le_of_ble_eq_true rfl) (Nat.le_of_ble_eq_true rfl) (fun H locs hw => ?_)
  refine W.eq (g2 := F0 m 79 ls [.int z11, .ref (g_r G)]) rfl ?_
  have hw : w_W G M r10 s H locs := hw
  refine lv_aload_n hx hb dX12_beginning_79 rfl (lv_at hl 0 rfl) ?_
  refine lv_iload_n hx hb dX12_beginning_80 rfl (lv_at hl 2 rfl) ?_
  refine lv_iconst (v := 0) hx hb dX12_beginning_81 (by decide) ?_
  refine W_bind fun z12 hz => ?_
  refine w_after (cells1 := 0) (slots1 := 0) (w_runV E kV_R_257 kc_X12_of (t_R_of l hfl G on a1 0 M r10 ((fun z => (.inl (some (.int z)), M, r10)) z12) (by rw [hz]; rfl)) ⟨Nat.le_of_ble_eq_true rfl, Nat.le_of_ble_eq_true rfl⟩ hw (w_recvR E hw on) rfl hl.1 rfl (Nat.le_of_ble_eq_true rfl) dX12_beginning_82 ⟨Nat.le_of_ble_eq_true rfl, Nat.le_of_ble_eq_true rfl⟩) hw rfl (Nat.le_of_ble_eq_true rfl) (Nat.le_of_ble_eq_true rfl) (fun H locs hw => ?_)
  refine W.eq (g2 := F0 m 85 ls [.int z12, .int z11, .ref (g_r G)]) rfl ?_
  have hw : w_W G M r10 s H locs := hw
  refine cx_icmp_ne (tgt := 92) E dX12_beginning_85 (by decide) (fun _ => ?_) (fun _ => ?_)
  · refine lv_iconst (v := 0) hx hb dX12_beginning_92 (by decide) ?_
    exact w93  0 r10 _ _ _ hw (lv_sub hl [0, 1, 2] rfl)
  · refine lv_iconst (v := 1) hx hb dX12_beginning_88 (by decide) ?_
    refine lv_goto (tgt := 93) hx hb dX12_beginning_89 (by decide) ?_
    exact w93  1 r10 _ _ _ hw (lv_sub hl [0, 1, 2] rfl)

