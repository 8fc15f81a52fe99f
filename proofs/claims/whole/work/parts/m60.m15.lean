set_option maxHeartbeats 4000000 in
set_option maxRecDepth 100000 in
theorem t_R_from (l : Launch) (hfl : l.stackTraces = false) (G : wG) (on : g_on G = true) (N : Nat) (a0 : Int32) (M : Mem) (r : Rho) : Ctr l yX12_from (wWs yX12_from cX12_from 7 (some .int)) rm_R_from rm_R_from.cells rm_R_from.slots G [.ref (g_r G), .int a0] M r ((f_R_from N a0 r).map (fun z => (.inl (some (.int z.1)), M, z.2))) := by
  refine Ctr.ofF (own := "CheekTownModel") (by decide +kernel) hfl rfl (Nat.le_of_ble_eq_true rfl) (fun p e s m args below meth c E hno hr hnm hw ls hl => ?_)
  obtain ⟨hx, hb, hts, hown, hml, hTT, -⟩ := id E
  have hl : lv_has ls 7 [(0, .ref (g_r G)), (1, .int a0)] := hl
  obtain ⟨H, hH⟩ : ∃ H, H = s.heap := ⟨_, rfl⟩
  obtain ⟨locs, hlo⟩ : ∃ L : List Loc, L = [] := ⟨_, rfl⟩
  rw [← hH, ← hlo]
  rw [← hlo] at hw
  replace hw : w_W G M r s H locs := by rw [hH]; exact hw
  have w162 : ∀ (k82 : Int32 → Int32 → Int32 → Int32 → Rho → Option (Int32 × Rho)) (hk82 : ∀ (x2 : Int32) (x4 : Int32) (x5 : Int32) (x6 : Int32) (r : Rho) (H : Heap) (locs : List Loc) (ls : Array Slot), w_W G M r s H locs → lv_has ls 7 [(0, .ref (g_r G)), (1, .int a0), (2, .int x2), (4, .int x4), (5, .int x5), (6, .int x6)] → W p l e rm_R_from s m args below meth c H locs 0 0 (PQ G below args s rm_R_from.cells rm_R_from.slots (fun z => (.inl (some (.int z.1)), M, z.2)) (k82 x2 x4 x5 x6 r)) (F0 m 82 ls [])) (x2 : Int32) (x4 : Int32) (x6 : Int32) (r : Rho) (H : Heap) (locs : List Loc) (ls : Array Slot), w_W G M r s H locs → lv_has ls 7 [(0, .ref (g_r G)), (1, .int a0), (2, .int x2), (4, .int x4), (6, .int x6)] → W p l e rm_R_from s m args below meth c H locs 0 0 (PQ G below args s rm_R_from.cells rm_R_from.slots (fun z => (.inl (some (.int z.1)), M, z.2)) (f_R_from_162 N a0 k82 x2 x4 x6 r)) (F0 m 162 ls []) := by
    intro k82 hk82 x2 x4 x6 r H locs ls hw hl
    unfold f_R_from_162
    refine lv_iload hx hb dX12_from_162 (lv_at hl 4 rfl) ?_
    refine lv_istore (lv' := [(5, .int x6), (0, .ref (g_r G)), (1, .int a0), (2, .int x2), (4, .int x4), (6, .int x6)]) hx hb dX12_from_164 hl (by decide) rfl (fun ls hl => ?_)
    refine lv_iinc (v := x6 + 1) (lv' := [(6, .int (x6 + 1)), (5, .int x6), (0, .ref (g_r G)), (1, .int a0), (2, .int x2), (4, .int x4)]) hx hb dX12_from_166 hl (k := 5) rfl rfl (by decide) rfl (fun ls hl => ?_)
    refine lv_goto (tgt := 82) hx hb dX12_from_169 (by decide) ?_
    exact hk82 x2 x4 x6 (x6 + 1) r _ _ _ hw (lv_sub hl [2, 3, 4, 5, 1, 0] rfl)
  have w82 : ∀ (n : Nat) (x2 : Int32) (x4 : Int32) (x5 : Int32) (x6 : Int32) (r : Rho) (H : Heap) (locs : List Loc) (ls : Array Slot), w_W G M r s H locs → lv_has ls 7 [(0, .ref (g_r G)), (1, .int a0), (2, .int x2), (4, .int x4), (5, .int x5), (6, .int x6)] → W p l e rm_R_from s m args below meth c H locs 0 0 (PQ G below args s rm_R_from.cells rm_R_from.slots (fun z => (.inl (some (.int z.1)), M, z.2)) (f_R_from_82 N a0 n x2 x4 x5 x6 r)) (F0 m 82 ls []) := by
    intro n
    induction n with
    | zero => intros; exact W_none
    | succ n ih =>
      intro x2 x4 x5 x6 r H locs ls hw hl
      rw [f_R_from_82]
      refine lv_iload hx hb dX12_from_82 (lv_at hl 5 rfl) ?_
      refine lv_aload_n hx hb dX12_from_84 rfl (lv_at hl 0 rfl) ?_
      refine rx_getA E hw on kF_R_7_11 (by decide) dX12_from_85 ?_
      refine lv_iconst (v := 3) hx hb dX12_from_88 (by decide) ?_
      refine rx_iald E hw on (by decide) dX12_from_89 (fun v3 => ?_)
      refine cx_icmp_ge (tgt := 172) E dX12_from_90 (by decide) (fun _ => ?_) (fun _ => ?_)
      · refine lv_iload_n hx hb dX12_from_172 rfl (lv_at hl 1 rfl) ?_
        refine cx_if_eq (tgt := 181) E dX12_from_173 (by decide) (fun _ => ?_) (fun _ => ?_)
        · refine lv_iload hx hb dX12_from_181 (lv_at hl 3 rfl) ?_
          exact p_iret E hw hr (Nat.le_of_ble_eq_true rfl) (Nat.le_of_ble_eq_true rfl) rfl dX12_from_183
        · refine lv_iload hx hb dX12_from_176 (lv_at hl 4 rfl) ?_
          refine lv_goto (tgt := 183) hx hb dX12_from_178 (by decide) ?_
          exact p_iret E hw hr (Nat.le_of_ble_eq_true rfl) (Nat.le_of_ble_eq_true rfl) rfl dX12_from_183
      · refine lv_aload_n hx hb dX12_from_93 rfl (lv_at hl 0 rfl) ?_
        refine lv_iload hx hb dX12_from_94 (lv_at hl 5 rfl) ?_
        refine lv_iload_n hx hb dX12_from_96 rfl (lv_at hl 2 rfl) ?_
        refine lv_iconst (v := 0) hx hb dX12_from_97 (by decide) ?_
        refine W_bind fun z4 hz => ?_
        refine w_after (cells1 := 0) (slots1 := 0) (w_runV E kV_R_317 kc_X12_likely (t_R_likely l hfl G on N x6 x2 0 M r ((fun z => (.inl (some (.long z)), M, r)) z4) (by rw [hz]; rfl)) ⟨Nat.le_of_ble_eq_true rfl, Nat.le_of_ble_eq_true rfl⟩ hw (w_recvR E hw on) rfl hl.1 rfl (Nat.le_of_ble_eq_true rfl) dX12_from_98 ⟨Nat.le_of_ble_eq_true rfl, Nat.le_of_ble_eq_true rfl⟩) hw rfl (Nat.le_of_ble_eq_true rfl) (Nat.le_of_ble_eq_true rfl) (fun H locs hw => ?_)
        refine W.eq (g2 := F0 m 101 ls [.long z4]) rfl ?_
        have hw : w_W G M r s H locs := hw
        refine lv_lconst (v := 0) hx hb dX12_from_101 (by decide) ?_
        refine W.lcmp hx hb dX12_from_102 ?_
        refine cx_if_ne (tgt := 109) E dX12_from_103 (by decide) (fun _ => ?_) (fun _ => ?_)
        · refine lv_iload hx hb dX12_from_109 (lv_at hl 3 rfl) ?_
          refine lv_iconst (v := 1) hx hb dX12_from_111 (by decide) ?_
          refine lv_iload hx hb dX12_from_112 (lv_at hl 5 rfl) ?_
          refine lv_ishl hx hb dX12_from_114 ?_
          refine lv_ior hx hb dX12_from_115 ?_
          refine lv_istore (lv' := [(4, .int (x4 ||| (1 <<< (x6 &&& 31)))), (0, .ref (g_r G)), (1, .int a0), (2, .int x2), (5, .int x5), (6, .int x6)]) hx hb dX12_from_116 hl (by decide) rfl (fun ls hl => ?_)
          refine lv_iload hx hb dX12_from_118 (lv_at hl 4 rfl) ?_
          refine lv_iconst (v := (-1)) hx hb dX12_from_120 (by decide) ?_
          refine cx_icmp_eq (tgt := 162) E dX12_from_121 (by decide) (fun _ => ?_) (fun _ => ?_)
          · exact w162 (f_R_from_82 N a0 n) ih x2 (x4 ||| (1 <<< (x6 &&& 31))) x6 r _ _ _ hw (lv_sub hl [1, 2, 3, 0, 5] rfl)
          · refine lv_aload_n hx hb dX12_from_124 rfl (lv_at hl 1 rfl) ?_
            refine lv_iload hx hb dX12_from_125 (lv_at hl 5 rfl) ?_
            refine lv_iload_n hx hb dX12_from_127 rfl (lv_at hl 3 rfl) ?_
            refine lv_iconst (v := 0) hx hb dX12_from_128 (by decide) ?_
            refine W_bind fun z5 hz => ?_
            refine w_after (cells1 := 0) (slots1 := 0) (w_runV E kV_R_317 kc_X12_likely (t_R_likely l hfl G on N x6 x2 0 M r ((fun z => (.inl (some (.long z)), M, r)) z5) (by rw [hz]; rfl)) ⟨Nat.le_of_ble_eq_true rfl, Nat.le_of_ble_eq_true rfl⟩ hw (w_recvR E hw on) rfl hl.1 rfl (Nat.le_of_ble_eq_true rfl) dX12_from_129 ⟨Nat.le_of_ble_eq_true rfl, Nat.le_of_ble_eq_true rfl⟩) hw rfl (Nat.le_of_ble_eq_true rfl) (Nat.le_of_ble_eq_true rfl) (fun H locs hw => ?_)
            refine W.eq (g2 := F0 m 132 ls [.long z5]) rfl ?_
            have hw : w_W G M r s H locs := hw
            refine lv_aload_n hx hb dX12_from_132 rfl (lv_at hl 1 rfl) ?_
            refine lv_iload hx hb dX12_from_133 (lv_at hl 4 rfl) ?_
            refine lv_iload_n hx hb dX12_from_135 rfl (lv_at hl 3 rfl) ?_
            refine lv_iconst (v := 1) hx hb dX12_from_136 (by decide) ?_
            refine W_bind fun z6 hz => ?_
            refine w_after (cells1 := 0) (slots1 := 0) (w_runV E kV_R_317 kc_X12_likely (t_R_likely l hfl G on N x5 x2 1 M r ((fun z => (.inl (some (.long z)), M, r)) z6) (by rw [hz]; rfl)) ⟨Nat.le_of_ble_eq_true rfl, Nat.le_of_ble_eq_true rfl⟩ hw (w_recvR E hw on) rfl hl.1 rfl (Nat.le_of_ble_eq_true rfl) dX12_from_137 ⟨Nat.le_of_ble_eq_true rfl, Nat.le_of_ble_eq_true rfl⟩) hw rfl (Nat.le_of_ble_eq_true rfl) (Nat.le_of_ble_eq_true rfl) (fun H locs hw => ?_)
            refine W.eq (g2 := F0 m 140 ls [.long z6, .long z5]) rfl ?_
            have hw : w_W G M r s H locs := hw
            refine lv_lmul hx hb dX12_from_140 ?_
            refine lv_aload_n hx hb dX12_from_141 rfl (lv_at hl 1 rfl) ?_
            refine lv_iload hx hb dX12_from_142 (lv_at hl 4 rfl) ?_
            refine lv_iload_n hx hb dX12_from_144 rfl (lv_at hl 3 rfl) ?_
            refine lv_iconst (v := 0) hx hb dX12_from_145 (by decide) ?_
            refine W_bind fun z7 hz => ?_
            refine w_after (cells1 := 0) (slots1 := 0) (w_runV E kV_R_317 kc_X12_likely (t_R_likely l hfl G on N x5 x2 0 M r ((fun z => (.inl (some (.long z)), M, r)) z7) (by rw [hz]; rfl)) ⟨Nat.le_of_ble_eq_true rfl, Nat.le_of_ble_eq_true rfl⟩ hw (w_recvR E hw on) rfl hl.1 rfl (Nat.le_of_ble_eq_true rfl) dX12_from_146 ⟨Nat.le_of_ble_eq_true rfl, Nat.le_of_ble_eq_true rfl⟩) hw rfl (Nat.le_of_ble_eq_true rfl) (Nat.le_of_ble_eq_true rfl) (fun H locs hw => ?_)
            refine W.eq (g2 := F0 m 149 ls [.long z7, .long (z5 * z6)]) rfl ?_
            have hw : w_W G M r s H locs := hw
            refine lv_aload_n hx hb dX12_from_149 rfl (lv_at hl 1 rfl) ?_
            refine lv_iload hx hb dX12_from_150 (lv_at hl 5 rfl) ?_
            refine lv_iload_n hx hb dX12_from_152 rfl (lv_at hl 3 rfl) ?_
            refine lv_iconst (v := 1) hx hb dX12_from_153 (by decide) ?_
            refine W_bind fun z8 hz => ?_
            refine w_after (cells1 := 0) (slots1 := 0) (w_runV E kV_R_317 kc_X12_likely (t_R_likely l hfl G on N x6 x2 1 M r ((fun z => (.inl (some (.long z)), M, r)) z8) (by rw [hz]; rfl)) ⟨Nat.le_of_ble_eq_true rfl, Nat.le_of_ble_eq_true rfl⟩ hw (w_recvR E hw on) rfl hl.1 rfl (Nat.le_of_ble_eq_true rfl) dX12_from_154 ⟨Nat.le_of_ble_eq_true rfl, Nat.le_of_ble_eq_true rfl⟩) hw rfl (Nat.le_of_ble_eq_true rfl) (Nat.le_of_ble_eq_true rfl) (fun H locs hw => ?_)
            refine W.eq (g2 := F0 m 157 ls [.long z8, .long z7, .long (z5 * z6)]) rfl ?_
            have hw : w_W G M r s H locs := hw
            refine lv_lmul hx hb dX12_from_157 ?_
            refine W.lcmp hx hb dX12_from_158 ?_
            refine cx_if_le (tgt := 166) E dX12_from_159 (by decide) (fun _ => ?_) (fun _ => ?_)
            · refine lv_iinc (v := x6 + 1) (lv' := [(6, .int (x6 + 1)), (4, .int (x4 ||| (1 <<< (x6 &&& 31)))), (0, .ref (g_r G)), (1, .int a0), (2, .int x2), (5, .int x5)]) hx hb dX12_from_166 hl (k := 5) rfl rfl (by decide) rfl (fun ls hl => ?_)
              refine lv_goto (tgt := 82) hx hb dX12_from_169 (by decide) ?_
              exact ih x2 (x4 ||| (1 <<< (x6 &&& 31))) x5 (x6 + 1) r _ _ _ hw (lv_sub hl [2, 3, 4, 1, 5, 0] rfl)
            · exact w162 (f_R_from_82 N a0 n) ih x2 (x4 ||| (1 <<< (x6 &&& 31))) x6 r _ _ _ hw (lv_sub hl [1, 2, 3, 0, 5] rfl)
        · refine lv_goto (tgt := 166) hx hb dX12_from_106 (by decide) ?_
          refine lv_iinc (v := x6 + 1) (lv' := [(6, .int (x6 + 1)), (0, .ref (g_r G)), (1, .int a0), (2, .int x2), (4, .int x4), (5, .int x5)]) hx hb dX12_from_166 hl (k := 5) rfl rfl (by decide) rfl (fun ls hl => ?_)
          refine lv_goto (tgt := 82) hx hb dX12_from_169 (by decide) ?_
          exact ih x2 x4 x5 (x6 + 1) r _ _ _ hw (lv_sub hl [1, 2, 3, 4, 5, 0] rfl)
  have w61 : ∀ (x2 : Int32) (y1 : Int32) (r : Rho) (H : Heap) (locs : List Loc) (ls : Array Slot), w_W G M r s H locs → lv_has ls 7 [(0, .ref (g_r G)), (1, .int a0), (2, .int x2)] → W p l e rm_R_from s m args below meth c H locs 0 0 (PQ G below args s rm_R_from.cells rm_R_from.slots (fun z => (.inl (some (.int z.1)), M, z.2)) (f_R_from_61 N a0 x2 y1 r)) (F0 m 61 ls [.int y1, .ref (g_r G)]) := by
    intro x2 y1 r H locs ls hw hl
    unfold f_R_from_61
    refine rx_putI E hw on kF_R_56_11 (by decide) kT_11_0 dX12_from_61 (fun H locs hw => ?_)
    refine lv_aload_n hx hb dX12_from_64 rfl (lv_at hl 0 rfl) ?_
    refine rx_getI E hw on kF_R_56_11 (by decide) dX12_from_65 ?_
    refine cx_if_le (tgt := 73) E dX12_from_68 (by decide) (fun _ => ?_) (fun _ => ?_)
    · refine lv_iconst (v := 0) hx hb dX12_from_73 (by decide) ?_
      refine lv_istore (lv' := [(4, .int 0), (0, .ref (g_r G)), (1, .int a0), (2, .int x2)]) hx hb dX12_from_74 hl (by decide) rfl (fun ls hl => ?_)
      refine lv_iconst (v := (-1)) hx hb dX12_from_76 (by decide) ?_
      refine lv_istore (lv' := [(5, .int (-1)), (4, .int 0), (0, .ref (g_r G)), (1, .int a0), (2, .int x2)]) hx hb dX12_from_77 hl (by decide) rfl (fun ls hl => ?_)
      refine lv_iconst (v := 0) hx hb dX12_from_79 (by decide) ?_
      refine lv_istore (lv' := [(6, .int 0), (5, .int (-1)), (4, .int 0), (0, .ref (g_r G)), (1, .int a0), (2, .int x2)]) hx hb dX12_from_80 hl (by decide) rfl (fun ls hl => ?_)
      exact w82  N x2 0 (-1) 0 (r_set r 0 y1) _ _ _ hw (lv_sub hl [3, 4, 5, 2, 1, 0] rfl)
    · refine lv_iconst (v := 0) hx hb dX12_from_71 (by decide) ?_
      exact p_iret E hw hr (Nat.le_of_ble_eq_true rfl) (Nat.le_of_ble_eq_true rfl) rfl dX12_from_72
  have w51 : ∀ (x2 : Int32) (x3 : Int32) (r : Rho) (H : Heap) (locs : List Loc) (ls : Array Slot), w_W G M r s H locs → lv_has ls 7 [(0, .ref (g_r G)), (1, .int a0), (2, .int x2), (3, .int x3)] → W p l e rm_R_from s m args below meth c H locs 0 0 (PQ G below args s rm_R_from.cells rm_R_from.slots (fun z => (.inl (some (.int z.1)), M, z.2)) (f_R_from_51 N a0 x2 x3 r)) (F0 m 51 ls []) := by
    intro x2 x3 r H locs ls hw hl
    unfold f_R_from_51
    refine lv_aload_n hx hb dX12_from_51 rfl (lv_at hl 0 rfl) ?_
    refine lv_iload_n hx hb dX12_from_52 rfl (lv_at hl 3 rfl) ?_
    refine cx_if_eq (tgt := 60) E dX12_from_53 (by decide) (fun _ => ?_) (fun _ => ?_)
    · refine lv_iconst (v := 1) hx hb dX12_from_60 (by decide) ?_
      exact w61  x2 1 r _ _ _ hw (lv_sub hl [0, 1, 2] rfl)
    · refine lv_iconst (v := 0) hx hb dX12_from_56 (by decide) ?_
      refine lv_goto (tgt := 61) hx hb dX12_from_57 (by decide) ?_
      exact w61  x2 0 r _ _ _ hw (lv_sub hl [0, 1, 2] rfl)
  have w24 : ∀ (n : Nat) (x2 : Int32) (x3 : Int32) (x4 : Int32) (r : Rho) (H : Heap) (locs : List Loc) (ls : Array Slot), w_W G M r s H locs → lv_has ls 7 [(0, .ref (g_r G)), (1, .int a0), (2, .int x2), (3, .int x3), (4, .int x4)] → W p l e rm_R_from s m args below meth c H locs 0 0 (PQ G below args s rm_R_from.cells rm_R_from.slots (fun z => (.inl (some (.int z.1)), M, z.2)) (f_R_from_24 N a0 n x2 x3 x4 r)) (F0 m 24 ls []) := by
    intro n
    induction n with
    | zero => intros; exact W_none
    | succ n ih =>
      intro x2 x3 x4 r H locs ls hw hl
      rw [f_R_from_24]
      refine lv_iload hx hb dX12_from_24 (lv_at hl 4 rfl) ?_
      refine lv_iload_n hx hb dX12_from_26 rfl (lv_at hl 2 rfl) ?_
      refine cx_icmp_ge (tgt := 51) E dX12_from_27 (by decide) (fun _ => ?_) (fun _ => ?_)
      · exact w51  x2 x3 r _ _ _ hw (lv_sub hl [0, 1, 2, 3] rfl)
      · refine lv_iload_n hx hb dX12_from_30 rfl (lv_at hl 3 rfl) ?_
        refine cx_if_eq (tgt := 51) E dX12_from_31 (by decide) (fun _ => ?_) (fun _ => ?_)
        · exact w51  x2 x3 r _ _ _ hw (lv_sub hl [0, 1, 2, 3] rfl)
        · refine lv_aload_n hx hb dX12_from_34 rfl (lv_at hl 0 rfl) ?_
          refine rx_getA E hw on kF_R_22_11 (by decide) dX12_from_35 ?_
          refine lv_iload hx hb dX12_from_38 (lv_at hl 4 rfl) ?_
          refine rx_iald E hw on (by decide) dX12_from_40 (fun v1 => ?_)
          refine W_bind fun z2 hz => ?_
          refine w_after (cells1 := 0) (slots1 := 0) (w_runS E kS_R_260 kc_X12_isCode (t_R_isCode l hfl G v1 M r ((fun z => (.inl (some (.int z)), M, r)) z2) (by rw [hz]; rfl)) ⟨Nat.le_of_ble_eq_true rfl, Nat.le_of_ble_eq_true rfl⟩ hw rfl hl.1 rfl (Nat.le_of_ble_eq_true rfl) dX12_from_41 ⟨Nat.le_of_ble_eq_true rfl, Nat.le_of_ble_eq_true rfl⟩) hw rfl (Nat.le_of_ble_eq_true rfl) (Nat.le_of_ble_eq_true rfl) (fun H locs hw => ?_)
          refine W.eq (g2 := F0 m 44 ls [.int z2]) rfl ?_
          have hw : w_W G M r s H locs := hw
          refine lv_istore_n (lv' := [(3, .int z2), (0, .ref (g_r G)), (1, .int a0), (2, .int x2), (4, .int x4)]) hx hb dX12_from_44 rfl hl (by decide) rfl (fun ls hl => ?_)
          refine lv_iinc (v := x4 + 1) (lv' := [(4, .int (x4 + 1)), (3, .int z2), (0, .ref (g_r G)), (1, .int a0), (2, .int x2)]) hx hb dX12_from_45 hl (k := 4) rfl rfl (by decide) rfl (fun ls hl => ?_)
          refine lv_goto (tgt := 24) hx hb dX12_from_48 (by decide) ?_
          exact ih x2 z2 (x4 + 1) r _ _ _ hw (lv_sub hl [2, 3, 4, 1, 0] rfl)
  have w20 : ∀ (x2 : Int32) (y0 : Int32) (r : Rho) (H : Heap) (locs : List Loc) (ls : Array Slot), w_W G M r s H locs → lv_has ls 7 [(0, .ref (g_r G)), (1, .int a0), (2, .int x2)] → W p l e rm_R_from s m args below meth c H locs 0 0 (PQ G below args s rm_R_from.cells rm_R_from.slots (fun z => (.inl (some (.int z.1)), M, z.2)) (f_R_from_20 N a0 x2 y0 r)) (F0 m 20 ls [.int y0]) := by
    intro x2 y0 r H locs ls hw hl
    unfold f_R_from_20
    refine lv_istore_n (lv' := [(3, .int y0), (0, .ref (g_r G)), (1, .int a0), (2, .int x2)]) hx hb dX12_from_20 rfl hl (by decide) rfl (fun ls hl => ?_)
    refine lv_iconst (v := 0) hx hb dX12_from_21 (by decide) ?_
    refine lv_istore (lv' := [(4, .int 0), (3, .int y0), (0, .ref (g_r G)), (1, .int a0), (2, .int x2)]) hx hb dX12_from_22 hl (by decide) rfl (fun ls hl => ?_)
    exact w24  N x2 y0 0 r _ _ _ hw (lv_sub hl [2, 3, 4, 1, 0] rfl)
  unfold f_R_from
  refine lv_aload_n hx hb dX12_from_0 rfl (lv_at hl 0 rfl) ?_
  refine rx_getI E hw on kF_R_73_11 (by decide) dX12_from_1 ?_
  refine lv_istore_n (lv' := [(2, .int (r.1 8)), (0, .ref (g_r G)), (1, .int a0)]) hx hb dX12_from_4 rfl hl (by decide) rfl (fun ls hl => ?_)
  refine lv_aload_n hx hb dX12_from_5 rfl (lv_at hl 1 rfl) ?_
  refine lv_iconst (v := 0) hx hb dX12_from_6 (by decide) ?_
  refine rx_putI E hw on kF_R_73_11 (by decide) kT_11_8 dX12_from_7 (fun H locs hw => ?_)
  refine lv_iload_n hx hb dX12_from_10 rfl (lv_at hl 0 rfl) ?_
  refine lv_iconst (v := 4) hx hb dX12_from_11 (by decide) ?_
  refine cx_icmp_gt (tgt := 19) E dX12_from_12 (by decide) (fun _ => ?_) (fun _ => ?_)
  · refine lv_iconst (v := 0) hx hb dX12_from_19 (by decide) ?_
    exact w20  (r.1 8) 0 (r_set r 8 0) _ _ _ hw (lv_sub hl [1, 2, 0] rfl)
  · refine lv_iconst (v := 1) hx hb dX12_from_15 (by decide) ?_
    refine lv_goto (tgt := 20) hx hb dX12_from_16 (by decide) ?_
    exact w20  (r.1 8) 1 (r_set r 8 0) _ _ _ hw (lv_sub hl [1, 2, 0] rfl)
set_option maxHeartbeats 4000000 in
set_option maxRecDepth 100000 in
theorem t_R_peopleOf (l : Launch) (hfl : l.stackTraces = false) (G : wG) (on : g_on G = true) (N : Nat) (a0 : Int32) (M : Mem) (r : Rho) : Ctr l yX12_peopleOf (wWs yX12_peopleOf cX12_peopleOf 4 (some .int)) rm_R_peopleOf rm_R_peopleOf.cells rm_R_peopleOf.slots G [.ref (g_r G), .int a0] M r ((f_R_peopleOf N a0 r).map (fun z => (.inl (some (.int z)), M, r))) := by
  refine Ctr.ofF (own := "CheekTownModel") (by decide +kernel) hfl rfl (Nat.le_of_ble_eq_true rfl) (fun p e s m args below meth c E hno hr hnm hw ls hl => ?_)
  obtain ⟨hx, hb, hts, hown, hml, hTT, -⟩ := id E
  have hl : lv_has ls 4 [(0, .ref (g_r G)), (1, .int a0)] := hl
  obtain ⟨H, hH⟩ : ∃ H, H = s.heap := ⟨_, rfl⟩
  obtain ⟨locs, hlo⟩ : ∃ L : List Loc, L = [] := ⟨_, rfl⟩
  rw [← hH, ← hlo]
  rw [← hlo] at hw
  replace hw : w_W G M r s H locs := by rw [hH]; exact hw
  have w30 : ∀ (k4 : Int32 → Int32 → Option (Int32)) (hk4 : ∀ (x2 : Int32) (x3 : Int32) (H : Heap) (locs : List Loc) (ls : Array Slot), w_W G M r s H locs → lv_has ls 4 [(0, .ref (g_r G)), (1, .int a0), (2, .int x2), (3, .int x3)] → W p l e rm_R_peopleOf s m args below meth c H locs 0 0 (PQ G below args s rm_R_peopleOf.cells rm_R_peopleOf.slots (fun z => (.inl (some (.int z)), M, r)) (k4 x2 x3)) (F0 m 4 ls [])) (x3 : Int32) (y0 : Int32) (y1 : Int32) (H : Heap) (locs : List Loc) (ls : Array Slot), w_W G M r s H locs → lv_has ls 4 [(0, .ref (g_r G)), (1, .int a0), (3, .int x3)] → W p l e rm_R_peopleOf s m args below meth c H locs 0 0 (PQ G below args s rm_R_peopleOf.cells rm_R_peopleOf.slots (fun z => (.inl (some (.int z)), M, r)) (f_R_peopleOf_30 N a0 r k4 x3 y0 y1)) (F0 m 30 ls [.int y1, .int y0]) := by
    intro k4 hk4 x3 y0 y1 H locs ls hw hl
    unfold f_R_peopleOf_30
    refine lv_iadd hx hb dX12_peopleOf_30 ?_
    refine lv_istore_n (lv' := [(2, .int (y0 + y1)), (0, .ref (g_r G)), (1, .int a0), (3, .int x3)]) hx hb dX12_peopleOf_31 rfl hl (by decide) rfl (fun ls hl => ?_)
    refine lv_iinc (v := x3 + 1) (lv' := [(3, .int (x3 + 1)), (2, .int (y0 + y1)), (0, .ref (g_r G)), (1, .int a0)]) hx hb dX12_peopleOf_32 hl (k := 3) rfl rfl (by decide) rfl (fun ls hl => ?_)
    refine lv_goto (tgt := 4) hx hb dX12_peopleOf_35 (by decide) ?_
    exact hk4 (y0 + y1) (x3 + 1) _ _ _ hw (lv_sub hl [2, 3, 1, 0] rfl)
  have w4 : ∀ (n : Nat) (x2 : Int32) (x3 : Int32) (H : Heap) (locs : List Loc) (ls : Array Slot), w_W G M r s H locs → lv_has ls 4 [(0, .ref (g_r G)), (1, .int a0), (2, .int x2), (3, .int x3)] → W p l e rm_R_peopleOf s m args below meth c H locs 0 0 (PQ G below args s rm_R_peopleOf.cells rm_R_peopleOf.slots (fun z => (.inl (some (.int z)), M, r)) (f_R_peopleOf_4 N a0 r n x2 x3)) (F0 m 4 ls []) := by
    intro n
    induction n with
    | zero => intros; exact W_none
    | succ n ih =>
      intro x2 x3 H locs ls hw hl
      rw [f_R_peopleOf_4]
      refine lv_iload_n hx hb dX12_peopleOf_4 rfl (lv_at hl 3 rfl) ?_
      refine lv_aload_n hx hb dX12_peopleOf_5 rfl (lv_at hl 0 rfl) ?_
      refine rx_getA E hw on kF_R_7_11 (by decide) dX12_peopleOf_6 ?_
      refine lv_iconst (v := 5) hx hb dX12_peopleOf_9 (by decide) ?_
      refine rx_iald E hw on (by decide) dX12_peopleOf_10 (fun v1 => ?_)
      refine cx_icmp_ge (tgt := 38) E dX12_peopleOf_11 (by decide) (fun _ => ?_) (fun _ => ?_)
      · refine lv_iload_n hx hb dX12_peopleOf_38 rfl (lv_at hl 2 rfl) ?_
        exact p_iret E hw hr (Nat.le_of_ble_eq_true rfl) (Nat.le_of_ble_eq_true rfl) rfl dX12_peopleOf_39
      · refine lv_iload_n hx hb dX12_peopleOf_14 rfl (lv_at hl 2 rfl) ?_
        refine lv_aload_n hx hb dX12_peopleOf_15 rfl (lv_at hl 0 rfl) ?_
        refine lv_iload_n hx hb dX12_peopleOf_16 rfl (lv_at hl 3 rfl) ?_
        refine lv_iconst (v := 0) hx hb dX12_peopleOf_17 (by decide) ?_
        refine W_bind fun z2 hz => ?_
        refine w_after (cells1 := 0) (slots1 := 0) (w_runV E kV_R_257 kc_X12_of (t_R_of l hfl G on x3 0 M r ((fun z => (.inl (some (.int z)), M, r)) z2) (by rw [hz]; rfl)) ⟨Nat.le_of_ble_eq_true rfl, Nat.le_of_ble_eq_true rfl⟩ hw (w_recvR E hw on) rfl hl.1 rfl (Nat.le_of_ble_eq_true rfl) dX12_peopleOf_18 ⟨Nat.le_of_ble_eq_true rfl, Nat.le_of_ble_eq_true rfl⟩) hw rfl (Nat.le_of_ble_eq_true rfl) (Nat.le_of_ble_eq_true rfl) (fun H locs hw => ?_)
        refine W.eq (g2 := F0 m 21 ls [.int z2, .int x2]) rfl ?_
        have hw : w_W G M r s H locs := hw
        refine lv_iload_n hx hb dX12_peopleOf_21 rfl (lv_at hl 1 rfl) ?_
        refine cx_icmp_ne (tgt := 29) E dX12_peopleOf_22 (by decide) (fun _ => ?_) (fun _ => ?_)
        · refine lv_iconst (v := 0) hx hb dX12_peopleOf_29 (by decide) ?_
          exact w30 (f_R_peopleOf_4 N a0 r n) ih x3 x2 0 _ _ _ hw (lv_sub hl [0, 1, 3] rfl)
        · refine lv_iconst (v := 1) hx hb dX12_peopleOf_25 (by decide) ?_
          refine lv_goto (tgt := 30) hx hb dX12_peopleOf_26 (by decide) ?_
          exact w30 (f_R_peopleOf_4 N a0 r n) ih x3 x2 1 _ _ _ hw (lv_sub hl [0, 1, 3] rfl)
  unfold f_R_peopleOf
  refine lv_iconst (v := 0) hx hb dX12_peopleOf_0 (by decide) ?_
  refine lv_istore_n (lv' := [(2, .int 0), (0, .ref (g_r G)), (1, .int a0)]) hx hb dX12_peopleOf_1 rfl hl (by decide) rfl (fun ls hl => ?_)
  refine lv_iconst (v := 0) hx hb dX12_peopleOf_2 (by decide) ?_
  refine lv_istore_n (lv' := [(3, .int 0), (2, .int 0), (0, .ref (g_r G)), (1, .int a0)]) hx hb dX12_peopleOf_3 rfl hl (by decide) rfl (fun ls hl => ?_)
  exact w4  N 0 0 _ _ _ hw (lv_sub hl [2, 3, 1, 0] rfl)
set_option maxHeartbeats 4000000 in
set_option maxRecDepth 100000 in
theorem t_R_expectsAll (l : Launch) (hfl : l.stackTraces = false) (G : wG) (on : g_on G = true) (N : Nat) (a0 : Int32) (M : Mem) (r : Rho) : Ctr l yX12_expectsAll (wWs yX12_expectsAll cX12_expectsAll 4 (some .int)) rm_R_expectsAll rm_R_expectsAll.cells rm_R_expectsAll.slots G [.ref (g_r G), .int a0] M r ((f_R_expectsAll N a0 r).map (fun z => (.inl (some (.int z)), M, r))) := by
  refine Ctr.ofF (own := "CheekTownModel") (by decide +kernel) hfl rfl (Nat.le_of_ble_eq_true rfl) (fun p e s m args below meth c E hno hr hnm hw ls hl => ?_)
  obtain ⟨hx, hb, hts, hown, hml, hTT, -⟩ := id E
  have hl : lv_has ls 4 [(0, .ref (g_r G)), (1, .int a0)] := hl
  obtain ⟨H, hH⟩ : ∃ H, H = s.heap := ⟨_, rfl⟩
  obtain ⟨locs, hlo⟩ : ∃ L : List Loc, L = [] := ⟨_, rfl⟩
  rw [← hH, ← hlo]
  rw [← hlo] at hw
  replace hw : w_W G M r s H locs := by rw [hH]; exact hw
  have w36 : ∀ (k4 : Int32 → Int32 → Option (Int32)) (hk4 : ∀ (x2 : Int32) (x3 : Int32) (H : Heap) (locs : List Loc) (ls : Array Slot), w_W G M r s H locs → lv_has ls 4 [(0, .ref (g_r G)), (1, .int a0), (2, .int x2), (3, .int x3)] → W p l e rm_R_expectsAll s m args below meth c H locs 0 0 (PQ G below args s rm_R_expectsAll.cells rm_R_expectsAll.slots (fun z => (.inl (some (.int z)), M, r)) (k4 x2 x3)) (F0 m 4 ls [])) (x3 : Int32) (y0 : Int32) (y1 : Int32) (y3 : Int32) (y4 : Int32) (H : Heap) (locs : List Loc) (ls : Array Slot), w_W G M r s H locs → lv_has ls 4 [(0, .ref (g_r G)), (1, .int a0), (3, .int x3)] → W p l e rm_R_expectsAll s m args below meth c H locs 0 0 (PQ G below args s rm_R_expectsAll.cells rm_R_expectsAll.slots (fun z => (.inl (some (.int z)), M, r)) (f_R_expectsAll_36 N a0 r k4 x3 y0 y1 y3 y4)) (F0 m 36 ls [.int y4, .int y3, .ref (g_r G), .int y1, .int y0]) := by
    intro k4 hk4 x3 y0 y1 y3 y4 H locs ls hw hl
    unfold f_R_expectsAll_36
    refine W_bind fun z4 hz => ?_
    refine w_after (cells1 := 0) (slots1 := 0) (w_runV E kV_R_308 kc_X12_expects (t_R_expects l hfl G on N y3 y4 M r ((fun z => (.inl (some (.int z)), M, r)) z4) (by rw [hz]; rfl)) ⟨Nat.le_of_ble_eq_true rfl, Nat.le_of_ble_eq_true rfl⟩ hw (w_recvR E hw on) rfl hl.1 rfl (Nat.le_of_ble_eq_true rfl) dX12_expectsAll_36 ⟨Nat.le_of_ble_eq_true rfl, Nat.le_of_ble_eq_true rfl⟩) hw rfl (Nat.le_of_ble_eq_true rfl) (Nat.le_of_ble_eq_true rfl) (fun H locs hw => ?_)
    refine W.eq (g2 := F0 m 39 ls [.int z4, .int y1, .int y0]) rfl ?_
    have hw : w_W G M r s H locs := hw
    refine lv_imul hx hb dX12_expectsAll_39 ?_
    refine lv_iadd hx hb dX12_expectsAll_40 ?_
    refine lv_istore_n (lv' := [(2, .int (y0 + (y1 * z4))), (0, .ref (g_r G)), (1, .int a0), (3, .int x3)]) hx hb dX12_expectsAll_41 rfl hl (by decide) rfl (fun ls hl => ?_)
    refine lv_iinc (v := x3 + 1) (lv' := [(3, .int (x3 + 1)), (2, .int (y0 + (y1 * z4))), (0, .ref (g_r G)), (1, .int a0)]) hx hb dX12_expectsAll_42 hl (k := 3) rfl rfl (by decide) rfl (fun ls hl => ?_)
    refine lv_goto (tgt := 4) hx hb dX12_expectsAll_45 (by decide) ?_
    exact hk4 (y0 + (y1 * z4)) (x3 + 1) _ _ _ hw (lv_sub hl [2, 3, 1, 0] rfl)
  have w4 : ∀ (n : Nat) (x2 : Int32) (x3 : Int32) (H : Heap) (locs : List Loc) (ls : Array Slot), w_W G M r s H locs → lv_has ls 4 [(0, .ref (g_r G)), (1, .int a0), (2, .int x2), (3, .int x3)] → W p l e rm_R_expectsAll s m args below meth c H locs 0 0 (PQ G below args s rm_R_expectsAll.cells rm_R_expectsAll.slots (fun z => (.inl (some (.int z)), M, r)) (f_R_expectsAll_4 N a0 r n x2 x3)) (F0 m 4 ls []) := by
    intro n
    induction n with
    | zero => intros; exact W_none
    | succ n ih =>
      intro x2 x3 H locs ls hw hl
      rw [f_R_expectsAll_4]
      refine lv_iload_n hx hb dX12_expectsAll_4 rfl (lv_at hl 3 rfl) ?_
      refine lv_aload_n hx hb dX12_expectsAll_5 rfl (lv_at hl 0 rfl) ?_
      refine rx_getA E hw on kF_R_7_11 (by decide) dX12_expectsAll_6 ?_
      refine lv_iconst (v := 3) hx hb dX12_expectsAll_9 (by decide) ?_
      refine rx_iald E hw on (by decide) dX12_expectsAll_10 (fun v1 => ?_)
      refine cx_icmp_ge (tgt := 48) E dX12_expectsAll_11 (by decide) (fun _ => ?_) (fun _ => ?_)
      · refine lv_iload_n hx hb dX12_expectsAll_48 rfl (lv_at hl 2 rfl) ?_
        exact p_iret E hw hr (Nat.le_of_ble_eq_true rfl) (Nat.le_of_ble_eq_true rfl) rfl dX12_expectsAll_49
      · refine lv_iload_n hx hb dX12_expectsAll_14 rfl (lv_at hl 2 rfl) ?_
        refine lv_aload_n hx hb dX12_expectsAll_15 rfl (lv_at hl 0 rfl) ?_
        refine lv_iload_n hx hb dX12_expectsAll_16 rfl (lv_at hl 3 rfl) ?_
        refine W_bind fun z2 hz => ?_
        refine w_after (cells1 := 0) (slots1 := 0) (w_runV E kV_R_321 kc_X12_peopleOf (t_R_peopleOf l hfl G on N x3 M r ((fun z => (.inl (some (.int z)), M, r)) z2) (by rw [hz]; rfl)) ⟨Nat.le_of_ble_eq_true rfl, Nat.le_of_ble_eq_true rfl⟩ hw (w_recvR E hw on) rfl hl.1 rfl (Nat.le_of_ble_eq_true rfl) dX12_expectsAll_17 ⟨Nat.le_of_ble_eq_true rfl, Nat.le_of_ble_eq_true rfl⟩) hw rfl (Nat.le_of_ble_eq_true rfl) (Nat.le_of_ble_eq_true rfl) (fun H locs hw => ?_)
        refine W.eq (g2 := F0 m 20 ls [.int z2, .int x2]) rfl ?_
        have hw : w_W G M r s H locs := hw
        refine lv_aload_n hx hb dX12_expectsAll_20 rfl (lv_at hl 0 rfl) ?_
        refine lv_iload_n hx hb dX12_expectsAll_21 rfl (lv_at hl 3 rfl) ?_
        refine lv_iload_n hx hb dX12_expectsAll_22 rfl (lv_at hl 1 rfl) ?_
        refine lv_iconst (v := (-1)) hx hb dX12_expectsAll_23 (by decide) ?_
        refine cx_icmp_ne (tgt := 35) E dX12_expectsAll_24 (by decide) (fun _ => ?_) (fun _ => ?_)
        · refine lv_iload_n hx hb dX12_expectsAll_35 rfl (lv_at hl 1 rfl) ?_
          exact w36 (f_R_expectsAll_4 N a0 r n) ih x3 x2 z2 x3 a0 _ _ _ hw (lv_sub hl [0, 1, 3] rfl)
        · refine lv_aload_n hx hb dX12_expectsAll_27 rfl (lv_at hl 0 rfl) ?_
          refine lv_iload_n hx hb dX12_expectsAll_28 rfl (lv_at hl 3 rfl) ?_
          refine W_bind fun z3 hz => ?_
          refine w_after (cells1 := 0) (slots1 := 0) (w_runV E kV_R_311 kc_X12_bestOf (t_R_bestOf l hfl G on N x3 M r ((fun z => (.inl (some (.int z)), M, r)) z3) (by rw [hz]; rfl)) ⟨Nat.le_of_ble_eq_true rfl, Nat.le_of_ble_eq_true rfl⟩ hw (w_recvR E hw on) rfl hl.1 rfl (Nat.le_of_ble_eq_true rfl) dX12_expectsAll_29 ⟨Nat.le_of_ble_eq_true rfl, Nat.le_of_ble_eq_true rfl⟩) hw rfl (Nat.le_of_ble_eq_true rfl) (Nat.le_of_ble_eq_true rfl) (fun H locs hw => ?_)
          refine W.eq (g2 := F0 m 32 ls [.int z3, .int x3, .ref (g_r G), .int z2, .int x2]) rfl ?_
          have hw : w_W G M r s H locs := hw
          refine lv_goto (tgt := 36) hx hb dX12_expectsAll_32 (by decide) ?_
          exact w36 (f_R_expectsAll_4 N a0 r n) ih x3 x2 z2 x3 z3 _ _ _ hw (lv_sub hl [0, 1, 3] rfl)
  unfold f_R_expectsAll
  refine lv_iconst (v := 0) hx hb dX12_expectsAll_0 (by decide) ?_
  refine lv_istore_n (lv' := [(2, .int 0), (0, .ref (g_r G)), (1, .int a0)]) hx hb dX12_expectsAll_1 rfl hl (by decide) rfl (fun ls hl => ?_)
  refine lv_iconst (v := 0) hx hb dX12_expectsAll_2 (by decide) ?_
  refine lv_istore_n (lv' := [(3, .int 0), (2, .int 0), (0, .ref (g_r G)), (1, .int a0)]) hx hb dX12_expectsAll_3 rfl hl (by decide) rfl (fun ls hl => ?_)
  exact w4  N 0 0 _ _ _ hw (lv_sub hl [2, 3, 1, 0] rfl)
set_option maxHeartbeats 4000000 in
set_option maxRecDepth 100000 in
theorem t_R_worth (l : Launch) (hfl : l.stackTraces = false) (G : wG) (on : g_on G = true) (N : Nat) (M : Mem) (r : Rho) : Ctr l yX12_worth (wWs yX12_worth cX12_worth 3 (some .int)) rm_R_worth rm_R_worth.cells rm_R_worth.slots G [.ref (g_r G)] M r ((f_R_worth N r).map (fun z => (.inl (some (.int z.1)), M, z.2))) := by
  refine Ctr.ofF (own := "CheekTownModel") (by decide +kernel) hfl rfl (Nat.le_of_ble_eq_true rfl) (fun p e s m args below meth c E hno hr hnm hw ls hl => ?_)
  obtain ⟨hx, hb, hts, hown, hml, hTT, -⟩ := id E
  have hl : lv_has ls 3 [(0, .ref (g_r G))] := hl
  obtain ⟨H, hH⟩ : ∃ H, H = s.heap := ⟨_, rfl⟩
  obtain ⟨locs, hlo⟩ : ∃ L : List Loc, L = [] := ⟨_, rfl⟩
  rw [← hH, ← hlo]
  rw [← hlo] at hw
  replace hw : w_W G M r s H locs := by rw [hH]; exact hw
  have w13 : ∀ (n : Nat) (x1 : Int32) (x2 : Int32) (r : Rho) (H : Heap) (locs : List Loc) (ls : Array Slot), w_W G M r s H locs → lv_has ls 3 [(0, .ref (g_r G)), (1, .int x1), (2, .int x2)] → W p l e rm_R_worth s m args below meth c H locs 0 0 (PQ G below args s rm_R_worth.cells rm_R_worth.slots (fun z => (.inl (some (.int z.1)), M, z.2)) (f_R_worth_13 N n x1 x2 r)) (F0 m 13 ls []) := by
    intro n
    induction n with
    | zero => intros; exact W_none
    | succ n ih =>
      intro x1 x2 r H locs ls hw hl
      rw [f_R_worth_13]
      refine lv_iload_n hx hb dX12_worth_13 rfl (lv_at hl 2 rfl) ?_
      refine lv_bipush (v := 32) hx hb dX12_worth_14 (by decide) ?_
      refine cx_icmp_ge (tgt := 35) E dX12_worth_16 (by decide) (fun _ => ?_) (fun _ => ?_)
      · refine lv_iload_n hx hb dX12_worth_35 rfl (lv_at hl 1 rfl) ?_
        refine lv_aload_n hx hb dX12_worth_36 rfl (lv_at hl 0 rfl) ?_
        refine lv_iconst (v := (-1)) hx hb dX12_worth_37 (by decide) ?_
        refine W_bind fun z2 hz => ?_
        refine w_after (cells1 := 0) (slots1 := 0) (w_runV E kV_R_324 kc_X12_expectsAll (t_R_expectsAll l hfl G on N (-1) M r ((fun z => (.inl (some (.int z)), M, r)) z2) (by rw [hz]; rfl)) ⟨Nat.le_of_ble_eq_true rfl, Nat.le_of_ble_eq_true rfl⟩ hw (w_recvR E hw on) rfl hl.1 rfl (Nat.le_of_ble_eq_true rfl) dX12_worth_38 ⟨Nat.le_of_ble_eq_true rfl, Nat.le_of_ble_eq_true rfl⟩) hw rfl (Nat.le_of_ble_eq_true rfl) (Nat.le_of_ble_eq_true rfl) (fun H locs hw => ?_)
        refine W.eq (g2 := F0 m 41 ls [.int z2, .int x1]) rfl ?_
        have hw : w_W G M r s H locs := hw
        refine lv_isub hx hb dX12_worth_41 ?_
        exact p_iret E hw hr (Nat.le_of_ble_eq_true rfl) (Nat.le_of_ble_eq_true rfl) rfl dX12_worth_42
      · refine lv_iload_n hx hb dX12_worth_19 rfl (lv_at hl 1 rfl) ?_
        refine lv_aload_n hx hb dX12_worth_20 rfl (lv_at hl 0 rfl) ?_
        refine lv_iload_n hx hb dX12_worth_21 rfl (lv_at hl 2 rfl) ?_
        refine W_bind fun z3 hz => ?_
        refine w_after (cells1 := 0) (slots1 := 0) (w_runV E kV_R_324 kc_X12_expectsAll (t_R_expectsAll l hfl G on N x2 M r ((fun z => (.inl (some (.int z)), M, r)) z3) (by rw [hz]; rfl)) ⟨Nat.le_of_ble_eq_true rfl, Nat.le_of_ble_eq_true rfl⟩ hw (w_recvR E hw on) rfl hl.1 rfl (Nat.le_of_ble_eq_true rfl) dX12_worth_22 ⟨Nat.le_of_ble_eq_true rfl, Nat.le_of_ble_eq_true rfl⟩) hw rfl (Nat.le_of_ble_eq_true rfl) (Nat.le_of_ble_eq_true rfl) (fun H locs hw => ?_)
        refine W.eq (g2 := F0 m 25 ls [.int z3, .int x1]) rfl ?_
        have hw : w_W G M r s H locs := hw
        refine W_bind fun z4 hz => ?_
        refine w_after (cells1 := 0) (slots1 := 0) (w_runS E kS_R_284 kc_X12_lesser (t_R_lesser l hfl G x1 z3 M r ((fun z => (.inl (some (.int z)), M, r)) z4) (by rw [hz]; rfl)) ⟨Nat.le_of_ble_eq_true rfl, Nat.le_of_ble_eq_true rfl⟩ hw rfl hl.1 rfl (Nat.le_of_ble_eq_true rfl) dX12_worth_25 ⟨Nat.le_of_ble_eq_true rfl, Nat.le_of_ble_eq_true rfl⟩) hw rfl (Nat.le_of_ble_eq_true rfl) (Nat.le_of_ble_eq_true rfl) (fun H locs hw => ?_)
        refine W.eq (g2 := F0 m 28 ls [.int z4]) rfl ?_
        have hw : w_W G M r s H locs := hw
        refine lv_istore_n (lv' := [(1, .int z4), (0, .ref (g_r G)), (2, .int x2)]) hx hb dX12_worth_28 rfl hl (by decide) rfl (fun ls hl => ?_)
        refine lv_iinc (v := x2 + 1) (lv' := [(2, .int (x2 + 1)), (1, .int z4), (0, .ref (g_r G))]) hx hb dX12_worth_29 hl (k := 2) rfl rfl (by decide) rfl (fun ls hl => ?_)
        refine lv_goto (tgt := 13) hx hb dX12_worth_32 (by decide) ?_
        exact ih z4 (x2 + 1) r _ _ _ hw (lv_sub hl [2, 1, 0] rfl)
  unfold f_R_worth
  refine lv_aload_n hx hb dX12_worth_0 rfl (lv_at hl 0 rfl) ?_
  refine lv_iconst (v := 0) hx hb dX12_worth_1 (by decide) ?_
  refine rx_putI E hw on kF_R_56_11 (by decide) kT_11_0 dX12_worth_2 (fun H locs hw => ?_)
  refine lv_aload_n hx hb dX12_worth_5 rfl (lv_at hl 0 rfl) ?_
  refine lv_iconst (v := 0) hx hb dX12_worth_6 (by decide) ?_
  refine W_bind fun z1 hz => ?_
  refine w_after (cells1 := 0) (slots1 := 0) (w_runV E kV_R_324 kc_X12_expectsAll (t_R_expectsAll l hfl G on N 0 M (r_set r 0 0) ((fun z => (.inl (some (.int z)), M, (r_set r 0 0))) z1) (by rw [hz]; rfl)) ⟨Nat.le_of_ble_eq_true rfl, Nat.le_of_ble_eq_true rfl⟩ hw (w_recvR E hw on) rfl hl.1 rfl (Nat.le_of_ble_eq_true rfl) dX12_worth_7 ⟨Nat.le_of_ble_eq_true rfl, Nat.le_of_ble_eq_true rfl⟩) hw rfl (Nat.le_of_ble_eq_true rfl) (Nat.le_of_ble_eq_true rfl) (fun H locs hw => ?_)
  refine W.eq (g2 := F0 m 10 ls [.int z1]) rfl ?_
  have hw : w_W G M (r_set r 0 0) s H locs := hw
  refine lv_istore_n (lv' := [(1, .int z1), (0, .ref (g_r G))]) hx hb dX12_worth_10 rfl hl (by decide) rfl (fun ls hl => ?_)
  refine lv_iconst (v := 1) hx hb dX12_worth_11 (by decide) ?_
  refine lv_istore_n (lv' := [(2, .int 1), (1, .int z1), (0, .ref (g_r G))]) hx hb dX12_worth_12 rfl hl (by decide) rfl (fun ls hl => ?_)
  exact w13  N z1 1 (r_set r 0 0) _ _ _ hw (lv_sub hl [2, 1, 0] rfl)
set_option maxHeartbeats 4000000 in
set_option maxRecDepth 100000 in
theorem t_R_pays (l : Launch) (hfl : l.stackTraces = false) (G : wG) (on : g_on G = true) (a0 : Int32) (a1 : Int32) (a2 : Int32) (a3 : Int32) (M : Mem) (r : Rho) : Ctr l yX12_pays (wWs yX12_pays cX12_pays 7 (some .int)) rm_R_pays rm_R_pays.cells rm_R_pays.slots G [.ref (g_r G), .int a0, .int a1, .int a2, .int a3] M r ((f_R_pays a0 a1 a2 a3 r).map (fun z => (.inl (some (.int z)), M, r))) := by
  refine Ctr.ofF (own := "CheekTownModel") (by decide +kernel) hfl rfl (Nat.le_of_ble_eq_true rfl) (fun p e s m args below meth c E hno hr hnm hw ls hl => ?_)
  obtain ⟨hx, hb, hts, hown, hml, hTT, -⟩ := id E
  have hl : lv_has ls 7 [(0, .ref (g_r G)), (1, .int a0), (2, .int a1), (3, .int a2), (4, .int a3)] := hl
  obtain ⟨H, hH⟩ : ∃ H, H = s.heap := ⟨_, rfl⟩
  obtain ⟨locs, hlo⟩ : ∃ L : List Loc, L = [] := ⟨_, rfl⟩
  rw [← hH, ← hlo]
  rw [← hlo] at hw
  replace hw : w_W G M r s H locs := by rw [hH]; exact hw
  have w60 : ∀ (y0 : Int32) (y1 : Int32) (H : Heap) (locs : List Loc) (ls : Array Slot), w_W G M r s H locs → lv_has ls 7 [] → W p l e rm_R_pays s m args below meth c H locs 0 0 (PQ G below args s rm_R_pays.cells rm_R_pays.slots (fun z => (.inl (some (.int z)), M, r)) (f_R_pays_60 a0 a1 a2 a3 r y0 y1)) (F0 m 60 ls [.int y1, .int y0]) := by
    intro y0 y1 H locs ls hw hl
    unfold f_R_pays_60
    refine lv_iadd hx hb dX12_pays_60 ?_
    exact p_iret E hw hr (Nat.le_of_ble_eq_true rfl) (Nat.le_of_ble_eq_true rfl) rfl dX12_pays_61
  have w41 : ∀ (x5 : Int32) (y0 : Int32) (H : Heap) (locs : List Loc) (ls : Array Slot), w_W G M r s H locs → lv_has ls 7 [(0, .ref (g_r G)), (3, .int a2), (5, .int x5)] → W p l e rm_R_pays s m args below meth c H locs 0 0 (PQ G below args s rm_R_pays.cells rm_R_pays.slots (fun z => (.inl (some (.int z)), M, r)) (f_R_pays_41 a0 a1 a2 a3 r x5 y0)) (F0 m 41 ls [.int y0]) := by
    intro x5 y0 H locs ls hw hl
    unfold f_R_pays_41
    refine lv_istore (lv' := [(6, .int y0), (0, .ref (g_r G)), (3, .int a2), (5, .int x5)]) hx hb dX12_pays_41 hl (by decide) rfl (fun ls hl => ?_)
    refine lv_aload_n hx hb dX12_pays_43 rfl (lv_at hl 1 rfl) ?_
    refine lv_iload hx hb dX12_pays_44 (lv_at hl 3 rfl) ?_
    refine lv_iload hx hb dX12_pays_46 (lv_at hl 0 rfl) ?_
    refine W_bind fun z5 hz => ?_
    refine w_after (cells1 := 0) (slots1 := 0) (w_runV E kV_R_263 kc_X12_costOf (t_R_costOf l hfl G on x5 y0 M r ((fun z => (.inl (some (.int z)), M, r)) z5) (by rw [hz]; rfl)) ⟨Nat.le_of_ble_eq_true rfl, Nat.le_of_ble_eq_true rfl⟩ hw (w_recvR E hw on) rfl hl.1 rfl (Nat.le_of_ble_eq_true rfl) dX12_pays_48 ⟨Nat.le_of_ble_eq_true rfl, Nat.le_of_ble_eq_true rfl⟩) hw rfl (Nat.le_of_ble_eq_true rfl) (Nat.le_of_ble_eq_true rfl) (fun H locs hw => ?_)
    refine W.eq (g2 := F0 m 51 ls [.int z5]) rfl ?_
    have hw : w_W G M r s H locs := hw
    refine lv_iload_n hx hb dX12_pays_51 rfl (lv_at hl 2 rfl) ?_
    refine cx_if_eq (tgt := 59) E dX12_pays_52 (by decide) (fun _ => ?_) (fun _ => ?_)
    · refine lv_iconst (v := 0) hx hb dX12_pays_59 (by decide) ?_
      exact w60  z5 0 _ _ _ hw (lv_sub hl [] rfl)
    · refine lv_iconst (v := 1) hx hb dX12_pays_55 (by decide) ?_
      refine lv_goto (tgt := 60) hx hb dX12_pays_56 (by decide) ?_
      exact w60  z5 1 _ _ _ hw (lv_sub hl [] rfl)
  have w19 : ∀ (y0 : Int32) (H : Heap) (locs : List Loc) (ls : Array Slot), w_W G M r s H locs → lv_has ls 7 [(0, .ref (g_r G)), (1, .int a0), (2, .int a1), (3, .int a2), (4, .int a3)] → W p l e rm_R_pays s m args below meth c H locs 0 0 (PQ G below args s rm_R_pays.cells rm_R_pays.slots (fun z => (.inl (some (.int z)), M, r)) (f_R_pays_19 a0 a1 a2 a3 r y0)) (F0 m 19 ls [.int y0]) := by
    intro y0 H locs ls hw hl
    unfold f_R_pays_19
    refine lv_istore (lv' := [(5, .int y0), (0, .ref (g_r G)), (1, .int a0), (2, .int a1), (3, .int a2), (4, .int a3)]) hx hb dX12_pays_19 hl (by decide) rfl (fun ls hl => ?_)
    refine lv_iload hx hb dX12_pays_21 (lv_at hl 5 rfl) ?_
    refine cx_if_eq (tgt := 35) E dX12_pays_23 (by decide) (fun _ => ?_) (fun _ => ?_)
    · refine lv_aload_n hx hb dX12_pays_35 rfl (lv_at hl 1 rfl) ?_
      refine lv_iload_n hx hb dX12_pays_36 rfl (lv_at hl 3 rfl) ?_
      refine lv_iconst (v := 1) hx hb dX12_pays_37 (by decide) ?_
      refine W_bind fun z3 hz => ?_
      refine w_after (cells1 := 0) (slots1 := 0) (w_runV E kV_R_257 kc_X12_of (t_R_of l hfl G on a1 1 M r ((fun z => (.inl (some (.int z)), M, r)) z3) (by rw [hz]; rfl)) ⟨Nat.le_of_ble_eq_true rfl, Nat.le_of_ble_eq_true rfl⟩ hw (w_recvR E hw on) rfl hl.1 rfl (Nat.le_of_ble_eq_true rfl) dX12_pays_38 ⟨Nat.le_of_ble_eq_true rfl, Nat.le_of_ble_eq_true rfl⟩) hw rfl (Nat.le_of_ble_eq_true rfl) (Nat.le_of_ble_eq_true rfl) (fun H locs hw => ?_)
      refine W.eq (g2 := F0 m 41 ls [.int z3]) rfl ?_
      have hw : w_W G M r s H locs := hw
      exact w41  y0 z3 _ _ _ hw (lv_sub hl [1, 4, 0] rfl)
    · refine lv_aload_n hx hb dX12_pays_26 rfl (lv_at hl 1 rfl) ?_
      refine lv_iload_n hx hb dX12_pays_27 rfl (lv_at hl 2 rfl) ?_
      refine lv_iconst (v := 1) hx hb dX12_pays_28 (by decide) ?_
      refine W_bind fun z4 hz => ?_
      refine w_after (cells1 := 0) (slots1 := 0) (w_runV E kV_R_257 kc_X12_of (t_R_of l hfl G on a0 1 M r ((fun z => (.inl (some (.int z)), M, r)) z4) (by rw [hz]; rfl)) ⟨Nat.le_of_ble_eq_true rfl, Nat.le_of_ble_eq_true rfl⟩ hw (w_recvR E hw on) rfl hl.1 rfl (Nat.le_of_ble_eq_true rfl) dX12_pays_29 ⟨Nat.le_of_ble_eq_true rfl, Nat.le_of_ble_eq_true rfl⟩) hw rfl (Nat.le_of_ble_eq_true rfl) (Nat.le_of_ble_eq_true rfl) (fun H locs hw => ?_)
      refine W.eq (g2 := F0 m 32 ls [.int z4]) rfl ?_
      have hw : w_W G M r s H locs := hw
      refine lv_goto (tgt := 41) hx hb dX12_pays_32 (by decide) ?_
      exact w41  y0 z4 _ _ _ hw (lv_sub hl [1, 4, 0] rfl)
  unfold f_R_pays
  refine lv_iload_n hx hb dX12_pays_0 rfl (lv_at hl 3 rfl) ?_
  refine cx_if_eq (tgt := 13) E dX12_pays_1 (by decide) (fun _ => ?_) (fun _ => ?_)
  · refine lv_aload_n hx hb dX12_pays_13 rfl (lv_at hl 0 rfl) ?_
    refine lv_iload_n hx hb dX12_pays_14 rfl (lv_at hl 1 rfl) ?_
    refine lv_iconst (v := 1) hx hb dX12_pays_15 (by decide) ?_
    refine W_bind fun z1 hz => ?_
    refine w_after (cells1 := 0) (slots1 := 0) (w_runV E kV_R_257 kc_X12_of (t_R_of l hfl G on a0 1 M r ((fun z => (.inl (some (.int z)), M, r)) z1) (by rw [hz]; rfl)) ⟨Nat.le_of_ble_eq_true rfl, Nat.le_of_ble_eq_true rfl⟩ hw (w_recvR E hw on) rfl hl.1 rfl (Nat.le_of_ble_eq_true rfl) dX12_pays_16 ⟨Nat.le_of_ble_eq_true rfl, Nat.le_of_ble_eq_true rfl⟩) hw rfl (Nat.le_of_ble_eq_true rfl) (Nat.le_of_ble_eq_true rfl) (fun H locs hw => ?_)
    refine W.eq (g2 := F0 m 19 ls [.int z1]) rfl ?_
    have hw : w_W G M r s H locs := hw
    exact w19  z1 _ _ _ hw (lv_sub hl [0, 1, 2, 3, 4] rfl)
  · refine lv_aload_n hx hb dX12_pays_4 rfl (lv_at hl 0 rfl) ?_
    refine lv_iload_n hx hb dX12_pays_5 rfl (lv_at hl 2 rfl) ?_
    refine lv_iconst (v := 1) hx hb dX12_pays_6 (by decide) ?_
    refine W_bind fun z2 hz => ?_
    refine w_after (cells1 := 0) (slots1 := 0) (w_runV E kV_R_257 kc_X12_of (t_R_of l hfl G on a1 1 M r ((fun z => (.inl (some (.int z)), M, r)) z2) (by rw [hz]; rfl)) ⟨Nat.le_of_ble_eq_true rfl, Nat.le_of_ble_eq_true rfl⟩ hw (w_recvR E hw on) rfl hl.1 rfl (Nat.le_of_ble_eq_true rfl) dX12_pays_7 ⟨Nat.le_of_ble_eq_true rfl, Nat.le_of_ble_eq_true rfl⟩) hw rfl (Nat.le_of_ble_eq_true rfl) (Nat.le_of_ble_eq_true rfl) (fun H locs hw => ?_)
    refine W.eq (g2 := F0 m 10 ls [.int z2]) rfl ?_
    have hw : w_W G M r s H locs := hw
    refine lv_goto (tgt := 19) hx hb dX12_pays_10 (by decide) ?_
    exact w19  z2 _ _ _ hw (lv_sub hl [0, 1, 2, 3, 4] rfl)
set_option maxHeartbeats 4000000 in
set_option maxRecDepth 100000 in
theorem t_R_rests (l : Launch) (hfl : l.stackTraces = false) (G : wG) (on : g_on G = true) (N : Nat) (a0 : Int32) (a1 : Int32) (M : Mem) (r : Rho) : Ctr l yX12_rests (wWs yX12_rests cX12_rests 7 (some .int)) rm_R_rests rm_R_rests.cells rm_R_rests.slots G [.ref (g_r G), .int a0, .int a1] M r ((f_R_rests N a0 a1 r).map (fun z => (.inl (some (.int z.1)), M, z.2))) := by
  refine Ctr.ofF (own := "CheekTownModel") (by decide +kernel) hfl rfl (Nat.le_of_ble_eq_true rfl) (fun p e s m args below meth c E hno hr hnm hw ls hl => ?_)
  obtain ⟨hx, hb, hts, hown, hml, hTT, -⟩ := id E
  have hl : lv_has ls 7 [(0, .ref (g_r G)), (1, .int a0), (2, .int a1)] := hl
  obtain ⟨H, hH⟩ : ∃ H, H = s.heap := ⟨_, rfl⟩
  obtain ⟨locs, hlo⟩ : ∃ L : List Loc, L = [] := ⟨_, rfl⟩
  rw [← hH, ← hlo]
  rw [← hlo] at hw
  replace hw : w_W G M r s H locs := by rw [hH]; exact hw
  have w90 : ∀ (k24 : Int32 → Int32 → Rho → Option (Int32 × Rho)) (hk24 : ∀ (x3 : Int32) (x4 : Int32) (r : Rho) (H : Heap) (locs : List Loc) (ls : Array Slot), w_W G M r s H locs → lv_has ls 7 [(0, .ref (g_r G)), (1, .int a0), (2, .int a1), (3, .int x3), (4, .int x4)] → W p l e rm_R_rests s m args below meth c H locs 0 0 (PQ G below args s rm_R_rests.cells rm_R_rests.slots (fun z => (.inl (some (.int z.1)), M, z.2)) (k24 x3 x4 r)) (F0 m 24 ls [])) (x3 : Int32) (x4 : Int32) (x5 : Int32) (x6 : Int32) (y1 : Int32) (y2 : Int32) (y3 : Int32) (r : Rho) (H : Heap) (locs : List Loc) (ls : Array Slot), w_W G M r s H locs → lv_has ls 7 [(0, .ref (g_r G)), (1, .int a0), (2, .int a1), (3, .int x3), (4, .int x4), (5, .int x5), (6, .int x6)] → W p l e rm_R_rests s m args below meth c H locs 0 0 (PQ G below args s rm_R_rests.cells rm_R_rests.slots (fun z => (.inl (some (.int z.1)), M, z.2)) (f_R_rests_90 N a0 a1 k24 x3 x4 x5 x6 y1 y2 y3 r)) (F0 m 90 ls [.int y3, .int y2, .int y1, .ref (g_r G)]) := by
    intro k24 hk24 x3 x4 x5 x6 y1 y2 y3 r H locs ls hw hl
    unfold f_R_rests_90
    refine lv_iload hx hb dX12_rests_90 (lv_at hl 5 rfl) ?_
    refine W_bind fun z6 hz => ?_
    refine w_after (cells1 := 0) (slots1 := 0) (w_runV E kV_R_327 kc_X12_pays (t_R_pays l hfl G on y1 y2 y3 x5 M r ((fun z => (.inl (some (.int z)), M, r)) z6) (by rw [hz]; rfl)) ⟨Nat.le_of_ble_eq_true rfl, Nat.le_of_ble_eq_true rfl⟩ hw (w_recvR E hw on) rfl hl.1 rfl (Nat.le_of_ble_eq_true rfl) dX12_rests_92 ⟨Nat.le_of_ble_eq_true rfl, Nat.le_of_ble_eq_true rfl⟩) hw rfl (Nat.le_of_ble_eq_true rfl) (Nat.le_of_ble_eq_true rfl) (fun H locs hw => ?_)
    refine W.eq (g2 := F0 m 95 ls [.int z6]) rfl ?_
    have hw : w_W G M r s H locs := hw
    refine lv_aload_n hx hb dX12_rests_95 rfl (lv_at hl 0 rfl) ?_
    refine lv_iload_n hx hb dX12_rests_96 rfl (lv_at hl 2 rfl) ?_
    refine lv_iload_n hx hb dX12_rests_97 rfl (lv_at hl 1 rfl) ?_
    refine lv_iload hx hb dX12_rests_98 (lv_at hl 6 rfl) ?_
    refine lv_iload hx hb dX12_rests_100 (lv_at hl 5 rfl) ?_
    refine W_bind fun z7 hz => ?_
    refine w_after (cells1 := 0) (slots1 := 0) (w_runV E kV_R_327 kc_X12_pays (t_R_pays l hfl G on a1 a0 x6 x5 M r ((fun z => (.inl (some (.int z)), M, r)) z7) (by rw [hz]; rfl)) ⟨Nat.le_of_ble_eq_true rfl, Nat.le_of_ble_eq_true rfl⟩ hw (w_recvR E hw on) rfl hl.1 rfl (Nat.le_of_ble_eq_true rfl) dX12_rests_102 ⟨Nat.le_of_ble_eq_true rfl, Nat.le_of_ble_eq_true rfl⟩) hw rfl (Nat.le_of_ble_eq_true rfl) (Nat.le_of_ble_eq_true rfl) (fun H locs hw => ?_)
    refine W.eq (g2 := F0 m 105 ls [.int z7, .int z6]) rfl ?_
    have hw : w_W G M r s H locs := hw
    refine cx_icmp_lt (tgt := 115) E dX12_rests_105 (by decide) (fun _ => ?_) (fun _ => ?_)
    · refine lv_iinc (v := x4 + 1) (lv' := [(4, .int (x4 + 1)), (0, .ref (g_r G)), (1, .int a0), (2, .int a1), (3, .int x3), (5, .int x5), (6, .int x6)]) hx hb dX12_rests_115 hl (k := 4) rfl rfl (by decide) rfl (fun ls hl => ?_)
      refine lv_goto (tgt := 24) hx hb dX12_rests_118 (by decide) ?_
      exact hk24 x3 (x4 + 1) r _ _ _ hw (lv_sub hl [1, 2, 3, 4, 0] rfl)
    · refine lv_iload_n hx hb dX12_rests_108 rfl (lv_at hl 3 rfl) ?_
      refine lv_iconst (v := 1) hx hb dX12_rests_109 (by decide) ?_
      refine lv_iload hx hb dX12_rests_110 (lv_at hl 4 rfl) ?_
      refine lv_ishl hx hb dX12_rests_112 ?_
      refine lv_ior hx hb dX12_rests_113 ?_
      refine lv_istore_n (lv' := [(3, .int (x3 ||| (1 <<< (x4 &&& 31)))), (0, .ref (g_r G)), (1, .int a0), (2, .int a1), (4, .int x4), (5, .int x5), (6, .int x6)]) hx hb dX12_rests_114 rfl hl (by decide) rfl (fun ls hl => ?_)
      refine lv_iinc (v := x4 + 1) (lv' := [(4, .int (x4 + 1)), (3, .int (x3 ||| (1 <<< (x4 &&& 31)))), (0, .ref (g_r G)), (1, .int a0), (2, .int a1), (5, .int x5), (6, .int x6)]) hx hb dX12_rests_115 hl (k := 4) rfl rfl (by decide) rfl (fun ls hl => ?_)
      refine lv_goto (tgt := 24) hx hb dX12_rests_118 (by decide) ?_
      exact hk24 (x3 ||| (1 <<< (x4 &&& 31))) (x4 + 1) r _ _ _ hw (lv_sub hl [2, 3, 4, 1, 0] rfl)
  have w59 : ∀ (k24 : Int32 → Int32 → Rho → Option (Int32 × Rho)) (hk24 : ∀ (x3 : Int32) (x4 : Int32) (r : Rho) (H : Heap) (locs : List Loc) (ls : Array Slot), w_W G M r s H locs → lv_has ls 7 [(0, .ref (g_r G)), (1, .int a0), (2, .int a1), (3, .int x3), (4, .int x4)] → W p l e rm_R_rests s m args below meth c H locs 0 0 (PQ G below args s rm_R_rests.cells rm_R_rests.slots (fun z => (.inl (some (.int z.1)), M, z.2)) (k24 x3 x4 r)) (F0 m 24 ls [])) (x3 : Int32) (x4 : Int32) (x5 : Int32) (x6 : Int32) (y1 : Int32) (y2 : Int32) (y3 : Int32) (r : Rho) (H : Heap) (locs : List Loc) (ls : Array Slot), w_W G M r s H locs → lv_has ls 7 [(0, .ref (g_r G)), (1, .int a0), (2, .int a1), (3, .int x3), (4, .int x4), (5, .int x5), (6, .int x6)] → W p l e rm_R_rests s m args below meth c H locs 0 0 (PQ G below args s rm_R_rests.cells rm_R_rests.slots (fun z => (.inl (some (.int z.1)), M, z.2)) (f_R_rests_59 N a0 a1 k24 x3 x4 x5 x6 y1 y2 y3 r)) (F0 m 59 ls [.int y3, .int y2, .int y1, .ref (g_r G)]) := by
    intro k24 hk24 x3 x4 x5 x6 y1 y2 y3 r H locs ls hw hl
    unfold f_R_rests_59
    refine lv_iload hx hb dX12_rests_59 (lv_at hl 6 rfl) ?_
    refine W_bind fun z4 hz => ?_
    refine w_after (cells1 := 0) (slots1 := 0) (w_runV E kV_R_327 kc_X12_pays (t_R_pays l hfl G on y1 y2 y3 x6 M r ((fun z => (.inl (some (.int z)), M, r)) z4) (by rw [hz]; rfl)) ⟨Nat.le_of_ble_eq_true rfl, Nat.le_of_ble_eq_true rfl⟩ hw (w_recvR E hw on) rfl hl.1 rfl (Nat.le_of_ble_eq_true rfl) dX12_rests_61 ⟨Nat.le_of_ble_eq_true rfl, Nat.le_of_ble_eq_true rfl⟩) hw rfl (Nat.le_of_ble_eq_true rfl) (Nat.le_of_ble_eq_true rfl) (fun H locs hw => ?_)
    refine W.eq (g2 := F0 m 64 ls [.int z4]) rfl ?_
    have hw : w_W G M r s H locs := hw
    refine lv_aload_n hx hb dX12_rests_64 rfl (lv_at hl 0 rfl) ?_
    refine lv_iload_n hx hb dX12_rests_65 rfl (lv_at hl 1 rfl) ?_
    refine lv_iload_n hx hb dX12_rests_66 rfl (lv_at hl 2 rfl) ?_
    refine lv_iload hx hb dX12_rests_67 (lv_at hl 5 rfl) ?_
    refine lv_iload hx hb dX12_rests_69 (lv_at hl 6 rfl) ?_
    refine W_bind fun z5 hz => ?_
    refine w_after (cells1 := 0) (slots1 := 0) (w_runV E kV_R_327 kc_X12_pays (t_R_pays l hfl G on a0 a1 x5 x6 M r ((fun z => (.inl (some (.int z)), M, r)) z5) (by rw [hz]; rfl)) ⟨Nat.le_of_ble_eq_true rfl, Nat.le_of_ble_eq_true rfl⟩ hw (w_recvR E hw on) rfl hl.1 rfl (Nat.le_of_ble_eq_true rfl) dX12_rests_71 ⟨Nat.le_of_ble_eq_true rfl, Nat.le_of_ble_eq_true rfl⟩) hw rfl (Nat.le_of_ble_eq_true rfl) (Nat.le_of_ble_eq_true rfl) (fun H locs hw => ?_)
    refine W.eq (g2 := F0 m 74 ls [.int z5, .int z4]) rfl ?_
    have hw : w_W G M r s H locs := hw
    refine cx_icmp_lt (tgt := 115) E dX12_rests_74 (by decide) (fun _ => ?_) (fun _ => ?_)
    · refine lv_iinc (v := x4 + 1) (lv' := [(4, .int (x4 + 1)), (0, .ref (g_r G)), (1, .int a0), (2, .int a1), (3, .int x3), (5, .int x5), (6, .int x6)]) hx hb dX12_rests_115 hl (k := 4) rfl rfl (by decide) rfl (fun ls hl => ?_)
      refine lv_goto (tgt := 24) hx hb dX12_rests_118 (by decide) ?_
      exact hk24 x3 (x4 + 1) r _ _ _ hw (lv_sub hl [1, 2, 3, 4, 0] rfl)
    · refine lv_aload_n hx hb dX12_rests_77 rfl (lv_at hl 0 rfl) ?_
      refine lv_iload_n hx hb dX12_rests_78 rfl (lv_at hl 2 rfl) ?_
      refine lv_iload_n hx hb dX12_rests_79 rfl (lv_at hl 1 rfl) ?_
      refine lv_iload hx hb dX12_rests_80 (lv_at hl 6 rfl) ?_
      refine cx_if_ne (tgt := 89) E dX12_rests_82 (by decide) (fun _ => ?_) (fun _ => ?_)
      · refine lv_iconst (v := 0) hx hb dX12_rests_89 (by decide) ?_
        exact w90 k24 hk24 x3 x4 x5 x6 a1 a0 0 r _ _ _ hw (lv_sub hl [0, 1, 2, 3, 4, 5, 6] rfl)
      · refine lv_iconst (v := 1) hx hb dX12_rests_85 (by decide) ?_
        refine lv_goto (tgt := 90) hx hb dX12_rests_86 (by decide) ?_
        exact w90 k24 hk24 x3 x4 x5 x6 a1 a0 1 r _ _ _ hw (lv_sub hl [0, 1, 2, 3, 4, 5, 6] rfl)
  have w24 : ∀ (n : Nat) (x3 : Int32) (x4 : Int32) (r : Rho) (H : Heap) (locs : List Loc) (ls : Array Slot), w_W G M r s H locs → lv_has ls 7 [(0, .ref (g_r G)), (1, .int a0), (2, .int a1), (3, .int x3), (4, .int x4)] → W p l e rm_R_rests s m args below meth c H locs 0 0 (PQ G below args s rm_R_rests.cells rm_R_rests.slots (fun z => (.inl (some (.int z.1)), M, z.2)) (f_R_rests_24 N a0 a1 n x3 x4 r)) (F0 m 24 ls []) := by
    intro n
    induction n with
    | zero => intros; exact W_none
    | succ n ih =>
      intro x3 x4 r H locs ls hw hl
      rw [f_R_rests_24]
      refine lv_iload hx hb dX12_rests_24 (lv_at hl 4 rfl) ?_
      refine lv_iconst (v := 4) hx hb dX12_rests_26 (by decide) ?_
      refine cx_icmp_ge (tgt := 121) E dX12_rests_27 (by decide) (fun _ => ?_) (fun _ => ?_)
      · refine lv_iload_n hx hb dX12_rests_121 rfl (lv_at hl 3 rfl) ?_
        exact p_iret E hw hr (Nat.le_of_ble_eq_true rfl) (Nat.le_of_ble_eq_true rfl) rfl dX12_rests_122
      · refine lv_iload hx hb dX12_rests_30 (lv_at hl 4 rfl) ?_
        refine lv_iconst (v := 0) hx hb dX12_rests_32 (by decide) ?_
        refine W_bind fun z2 hz => ?_
        refine w_after (cells1 := 0) (slots1 := 0) (w_runS E kS_R_305 kc_X12_isOf (t_R_isOf l hfl G x4 0 M r ((fun z => (.inl (some (.int z)), M, r)) z2) (by rw [hz]; rfl)) ⟨Nat.le_of_ble_eq_true rfl, Nat.le_of_ble_eq_true rfl⟩ hw rfl hl.1 rfl (Nat.le_of_ble_eq_true rfl) dX12_rests_33 ⟨Nat.le_of_ble_eq_true rfl, Nat.le_of_ble_eq_true rfl⟩) hw rfl (Nat.le_of_ble_eq_true rfl) (Nat.le_of_ble_eq_true rfl) (fun H locs hw => ?_)
        refine W.eq (g2 := F0 m 36 ls [.int z2]) rfl ?_
        have hw : w_W G M r s H locs := hw
        refine lv_istore (lv' := [(5, .int z2), (0, .ref (g_r G)), (1, .int a0), (2, .int a1), (3, .int x3), (4, .int x4)]) hx hb dX12_rests_36 hl (by decide) rfl (fun ls hl => ?_)
        refine lv_iload hx hb dX12_rests_38 (lv_at hl 5 rfl) ?_
        refine lv_iconst (v := 1) hx hb dX12_rests_40 (by decide) ?_
        refine W_bind fun z3 hz => ?_
        refine w_after (cells1 := 0) (slots1 := 0) (w_runS E kS_R_305 kc_X12_isOf (t_R_isOf l hfl G x4 1 M r ((fun z => (.inl (some (.int z)), M, r)) z3) (by rw [hz]; rfl)) ⟨Nat.le_of_ble_eq_true rfl, Nat.le_of_ble_eq_true rfl⟩ hw rfl hl.1 rfl (Nat.le_of_ble_eq_true rfl) dX12_rests_41 ⟨Nat.le_of_ble_eq_true rfl, Nat.le_of_ble_eq_true rfl⟩) hw rfl (Nat.le_of_ble_eq_true rfl) (Nat.le_of_ble_eq_true rfl) (fun H locs hw => ?_)
        refine W.eq (g2 := F0 m 44 ls [.int z3]) rfl ?_
        have hw : w_W G M r s H locs := hw
        refine lv_istore (lv' := [(6, .int z3), (5, .int z2), (0, .ref (g_r G)), (1, .int a0), (2, .int a1), (3, .int x3), (4, .int x4)]) hx hb dX12_rests_44 hl (by decide) rfl (fun ls hl => ?_)
        refine lv_aload_n hx hb dX12_rests_46 rfl (lv_at hl 2 rfl) ?_
        refine lv_iload_n hx hb dX12_rests_47 rfl (lv_at hl 3 rfl) ?_
        refine lv_iload_n hx hb dX12_rests_48 rfl (lv_at hl 4 rfl) ?_
        refine lv_iload hx hb dX12_rests_49 (lv_at hl 1 rfl) ?_
        refine cx_if_ne (tgt := 58) E dX12_rests_51 (by decide) (fun _ => ?_) (fun _ => ?_)
        · refine lv_iconst (v := 0) hx hb dX12_rests_58 (by decide) ?_
          exact w59 (f_R_rests_24 N a0 a1 n) ih x3 x4 z2 z3 a0 a1 0 r _ _ _ hw (lv_sub hl [2, 3, 4, 5, 6, 1, 0] rfl)
        · refine lv_iconst (v := 1) hx hb dX12_rests_54 (by decide) ?_
          refine lv_goto (tgt := 59) hx hb dX12_rests_55 (by decide) ?_
          exact w59 (f_R_rests_24 N a0 a1 n) ih x3 x4 z2 z3 a0 a1 1 r _ _ _ hw (lv_sub hl [2, 3, 4, 5, 6, 1, 0] rfl)
  unfold f_R_rests
  refine lv_aload_n hx hb dX12_rests_0 rfl (lv_at hl 0 rfl) ?_
  refine lv_aload_n hx hb dX12_rests_1 rfl (lv_at hl 0 rfl) ?_
  refine lv_iload_n hx hb dX12_rests_2 rfl (lv_at hl 1 rfl) ?_
  refine lv_iload_n hx hb dX12_rests_3 rfl (lv_at hl 2 rfl) ?_
  refine W_bind fun z1 hz => ?_
  refine w_after (cells1 := 0) (slots1 := 0) (w_runV E kV_R_277 kc_X12_two (t_R_two l hfl G on a0 a1 M r ((fun z => (.inl (some (.int z)), M, r)) z1) (by rw [hz]; rfl)) ⟨Nat.le_of_ble_eq_true rfl, Nat.le_of_ble_eq_true rfl⟩ hw (w_recvR E hw on) rfl hl.1 rfl (Nat.le_of_ble_eq_true rfl) dX12_rests_4 ⟨Nat.le_of_ble_eq_true rfl, Nat.le_of_ble_eq_true rfl⟩) hw rfl (Nat.le_of_ble_eq_true rfl) (Nat.le_of_ble_eq_true rfl) (fun H locs hw => ?_)
  refine W.eq (g2 := F0 m 7 ls [.int z1, .ref (g_r G)]) rfl ?_
  have hw : w_W G M r s H locs := hw
  refine rx_putI E hw on kF_R_56_11 (by decide) kT_11_0 dX12_rests_7 (fun H locs hw => ?_)
  refine lv_aload_n hx hb dX12_rests_10 rfl (lv_at hl 0 rfl) ?_
  refine rx_getI E hw on kF_R_56_11 (by decide) dX12_rests_11 ?_
  refine cx_if_le (tgt := 19) E dX12_rests_14 (by decide) (fun _ => ?_) (fun _ => ?_)
  · refine lv_iconst (v := 0) hx hb dX12_rests_19 (by decide) ?_
    refine lv_istore_n (lv' := [(3, .int 0), (0, .ref (g_r G)), (1, .int a0), (2, .int a1)]) hx hb dX12_rests_20 rfl hl (by decide) rfl (fun ls hl => ?_)
    refine lv_iconst (v := 0) hx hb dX12_rests_21 (by decide) ?_
    refine lv_istore (lv' := [(4, .int 0), (3, .int 0), (0, .ref (g_r G)), (1, .int a0), (2, .int a1)]) hx hb dX12_rests_22 hl (by decide) rfl (fun ls hl => ?_)
    exact w24  N 0 0 (r_set r 0 z1) _ _ _ hw (lv_sub hl [2, 3, 4, 1, 0] rfl)
  · refine lv_iconst (v := 0) hx hb dX12_rests_17 (by decide) ?_
    exact p_iret E hw hr (Nat.le_of_ble_eq_true rfl) (Nat.le_of_ble_eq_true rfl) rfl dX12_rests_18
set_option maxHeartbeats 4000000 in
set_option maxRecDepth 100000 in
theorem t_R_towards (l : Launch) (hfl : l.stackTraces = false) (G : wG) (a0 : Int32) (a1 : Int32) (M : Mem) (r : Rho) : Ctr l yX12_towards (wWs yX12_towards cX12_towards 2 (some .int)) rm_R_towards rm_R_towards.cells rm_R_towards.slots G [.int a0, .int a1] M r ((f_R_towards a0 a1).map (fun z => (.inl (some (.int z)), M, r))) := by
  refine Ctr.ofF (own := "CheekTownModel") (by decide +kernel) hfl rfl (Nat.le_of_ble_eq_true rfl) (fun p e s m args below meth c E hno hr hnm hw ls hl => ?_)
  obtain ⟨hx, hb, hts, hown, hml, hTT, -⟩ := id E
  have hl : lv_has ls 2 [(0, .int a0), (1, .int a1)] := hl
  obtain ⟨H, hH⟩ : ∃ H, H = s.heap := ⟨_, rfl⟩
  obtain ⟨locs, hlo⟩ : ∃ L : List Loc, L = [] := ⟨_, rfl⟩
  rw [← hH, ← hlo]
  rw [← hlo] at hw
  replace hw : w_W G M r s H locs := by rw [hH]; exact hw
  unfold f_R_towards
  refine lv_iload_n hx hb dX12_towards_0 rfl (lv_at hl 0 rfl) ?_
  refine lv_iload_n hx hb dX12_towards_1 rfl (lv_at hl 1 rfl) ?_
  refine cx_icmp_ge (tgt := 11) E dX12_towards_2 (by decide) (fun _ => ?_) (fun _ => ?_)
  · refine lv_iload_n hx hb dX12_towards_11 rfl (lv_at hl 0 rfl) ?_
    refine lv_iload_n hx hb dX12_towards_12 rfl (lv_at hl 1 rfl) ?_
    refine cx_icmp_le (tgt := 22) E dX12_towards_13 (by decide) (fun _ => ?_) (fun _ => ?_)
    · refine lv_iload_n hx hb dX12_towards_22 rfl (lv_at hl 0 rfl) ?_
      exact p_iret E hw hr (Nat.le_of_ble_eq_true rfl) (Nat.le_of_ble_eq_true rfl) rfl dX12_towards_23
    · refine lv_iload_n hx hb dX12_towards_16 rfl (lv_at hl 0 rfl) ?_
      refine lv_iconst (v := 1) hx hb dX12_towards_17 (by decide) ?_
      refine lv_isub hx hb dX12_towards_18 ?_
      refine lv_goto (tgt := 23) hx hb dX12_towards_19 (by decide) ?_
      exact p_iret E hw hr (Nat.le_of_ble_eq_true rfl) (Nat.le_of_ble_eq_true rfl) rfl dX12_towards_23
  · refine lv_iload_n hx hb dX12_towards_5 rfl (lv_at hl 0 rfl) ?_
    refine lv_iconst (v := 1) hx hb dX12_towards_6 (by decide) ?_
    refine lv_iadd hx hb dX12_towards_7 ?_
    refine lv_goto (tgt := 23) hx hb dX12_towards_8 (by decide) ?_
    exact p_iret E hw hr (Nat.le_of_ble_eq_true rfl) (Nat.le_of_ble_eq_true rfl) rfl dX12_towards_23
set_option maxHeartbeats 4000000 in
set_option maxRecDepth 100000 in
theorem t_R_sake (l : Launch) (hfl : l.stackTraces = false) (G : wG) (on : g_on G = true) (N : Nat) (a0 : Int32) (a1 : Int32) (a2 : Int32) (M : Mem) (r : Rho) : Ctr l yX12_sake (wWs yX12_sake cX12_sake 8 (some .int)) rm_R_sake rm_R_sake.cells rm_R_sake.slots G [.ref (g_r G), .int a0, .int a1, .int a2] M r ((f_R_sake N a0 a1 a2 r).map (fun z => (.inl (some (.int z.1)), M, z.2))) := by
  refine Ctr.ofF (own := "CheekTownModel") (by decide +kernel) hfl rfl (Nat.le_of_ble_eq_true rfl) (fun p e s m args below meth c E hno hr hnm hw ls hl => ?_)
  obtain ⟨hx, hb, hts, hown, hml, hTT, -⟩ := id E
  have hl : lv_has ls 8 [(0, .ref (g_r G)), (1, .int a0), (2, .int a1), (3, .int a2)] := hl
  obtain ⟨H, hH⟩ : ∃ H, H = s.heap := ⟨_, rfl⟩
  obtain ⟨locs, hlo⟩ : ∃ L : List Loc, L = [] := ⟨_, rfl⟩
  rw [← hH, ← hlo]
  rw [← hlo] at hw
  replace hw : w_W G M r s H locs := by rw [hH]; exact hw
  have w104 : ∀ (k70 : Int32 → Int32 → Int32 → Rho → Option (Int32 × Rho)) (hk70 : ∀ (x4 : Int32) (x5 : Int32) (x6 : Int32) (r : Rho) (H : Heap) (locs : List Loc) (ls : Array Slot), w_W G M r s H locs → lv_has ls 8 [(3, .int a2), (4, .int x4), (5, .int x5), (6, .int x6)] → W p l e rm_R_sake s m args below meth c H locs 0 0 (PQ G below args s rm_R_sake.cells rm_R_sake.slots (fun z => (.inl (some (.int z.1)), M, z.2)) (k70 x4 x5 x6 r)) (F0 m 70 ls [])) (x4 : Int32) (x5 : Int32) (x6 : Int32) (x7 : Int32) (r : Rho) (H : Heap) (locs : List Loc) (ls : Array Slot), w_W G M r s H locs → lv_has ls 8 [(3, .int a2), (4, .int x4), (5, .int x5), (6, .int x6), (7, .int x7)] → W p l e rm_R_sake s m args below meth c H locs 0 0 (PQ G below args s rm_R_sake.cells rm_R_sake.slots (fun z => (.inl (some (.int z.1)), M, z.2)) (f_R_sake_104 N a0 a1 a2 k70 x4 x5 x6 x7 r)) (F0 m 104 ls []) := by
    intro k70 hk70 x4 x5 x6 x7 r H locs ls hw hl
    unfold f_R_sake_104
    refine lv_iload hx hb dX12_sake_104 (lv_at hl 2 rfl) ?_
    refine lv_iload hx hb dX12_sake_106 (lv_at hl 4 rfl) ?_
    refine W_bind fun z9 hz => ?_
    refine w_after (cells1 := 0) (slots1 := 0) (w_runS E kS_R_331 kc_X12_towards (t_R_towards l hfl G x5 x7 M r ((fun z => (.inl (some (.int z)), M, r)) z9) (by rw [hz]; rfl)) ⟨Nat.le_of_ble_eq_true rfl, Nat.le_of_ble_eq_true rfl⟩ hw rfl hl.1 rfl (Nat.le_of_ble_eq_true rfl) dX12_sake_108 ⟨Nat.le_of_ble_eq_true rfl, Nat.le_of_ble_eq_true rfl⟩) hw rfl (Nat.le_of_ble_eq_true rfl) (Nat.le_of_ble_eq_true rfl) (fun H locs hw => ?_)
    refine W.eq (g2 := F0 m 111 ls [.int z9]) rfl ?_
    have hw : w_W G M r s H locs := hw
    refine lv_istore (lv' := [(5, .int z9), (3, .int a2), (4, .int x4), (6, .int x6), (7, .int x7)]) hx hb dX12_sake_111 hl (by decide) rfl (fun ls hl => ?_)
    refine lv_iinc (v := x6 + 1) (lv' := [(6, .int (x6 + 1)), (5, .int z9), (3, .int a2), (4, .int x4), (7, .int x7)]) hx hb dX12_sake_113 hl (k := 3) rfl rfl (by decide) rfl (fun ls hl => ?_)
    refine lv_goto (tgt := 70) hx hb dX12_sake_116 (by decide) ?_
    exact hk70 x4 z9 (x6 + 1) r _ _ _ hw (lv_sub hl [2, 3, 1, 0] rfl)
  have w70 : ∀ (n : Nat) (x4 : Int32) (x5 : Int32) (x6 : Int32) (r : Rho) (H : Heap) (locs : List Loc) (ls : Array Slot), w_W G M r s H locs → lv_has ls 8 [(3, .int a2), (4, .int x4), (5, .int x5), (6, .int x6)] → W p l e rm_R_sake s m args below meth c H locs 0 0 (PQ G below args s rm_R_sake.cells rm_R_sake.slots (fun z => (.inl (some (.int z.1)), M, z.2)) (f_R_sake_70 N a0 a1 a2 n x4 x5 x6 r)) (F0 m 70 ls []) := by
    intro n
    induction n with
    | zero => intros; exact W_none
    | succ n ih =>
      intro x4 x5 x6 r H locs ls hw hl
      rw [f_R_sake_70]
      refine lv_iload hx hb dX12_sake_70 (lv_at hl 3 rfl) ?_
      refine lv_bipush (v := 8) hx hb dX12_sake_72 (by decide) ?_
      refine cx_icmp_ge (tgt := 119) E dX12_sake_74 (by decide) (fun _ => ?_) (fun _ => ?_)
      · refine lv_iconst (v := (-1)) hx hb dX12_sake_119 (by decide) ?_
        exact p_iret E hw hr (Nat.le_of_ble_eq_true rfl) (Nat.le_of_ble_eq_true rfl) rfl dX12_sake_120
      · refine lv_iload hx hb dX12_sake_77 (lv_at hl 1 rfl) ?_
        refine lv_iload hx hb dX12_sake_79 (lv_at hl 2 rfl) ?_
        refine cx_icmp_ne (tgt := 87) E dX12_sake_81 (by decide) (fun _ => ?_) (fun _ => ?_)
        · refine lv_iload hx hb dX12_sake_87 (lv_at hl 1 rfl) ?_
          refine lv_istore (lv' := [(7, .int x4), (3, .int a2), (4, .int x4), (5, .int x5), (6, .int x6)]) hx hb dX12_sake_89 hl (by decide) rfl (fun ls hl => ?_)
          refine lv_iload_n hx hb dX12_sake_91 rfl (lv_at hl 1 rfl) ?_
          refine cx_if_ne (tgt := 104) E dX12_sake_92 (by decide) (fun _ => ?_) (fun _ => ?_)
          · exact w104 (f_R_sake_70 N a0 a1 a2 n) ih x4 x5 x6 x4 r _ _ _ hw (lv_sub hl [1, 2, 3, 4, 0] rfl)
          · refine lv_iload hx hb dX12_sake_95 (lv_at hl 2 rfl) ?_
            refine lv_iload hx hb dX12_sake_97 (lv_at hl 3 rfl) ?_
            refine W_bind fun z8 hz => ?_
            refine w_after (cells1 := 0) (slots1 := 0) (w_runS E kS_R_331 kc_X12_towards (t_R_towards l hfl G x4 x5 M r ((fun z => (.inl (some (.int z)), M, r)) z8) (by rw [hz]; rfl)) ⟨Nat.le_of_ble_eq_true rfl, Nat.le_of_ble_eq_true rfl⟩ hw rfl hl.1 rfl (Nat.le_of_ble_eq_true rfl) dX12_sake_99 ⟨Nat.le_of_ble_eq_true rfl, Nat.le_of_ble_eq_true rfl⟩) hw rfl (Nat.le_of_ble_eq_true rfl) (Nat.le_of_ble_eq_true rfl) (fun H locs hw => ?_)
            refine W.eq (g2 := F0 m 102 ls [.int z8]) rfl ?_
            have hw : w_W G M r s H locs := hw
            refine lv_istore (lv' := [(4, .int z8), (7, .int x4), (3, .int a2), (5, .int x5), (6, .int x6)]) hx hb dX12_sake_102 hl (by decide) rfl (fun ls hl => ?_)
            exact w104 (f_R_sake_70 N a0 a1 a2 n) ih z8 x5 x6 x4 r _ _ _ hw (lv_sub hl [2, 0, 3, 4, 1] rfl)
        · refine lv_iload hx hb dX12_sake_84 (lv_at hl 3 rfl) ?_
          exact p_iret E hw hr (Nat.le_of_ble_eq_true rfl) (Nat.le_of_ble_eq_true rfl) rfl dX12_sake_86
  unfold f_R_sake
  refine lv_aload_n hx hb dX12_sake_0 rfl (lv_at hl 0 rfl) ?_
  refine lv_aload_n hx hb dX12_sake_1 rfl (lv_at hl 0 rfl) ?_
  refine lv_iload_n hx hb dX12_sake_2 rfl (lv_at hl 1 rfl) ?_
  refine lv_iload_n hx hb dX12_sake_3 rfl (lv_at hl 2 rfl) ?_
  refine W_bind fun z1 hz => ?_
  refine w_after (cells1 := 0) (slots1 := 0) (w_runV E kV_R_277 kc_X12_two (t_R_two l hfl G on a0 a1 M r ((fun z => (.inl (some (.int z)), M, r)) z1) (by rw [hz]; rfl)) ⟨Nat.le_of_ble_eq_true rfl, Nat.le_of_ble_eq_true rfl⟩ hw (w_recvR E hw on) rfl hl.1 rfl (Nat.le_of_ble_eq_true rfl) dX12_sake_4 ⟨Nat.le_of_ble_eq_true rfl, Nat.le_of_ble_eq_true rfl⟩) hw rfl (Nat.le_of_ble_eq_true rfl) (Nat.le_of_ble_eq_true rfl) (fun H locs hw => ?_)
  refine W.eq (g2 := F0 m 7 ls [.int z1, .ref (g_r G)]) rfl ?_
  have hw : w_W G M r s H locs := hw
  refine rx_putI E hw on kF_R_56_11 (by decide) kT_11_0 dX12_sake_7 (fun H locs hw => ?_)
  refine lv_aload_n hx hb dX12_sake_10 rfl (lv_at hl 0 rfl) ?_
  refine rx_getI E hw on kF_R_56_11 (by decide) dX12_sake_11 ?_
  refine cx_if_le (tgt := 19) E dX12_sake_14 (by decide) (fun _ => ?_) (fun _ => ?_)
  · refine lv_aload_n hx hb dX12_sake_19 rfl (lv_at hl 0 rfl) ?_
    refine lv_iload_n hx hb dX12_sake_20 rfl (lv_at hl 1 rfl) ?_
    refine lv_iconst (v := 1) hx hb dX12_sake_21 (by decide) ?_
    refine W_bind fun z2 hz => ?_
    refine w_after (cells1 := 0) (slots1 := 0) (w_runV E kV_R_257 kc_X12_of (t_R_of l hfl G on a0 1 M (r_set r 0 z1) ((fun z => (.inl (some (.int z)), M, (r_set r 0 z1))) z2) (by rw [hz]; rfl)) ⟨Nat.le_of_ble_eq_true rfl, Nat.le_of_ble_eq_true rfl⟩ hw (w_recvR E hw on) rfl hl.1 rfl (Nat.le_of_ble_eq_true rfl) dX12_sake_22 ⟨Nat.le_of_ble_eq_true rfl, Nat.le_of_ble_eq_true rfl⟩) hw rfl (Nat.le_of_ble_eq_true rfl) (Nat.le_of_ble_eq_true rfl) (fun H locs hw => ?_)
    refine W.eq (g2 := F0 m 25 ls [.int z2]) rfl ?_
    have hw : w_W G M (r_set r 0 z1) s H locs := hw
    refine lv_iconst (v := 3) hx hb dX12_sake_25 (by decide) ?_
    refine lv_ishr hx hb dX12_sake_26 ?_
    refine lv_iconst (v := 2) hx hb dX12_sake_27 (by decide) ?_
    refine cx_icmp_ne (tgt := 43) E dX12_sake_28 (by decide) (fun _ => ?_) (fun _ => ?_)
    · refine lv_iconst (v := (-1)) hx hb dX12_sake_43 (by decide) ?_
      exact p_iret E hw hr (Nat.le_of_ble_eq_true rfl) (Nat.le_of_ble_eq_true rfl) rfl dX12_sake_44
    · refine lv_aload_n hx hb dX12_sake_31 rfl (lv_at hl 0 rfl) ?_
      refine lv_iload_n hx hb dX12_sake_32 rfl (lv_at hl 2 rfl) ?_
      refine lv_iconst (v := 1) hx hb dX12_sake_33 (by decide) ?_
      refine W_bind fun z3 hz => ?_
      refine w_after (cells1 := 0) (slots1 := 0) (w_runV E kV_R_257 kc_X12_of (t_R_of l hfl G on a1 1 M (r_set r 0 z1) ((fun z => (.inl (some (.int z)), M, (r_set r 0 z1))) z3) (by rw [hz]; rfl)) ⟨Nat.le_of_ble_eq_true rfl, Nat.le_of_ble_eq_true rfl⟩ hw (w_recvR E hw on) rfl hl.1 rfl (Nat.le_of_ble_eq_true rfl) dX12_sake_34 ⟨Nat.le_of_ble_eq_true rfl, Nat.le_of_ble_eq_true rfl⟩) hw rfl (Nat.le_of_ble_eq_true rfl) (Nat.le_of_ble_eq_true rfl) (fun H locs hw => ?_)
      refine W.eq (g2 := F0 m 37 ls [.int z3]) rfl ?_
      have hw : w_W G M (r_set r 0 z1) s H locs := hw
      refine lv_iconst (v := 3) hx hb dX12_sake_37 (by decide) ?_
      refine lv_ishr hx hb dX12_sake_38 ?_
      refine lv_iconst (v := 2) hx hb dX12_sake_39 (by decide) ?_
      refine cx_icmp_eq (tgt := 45) E dX12_sake_40 (by decide) (fun _ => ?_) (fun _ => ?_)
      · refine lv_aload_n hx hb dX12_sake_45 rfl (lv_at hl 0 rfl) ?_
        refine lv_iload_n hx hb dX12_sake_46 rfl (lv_at hl 1 rfl) ?_
        refine lv_iconst (v := 1) hx hb dX12_sake_47 (by decide) ?_
        refine W_bind fun z4 hz => ?_
        refine w_after (cells1 := 0) (slots1 := 0) (w_runV E kV_R_257 kc_X12_of (t_R_of l hfl G on a0 1 M (r_set r 0 z1) ((fun z => (.inl (some (.int z)), M, (r_set r 0 z1))) z4) (by rw [hz]; rfl)) ⟨Nat.le_of_ble_eq_true rfl, Nat.le_of_ble_eq_true rfl⟩ hw (w_recvR E hw on) rfl hl.1 rfl (Nat.le_of_ble_eq_true rfl) dX12_sake_48 ⟨Nat.le_of_ble_eq_true rfl, Nat.le_of_ble_eq_true rfl⟩) hw rfl (Nat.le_of_ble_eq_true rfl) (Nat.le_of_ble_eq_true rfl) (fun H locs hw => ?_)
        refine W.eq (g2 := F0 m 51 ls [.int z4]) rfl ?_
        have hw : w_W G M (r_set r 0 z1) s H locs := hw
        refine W_bind fun z5 hz => ?_
        refine w_after (cells1 := 0) (slots1 := 0) (w_runS E kS_R_70 kc_X12_countOf (t_R_countOf l hfl G z4 M (r_set r 0 z1) ((fun z => (.inl (some (.int z)), M, (r_set r 0 z1))) z5) (by rw [hz]; rfl)) ⟨Nat.le_of_ble_eq_true rfl, Nat.le_of_ble_eq_true rfl⟩ hw rfl hl.1 rfl (Nat.le_of_ble_eq_true rfl) dX12_sake_51 ⟨Nat.le_of_ble_eq_true rfl, Nat.le_of_ble_eq_true rfl⟩) hw rfl (Nat.le_of_ble_eq_true rfl) (Nat.le_of_ble_eq_true rfl) (fun H locs hw => ?_)
        refine W.eq (g2 := F0 m 54 ls [.int z5]) rfl ?_
        have hw : w_W G M (r_set r 0 z1) s H locs := hw
        refine lv_istore (lv' := [(4, .int z5), (0, .ref (g_r G)), (1, .int a0), (2, .int a1), (3, .int a2)]) hx hb dX12_sake_54 hl (by decide) rfl (fun ls hl => ?_)
        refine lv_aload_n hx hb dX12_sake_56 rfl (lv_at hl 1 rfl) ?_
        refine lv_iload_n hx hb dX12_sake_57 rfl (lv_at hl 3 rfl) ?_
        refine lv_iconst (v := 1) hx hb dX12_sake_58 (by decide) ?_
        refine W_bind fun z6 hz => ?_
        refine w_after (cells1 := 0) (slots1 := 0) (w_runV E kV_R_257 kc_X12_of (t_R_of l hfl G on a1 1 M (r_set r 0 z1) ((fun z => (.inl (some (.int z)), M, (r_set r 0 z1))) z6) (by rw [hz]; rfl)) ⟨Nat.le_of_ble_eq_true rfl, Nat.le_of_ble_eq_true rfl⟩ hw (w_recvR E hw on) rfl hl.1 rfl (Nat.le_of_ble_eq_true rfl) dX12_sake_59 ⟨Nat.le_of_ble_eq_true rfl, Nat.le_of_ble_eq_true rfl⟩) hw rfl (Nat.le_of_ble_eq_true rfl) (Nat.le_of_ble_eq_true rfl) (fun H locs hw => ?_)
        refine W.eq (g2 := F0 m 62 ls [.int z6]) rfl ?_
        have hw : w_W G M (r_set r 0 z1) s H locs := hw
        refine W_bind fun z7 hz => ?_
        refine w_after (cells1 := 0) (slots1 := 0) (w_runS E kS_R_70 kc_X12_countOf (t_R_countOf l hfl G z6 M (r_set r 0 z1) ((fun z => (.inl (some (.int z)), M, (r_set r 0 z1))) z7) (by rw [hz]; rfl)) ⟨Nat.le_of_ble_eq_true rfl, Nat.le_of_ble_eq_true rfl⟩ hw rfl hl.1 rfl (Nat.le_of_ble_eq_true rfl) dX12_sake_62 ⟨Nat.le_of_ble_eq_true rfl, Nat.le_of_ble_eq_true rfl⟩) hw rfl (Nat.le_of_ble_eq_true rfl) (Nat.le_of_ble_eq_true rfl) (fun H locs hw => ?_)
        refine W.eq (g2 := F0 m 65 ls [.int z7]) rfl ?_
        have hw : w_W G M (r_set r 0 z1) s H locs := hw
        refine lv_istore (lv' := [(5, .int z7), (4, .int z5), (0, .ref (g_r G)), (1, .int a0), (2, .int a1), (3, .int a2)]) hx hb dX12_sake_65 hl (by decide) rfl (fun ls hl => ?_)
        refine lv_iconst (v := 0) hx hb dX12_sake_67 (by decide) ?_
        refine lv_istore (lv' := [(6, .int 0), (5, .int z7), (4, .int z5), (0, .ref (g_r G)), (1, .int a0), (2, .int a1), (3, .int a2)]) hx hb dX12_sake_68 hl (by decide) rfl (fun ls hl => ?_)
        exact w70  N z5 z7 0 (r_set r 0 z1) _ _ _ hw (lv_sub hl [6, 2, 1, 0] rfl)
      · refine lv_iconst (v := (-1)) hx hb dX12_sake_43 (by decide) ?_
        exact p_iret E hw hr (Nat.le_of_ble_eq_true rfl) (Nat.le_of_ble_eq_true rfl) rfl dX12_sake_44
  · refine lv_iconst (v := 0) hx hb dX12_sake_17 (by decide) ?_
    exact p_iret E hw hr (Nat.le_of_ble_eq_true rfl) (Nat.le_of_ble_eq_true rfl) rfl dX12_sake_18
set_option maxHeartbeats 4000000 in
set_option maxRecDepth 100000 in
theorem t_R_bits (l : Launch) (hfl : l.stackTraces = false) (G : wG) (N : Nat) (a0 : Int32) (M : Mem) (r : Rho) : Ctr l yX12_bits (wWs yX12_bits cX12_bits 3 (some .int)) rm_R_bits rm_R_bits.cells rm_R_bits.slots G [.int a0] M r ((f_R_bits N a0).map (fun z => (.inl (some (.int z)), M, r))) := by
  refine Ctr.ofF (own := "CheekTownModel") (by decide +kernel) hfl rfl (Nat.le_of_ble_eq_true rfl) (fun p e s m args below meth c E hno hr hnm hw ls hl => ?_)
  obtain ⟨hx, hb, hts, hown, hml, hTT, -⟩ := id E
  have hl : lv_has ls 3 [(0, .int a0)] := hl
  obtain ⟨H, hH⟩ : ∃ H, H = s.heap := ⟨_, rfl⟩
  obtain ⟨locs, hlo⟩ : ∃ L : List Loc, L = [] := ⟨_, rfl⟩
  rw [← hH, ← hlo]
  rw [← hlo] at hw
  replace hw : w_W G M r s H locs := by rw [hH]; exact hw
  have w4 : ∀ (n : Nat) (x1 : Int32) (x2 : Int32) (H : Heap) (locs : List Loc) (ls : Array Slot), w_W G M r s H locs → lv_has ls 3 [(0, .int a0), (1, .int x1), (2, .int x2)] → W p l e rm_R_bits s m args below meth c H locs 0 0 (PQ G below args s rm_R_bits.cells rm_R_bits.slots (fun z => (.inl (some (.int z)), M, r)) (f_R_bits_4 N a0 n x1 x2)) (F0 m 4 ls []) := by
    intro n
    induction n with
    | zero => intros; exact W_none
    | succ n ih =>
      intro x1 x2 H locs ls hw hl
      rw [f_R_bits_4]
      refine lv_iload_n hx hb dX12_bits_4 rfl (lv_at hl 2 rfl) ?_
      refine lv_bipush (v := 31) hx hb dX12_bits_5 (by decide) ?_
      refine cx_icmp_ge (tgt := 24) E dX12_bits_7 (by decide) (fun _ => ?_) (fun _ => ?_)
      · refine lv_iload_n hx hb dX12_bits_24 rfl (lv_at hl 1 rfl) ?_
        exact p_iret E hw hr (Nat.le_of_ble_eq_true rfl) (Nat.le_of_ble_eq_true rfl) rfl dX12_bits_25
      · refine lv_iload_n hx hb dX12_bits_10 rfl (lv_at hl 1 rfl) ?_
        refine lv_iload_n hx hb dX12_bits_11 rfl (lv_at hl 0 rfl) ?_
        refine lv_iload_n hx hb dX12_bits_12 rfl (lv_at hl 2 rfl) ?_
        refine lv_ishr hx hb dX12_bits_13 ?_
        refine lv_iconst (v := 1) hx hb dX12_bits_14 (by decide) ?_
        refine lv_iand hx hb dX12_bits_15 ?_
        refine lv_iadd hx hb dX12_bits_16 ?_
        refine lv_istore_n (lv' := [(1, .int (x1 + ((a0 >>> (x2 &&& 31)) &&& 1))), (0, .int a0), (2, .int x2)]) hx hb dX12_bits_17 rfl hl (by decide) rfl (fun ls hl => ?_)
        refine lv_iinc (v := x2 + 1) (lv' := [(2, .int (x2 + 1)), (1, .int (x1 + ((a0 >>> (x2 &&& 31)) &&& 1))), (0, .int a0)]) hx hb dX12_bits_18 hl (k := 2) rfl rfl (by decide) rfl (fun ls hl => ?_)
        refine lv_goto (tgt := 4) hx hb dX12_bits_21 (by decide) ?_
        exact ih (x1 + ((a0 >>> (x2 &&& 31)) &&& 1)) (x2 + 1) _ _ _ hw (lv_sub hl [2, 1, 0] rfl)
  unfold f_R_bits
  refine lv_iconst (v := 0) hx hb dX12_bits_0 (by decide) ?_
  refine lv_istore_n (lv' := [(1, .int 0), (0, .int a0)]) hx hb dX12_bits_1 rfl hl (by decide) rfl (fun ls hl => ?_)
  refine lv_iconst (v := 0) hx hb dX12_bits_2 (by decide) ?_
  refine lv_istore_n (lv' := [(2, .int 0), (1, .int 0), (0, .int a0)]) hx hb dX12_bits_3 rfl hl (by decide) rfl (fun ls hl => ?_)
  exact w4  N 0 0 _ _ _ hw (lv_sub hl [2, 1, 0] rfl)
set_option maxHeartbeats 4000000 in
set_option maxRecDepth 100000 in
theorem t_R_sits (l : Launch) (hfl : l.stackTraces = false) (G : wG) (on : g_on G = true) (N : Nat) : ∀ (d : Nat) (a0 : Int32) (a1 : Int32) (a2 : Int32) (a3 : Int32) (M : Mem) (r : Rho), Ctr l yX12_sits (wWs yX12_sits cX12_sits 7 none) (rm_R_sits d) (rm_R_sits d).cells (rm_R_sits d).slots G [.ref (g_r G), .int a0, .int a1, .int a2, .int a3] M r ((f_R_sits N d a0 a1 a2 a3 r).map (fun z => (.inl none, M, z))) := by
  intro d
  induction d with
  | zero => intros; intro x hx; cases hx
  | succ d ihd =>
    intro a0 a1 a2 a3 M r
    refine Ctr.ofF (own := "CheekTownModel") (by decide +kernel) hfl rfl (Nat.le_of_ble_eq_true rfl) (fun p e s m args below meth c E hno hr hnm hw ls hl => ?_)
    obtain ⟨hx, hb, hts, hown, hml, hTT, -⟩ := id E
    have hl : lv_has ls 7 [(0, .ref (g_r G)), (1, .int a0), (2, .int a1), (3, .int a2), (4, .int a3)] := hl
    obtain ⟨H, hH⟩ : ∃ H, H = s.heap := ⟨_, rfl⟩
    obtain ⟨locs, hlo⟩ : ∃ L : List Loc, L = [] := ⟨_, rfl⟩
    rw [← hH, ← hlo]
    rw [← hlo] at hw
    replace hw : w_W G M r s H locs := by rw [hH]; exact hw
    have w183 : ∀ (k105 : Int32 → Rho → Option (Rho)) (hk105 : ∀ (x5 : Int32) (r : Rho) (H : Heap) (locs : List Loc) (ls : Array Slot), w_W G M r s H locs → lv_has ls 7 [(0, .ref (g_r G)), (1, .int a0), (2, .int a1), (3, .int a2), (4, .int a3), (5, .int x5)] → W p l e (rm_R_sits (d + 1)) s m args below meth c H locs 0 0 (PQ G below args s (rm_R_sits (d + 1)).cells (rm_R_sits (d + 1)).slots (fun z => (.inl none, M, z)) (k105 x5 r)) (F0 m 105 ls [])) (x5 : Int32) (y1 : Int32) (y2 : Int32) (y3 : Int32) (y4 : Int32) (y5 : Int32) (r : Rho) (H : Heap) (locs : List Loc) (ls : Array Slot), w_W G M r s H locs → lv_has ls 7 [(0, .ref (g_r G)), (1, .int a0), (2, .int a1), (3, .int a2), (4, .int a3), (5, .int x5)] → W p l e (rm_R_sits (d + 1)) s m args below meth c H locs 0 0 (PQ G below args s (rm_R_sits (d + 1)).cells (rm_R_sits (d + 1)).slots (fun z => (.inl none, M, z)) (f_R_sits_183 N (f_R_sits N d) a0 a1 a2 a3 k105 x5 y1 y2 y3 y4 y5 r)) (F0 m 183 ls [.int y5, .int y4, .int y3, .int y2, .int y1, .ref (g_r G)]) := by
      intro k105 hk105 x5 y1 y2 y3 y4 y5 r H locs ls hw hl
      unfold f_R_sits_183
      refine lv_iadd hx hb dX12_sits_183 ?_
      refine W_bind fun z13 hz => ?_
      refine w_after (cells1 := 0) (slots1 := 0) (w_runV E kV_R_337 kc_X12_sits (ihd y1 y2 y3 (y4 + y5) M r ((fun z => (.inl none, M, z)) z13) (by rw [hz]; rfl)) ⟨by show 60 + 12 * d + 0 + 1 ≤ 60 + 12 * (d + 1) + 0; omega, by show 8 + (7 + 11) + (3000 + 400 * d + 0) ≤ 3000 + 400 * (d + 1) + 0; omega⟩ hw (w_recvR E hw on) rfl hl.1 rfl (Nat.le_of_ble_eq_true rfl) dX12_sits_184 ⟨Nat.le_refl _, Nat.le_refl _⟩) hw rfl (Nat.le_refl _) (Nat.le_refl _) (fun H locs hw => ?_)
      refine W.eq (g2 := F0 m 187 ls []) rfl ?_
      have hw : w_W G M z13 s H locs := hw
      refine lv_iload_n hx hb dX12_sits_187 rfl (lv_at hl 2 rfl) ?_
      refine cx_if_ne (tgt := 192) E dX12_sits_188 (by decide) (fun _ => ?_) (fun _ => ?_)
      · refine lv_iinc (v := x5 + 1) (lv' := [(5, .int (x5 + 1)), (0, .ref (g_r G)), (1, .int a0), (2, .int a1), (3, .int a2), (4, .int a3)]) hx hb dX12_sits_192 hl (k := 5) rfl rfl (by decide) rfl (fun ls hl => ?_)
        refine lv_goto (tgt := 105) hx hb dX12_sits_195 (by decide) ?_
        exact hk105 (x5 + 1) z13 _ _ _ hw (lv_sub hl [1, 2, 3, 4, 5, 0] rfl)
      · exact p_vret E hw hr (Nat.le_of_ble_eq_true rfl) (Nat.le_of_ble_eq_true rfl) rfl dX12_sits_191
    have w105 : ∀ (n : Nat) (x5 : Int32) (r : Rho) (H : Heap) (locs : List Loc) (ls : Array Slot), w_W G M r s H locs → lv_has ls 7 [(0, .ref (g_r G)), (1, .int a0), (2, .int a1), (3, .int a2), (4, .int a3), (5, .int x5)] → W p l e (rm_R_sits (d + 1)) s m args below meth c H locs 0 0 (PQ G below args s (rm_R_sits (d + 1)).cells (rm_R_sits (d + 1)).slots (fun z => (.inl none, M, z)) (f_R_sits_105 N (f_R_sits N d) a0 a1 a2 a3 n x5 r)) (F0 m 105 ls []) := by
      intro n
      induction n with
      | zero => intros; exact W_none
      | succ n ih =>
        intro x5 r H locs ls hw hl
        rw [f_R_sits_105]
        refine lv_iload hx hb dX12_sits_105 (lv_at hl 5 rfl) ?_
        refine lv_aload_n hx hb dX12_sits_107 rfl (lv_at hl 0 rfl) ?_
        refine rx_getA E hw on kF_R_7_11 (by decide) dX12_sits_108 ?_
        refine lv_iconst (v := 5) hx hb dX12_sits_111 (by decide) ?_
        refine rx_iald E hw on (by decide) dX12_sits_112 (fun v6 => ?_)
        refine cx_icmp_ge (tgt := 198) E dX12_sits_113 (by decide) (fun _ => ?_) (fun _ => ?_)
        · exact p_vret E hw hr (Nat.le_of_ble_eq_true rfl) (Nat.le_of_ble_eq_true rfl) rfl dX12_sits_198
        · refine lv_iload_n hx hb dX12_sits_116 rfl (lv_at hl 1 rfl) ?_
          refine lv_iload hx hb dX12_sits_117 (lv_at hl 5 rfl) ?_
          refine W_bind fun z7 hz => ?_
          refine w_after (cells1 := 0) (slots1 := 0) (w_runS E kS_R_305 kc_X12_isOf (t_R_isOf l hfl G a0 x5 M r ((fun z => (.inl (some (.int z)), M, r)) z7) (by rw [hz]; rfl)) ⟨by show 0 + 1 ≤ 60 + 12 * (d + 1) + 0; omega, by show 8 + (2 + 11) + (0) ≤ 3000 + 400 * (d + 1) + 0; omega⟩ hw rfl hl.1 rfl (Nat.le_of_ble_eq_true rfl) dX12_sits_119 ⟨Nat.le_refl _, Nat.le_refl _⟩) hw rfl (Nat.le_refl _) (Nat.le_refl _) (fun H locs hw => ?_)
          refine W.eq (g2 := F0 m 122 ls [.int z7]) rfl ?_
          have hw : w_W G M r s H locs := hw
          refine cx_if_ne (tgt := 128) E dX12_sits_122 (by decide) (fun _ => ?_) (fun _ => ?_)
          · refine lv_aload_n hx hb dX12_sits_128 rfl (lv_at hl 0 rfl) ?_
            refine rx_getA E hw on kF_R_44_11 (by decide) dX12_sits_129 ?_
            refine lv_iload_n hx hb dX12_sits_132 rfl (lv_at hl 2 rfl) ?_
            refine lv_iload hx hb dX12_sits_133 (lv_at hl 5 rfl) ?_
            refine rx_iast E hw on (by decide) dX12_sits_135 (fun r8 H locs hw => ?_)
            refine lv_aload_n hx hb dX12_sits_136 rfl (lv_at hl 0 rfl) ?_
            refine lv_iload_n hx hb dX12_sits_137 rfl (lv_at hl 1 rfl) ?_
            refine lv_iconst (v := 1) hx hb dX12_sits_138 (by decide) ?_
            refine lv_iload hx hb dX12_sits_139 (lv_at hl 5 rfl) ?_
            refine lv_ishl hx hb dX12_sits_141 ?_
            refine lv_iconst (v := (-1)) hx hb dX12_sits_142 (by decide) ?_
            refine lv_ixor hx hb dX12_sits_143 ?_
            refine lv_iand hx hb dX12_sits_144 ?_
            refine lv_iload_n hx hb dX12_sits_145 rfl (lv_at hl 2 rfl) ?_
            refine lv_iconst (v := 1) hx hb dX12_sits_146 (by decide) ?_
            refine lv_iadd hx hb dX12_sits_147 ?_
            refine lv_iload_n hx hb dX12_sits_148 rfl (lv_at hl 3 rfl) ?_
            refine lv_iload hx hb dX12_sits_149 (lv_at hl 4 rfl) ?_
            refine lv_iload_n hx hb dX12_sits_151 rfl (lv_at hl 2 rfl) ?_
            refine cx_if_le (tgt := 182) E dX12_sits_152 (by decide) (fun _ => ?_) (fun _ => ?_)
            · refine lv_iconst (v := 0) hx hb dX12_sits_182 (by decide) ?_
              exact w183 (f_R_sits_105 N (f_R_sits N d) a0 a1 a2 a3 n) ih x5 (a0 &&& ((1 <<< (x5 &&& 31)) ^^^ (-1))) (a1 + 1) a2 a3 0 r8 _ _ _ hw (lv_sub hl [0, 1, 2, 3, 4, 5] rfl)
            · refine lv_aload_n hx hb dX12_sits_155 rfl (lv_at hl 0 rfl) ?_
              refine lv_aload_n hx hb dX12_sits_156 rfl (lv_at hl 0 rfl) ?_
              refine lv_aload_n hx hb dX12_sits_157 rfl (lv_at hl 0 rfl) ?_
              refine rx_getA E hw on kF_R_44_11 (by decide) dX12_sits_158 ?_
              refine lv_iload_n hx hb dX12_sits_161 rfl (lv_at hl 2 rfl) ?_
              refine lv_iconst (v := 1) hx hb dX12_sits_162 (by decide) ?_
              refine lv_isub hx hb dX12_sits_163 ?_
              refine rx_iald E hw on (by decide) dX12_sits_164 (fun v9 => ?_)
              refine lv_iconst (v := 1) hx hb dX12_sits_165 (by decide) ?_
              refine W_bind fun z10 hz => ?_
              refine w_after (cells1 := 0) (slots1 := 0) (w_runV E kV_R_257 kc_X12_of (t_R_of l hfl G on v9 1 M r8 ((fun z => (.inl (some (.int z)), M, r8)) z10) (by rw [hz]; rfl)) ⟨by show 0 + 1 ≤ 60 + 12 * (d + 1) + 0; omega, by show 8 + (3 + 11) + (0) ≤ 3000 + 400 * (d + 1) + 0; omega⟩ hw (w_recvR E hw on) rfl hl.1 rfl (Nat.le_of_ble_eq_true rfl) dX12_sits_166 ⟨Nat.le_refl _, Nat.le_refl _⟩) hw rfl (Nat.le_refl _) (Nat.le_refl _) (fun H locs hw => ?_)
              refine W.eq (g2 := F0 m 169 ls [.int z10, .ref (g_r G), .int a3, .int a2, .int (a1 + 1), .int (a0 &&& ((1 <<< (x5 &&& 31)) ^^^ (-1))), .ref (g_r G)]) rfl ?_
              have hw : w_W G M r8 s H locs := hw
              refine lv_aload_n hx hb dX12_sits_169 rfl (lv_at hl 0 rfl) ?_
              refine lv_iload hx hb dX12_sits_170 (lv_at hl 5 rfl) ?_
              refine lv_iconst (v := 1) hx hb dX12_sits_172 (by decide) ?_
              refine W_bind fun z11 hz => ?_
              refine w_after (cells1 := 0) (slots1 := 0) (w_runV E kV_R_257 kc_X12_of (t_R_of l hfl G on x5 1 M r8 ((fun z => (.inl (some (.int z)), M, r8)) z11) (by rw [hz]; rfl)) ⟨by show 0 + 1 ≤ 60 + 12 * (d + 1) + 0; omega, by show 8 + (3 + 11) + (0) ≤ 3000 + 400 * (d + 1) + 0; omega⟩ hw (w_recvR E hw on) rfl hl.1 rfl (Nat.le_of_ble_eq_true rfl) dX12_sits_173 ⟨Nat.le_refl _, Nat.le_refl _⟩) hw rfl (Nat.le_refl _) (Nat.le_refl _) (fun H locs hw => ?_)
              refine W.eq (g2 := F0 m 176 ls [.int z11, .int z10, .ref (g_r G), .int a3, .int a2, .int (a1 + 1), .int (a0 &&& ((1 <<< (x5 &&& 31)) ^^^ (-1))), .ref (g_r G)]) rfl ?_
              have hw : w_W G M r8 s H locs := hw
              refine W_bind fun z12 hz => ?_
              refine w_after (cells1 := 0) (slots1 := 0) (w_runV E kV_R_263 kc_X12_costOf (t_R_costOf l hfl G on z10 z11 M r8 ((fun z => (.inl (some (.int z)), M, r8)) z12) (by rw [hz]; rfl)) ⟨by show 1 + 1 ≤ 60 + 12 * (d + 1) + 0; omega, by show 8 + (4 + 11) + (20) ≤ 3000 + 400 * (d + 1) + 0; omega⟩ hw (w_recvR E hw on) rfl hl.1 rfl (Nat.le_of_ble_eq_true rfl) dX12_sits_176 ⟨Nat.le_refl _, Nat.le_refl _⟩) hw rfl (Nat.le_refl _) (Nat.le_refl _) (fun H locs hw => ?_)
              refine W.eq (g2 := F0 m 179 ls [.int z12, .int a3, .int a2, .int (a1 + 1), .int (a0 &&& ((1 <<< (x5 &&& 31)) ^^^ (-1))), .ref (g_r G)]) rfl ?_
              have hw : w_W G M r8 s H locs := hw
              refine lv_goto (tgt := 183) hx hb dX12_sits_179 (by decide) ?_
              exact w183 (f_R_sits_105 N (f_R_sits N d) a0 a1 a2 a3 n) ih x5 (a0 &&& ((1 <<< (x5 &&& 31)) ^^^ (-1))) (a1 + 1) a2 a3 z12 r8 _ _ _ hw (lv_sub hl [0, 1, 2, 3, 4, 5] rfl)
          · refine lv_goto (tgt := 192) hx hb dX12_sits_125 (by decide) ?_
            refine lv_iinc (v := x5 + 1) (lv' := [(5, .int (x5 + 1)), (0, .ref (g_r G)), (1, .int a0), (2, .int a1), (3, .int a2), (4, .int a3)]) hx hb dX12_sits_192 hl (k := 5) rfl rfl (by decide) rfl (fun ls hl => ?_)
            refine lv_goto (tgt := 105) hx hb dX12_sits_195 (by decide) ?_
            exact ih (x5 + 1) r _ _ _ hw (lv_sub hl [1, 2, 3, 4, 5, 0] rfl)
    have w75 : ∀ (n : Nat) (x6 : Int32) (r : Rho) (H : Heap) (locs : List Loc) (ls : Array Slot), w_W G M r s H locs → lv_has ls 7 [(0, .ref (g_r G)), (3, .int a2), (6, .int x6)] → W p l e (rm_R_sits (d + 1)) s m args below meth c H locs 0 0 (PQ G below args s (rm_R_sits (d + 1)).cells (rm_R_sits (d + 1)).slots (fun z => (.inl none, M, z)) (f_R_sits_75 N (f_R_sits N d) a0 a1 a2 a3 n x6 r)) (F0 m 75 ls []) := by
      intro n
      induction n with
      | zero => intros; exact W_none
      | succ n ih =>
        intro x6 r H locs ls hw hl
        rw [f_R_sits_75]
        refine lv_iload hx hb dX12_sits_75 (lv_at hl 2 rfl) ?_
        refine lv_iload_n hx hb dX12_sits_77 rfl (lv_at hl 1 rfl) ?_
        refine cx_icmp_ge (tgt := 101) E dX12_sits_78 (by decide) (fun _ => ?_) (fun _ => ?_)
        · exact p_vret E hw hr (Nat.le_of_ble_eq_true rfl) (Nat.le_of_ble_eq_true rfl) rfl dX12_sits_101
        · refine lv_aload_n hx hb dX12_sits_81 rfl (lv_at hl 0 rfl) ?_
          refine rx_getA E hw on kF_R_47_11 (by decide) dX12_sits_82 ?_
          refine lv_iload hx hb dX12_sits_85 (lv_at hl 2 rfl) ?_
          refine lv_aload_n hx hb dX12_sits_87 rfl (lv_at hl 0 rfl) ?_
          refine rx_getA E hw on kF_R_44_11 (by decide) dX12_sits_88 ?_
          refine lv_iload hx hb dX12_sits_91 (lv_at hl 2 rfl) ?_
          refine rx_iald E hw on (by decide) dX12_sits_93 (fun v14 => ?_)
          refine rx_iast E hw on (by decide) dX12_sits_94 (fun r15 H locs hw => ?_)
          refine lv_iinc (v := x6 + 1) (lv' := [(6, .int (x6 + 1)), (0, .ref (g_r G)), (3, .int a2)]) hx hb dX12_sits_95 hl (k := 2) rfl rfl (by decide) rfl (fun ls hl => ?_)
          refine lv_goto (tgt := 75) hx hb dX12_sits_98 (by decide) ?_
          exact ih (x6 + 1) r15 _ _ _ hw (lv_sub hl [1, 2, 0] rfl)
    have w53 : ∀ (y0 : Int32) (y1 : Int32) (r : Rho) (H : Heap) (locs : List Loc) (ls : Array Slot), w_W G M r s H locs → lv_has ls 7 [(0, .ref (g_r G)), (3, .int a2)] → W p l e (rm_R_sits (d + 1)) s m args below meth c H locs 0 0 (PQ G below args s (rm_R_sits (d + 1)).cells (rm_R_sits (d + 1)).slots (fun z => (.inl none, M, z)) (f_R_sits_53 N (f_R_sits N d) a0 a1 a2 a3 y0 y1 r)) (F0 m 53 ls [.int y1, .int y0]) := by
      intro y0 y1 r H locs ls hw hl
      unfold f_R_sits_53
      refine lv_iadd hx hb dX12_sits_53 ?_
      refine lv_istore (lv' := [(5, .int (y0 + y1)), (0, .ref (g_r G)), (3, .int a2)]) hx hb dX12_sits_54 hl (by decide) rfl (fun ls hl => ?_)
      refine lv_iload hx hb dX12_sits_56 (lv_at hl 0 rfl) ?_
      refine lv_aload_n hx hb dX12_sits_58 rfl (lv_at hl 1 rfl) ?_
      refine rx_getI E hw on kF_R_334_11 (by decide) dX12_sits_59 ?_
      refine cx_icmp_lt (tgt := 66) E dX12_sits_62 (by decide) (fun _ => ?_) (fun _ => ?_)
      · refine lv_aload_n hx hb dX12_sits_66 rfl (lv_at hl 1 rfl) ?_
        refine lv_iload hx hb dX12_sits_67 (lv_at hl 0 rfl) ?_
        refine rx_putI E hw on kF_R_334_11 (by decide) kT_11_26 dX12_sits_69 (fun H locs hw => ?_)
        refine lv_iconst (v := 0) hx hb dX12_sits_72 (by decide) ?_
        refine lv_istore (lv' := [(6, .int 0), (5, .int (y0 + y1)), (0, .ref (g_r G)), (3, .int a2)]) hx hb dX12_sits_73 hl (by decide) rfl (fun ls hl => ?_)
        exact w75  N 0 (r_set r 26 (y0 + y1)) _ _ _ hw (lv_sub hl [2, 3, 0] rfl)
      · exact p_vret E hw hr (Nat.le_of_ble_eq_true rfl) (Nat.le_of_ble_eq_true rfl) rfl dX12_sits_65
    rw [f_R_sits]
    refine lv_iload hx hb dX12_sits_0 (lv_at hl 4 rfl) ?_
    refine lv_aload_n hx hb dX12_sits_2 rfl (lv_at hl 0 rfl) ?_
    refine rx_getI E hw on kF_R_334_11 (by decide) dX12_sits_3 ?_
    refine cx_icmp_le (tgt := 10) E dX12_sits_6 (by decide) (fun _ => ?_) (fun _ => ?_)
    · refine lv_iload_n hx hb dX12_sits_10 rfl (lv_at hl 1 rfl) ?_
      refine cx_if_ne (tgt := 102) E dX12_sits_11 (by decide) (fun _ => ?_) (fun _ => ?_)
      · refine lv_iconst (v := 0) hx hb dX12_sits_102 (by decide) ?_
        refine lv_istore (lv' := [(5, .int 0), (0, .ref (g_r G)), (1, .int a0), (2, .int a1), (3, .int a2), (4, .int a3)]) hx hb dX12_sits_103 hl (by decide) rfl (fun ls hl => ?_)
        exact w105  N 0 r _ _ _ hw (lv_sub hl [1, 2, 3, 4, 5, 0] rfl)
      · refine lv_iload hx hb dX12_sits_14 (lv_at hl 4 rfl) ?_
        refine lv_iload_n hx hb dX12_sits_16 rfl (lv_at hl 3 rfl) ?_
        refine lv_iconst (v := 2) hx hb dX12_sits_17 (by decide) ?_
        refine cx_icmp_le (tgt := 52) E dX12_sits_18 (by decide) (fun _ => ?_) (fun _ => ?_)
        · refine lv_iconst (v := 0) hx hb dX12_sits_52 (by decide) ?_
          exact w53  a3 0 r _ _ _ hw (lv_sub hl [0, 3] rfl)
        · refine lv_aload_n hx hb dX12_sits_21 rfl (lv_at hl 0 rfl) ?_
          refine lv_aload_n hx hb dX12_sits_22 rfl (lv_at hl 0 rfl) ?_
          refine lv_aload_n hx hb dX12_sits_23 rfl (lv_at hl 0 rfl) ?_
          refine rx_getA E hw on kF_R_44_11 (by decide) dX12_sits_24 ?_
          refine lv_iload_n hx hb dX12_sits_27 rfl (lv_at hl 3 rfl) ?_
          refine lv_iconst (v := 1) hx hb dX12_sits_28 (by decide) ?_
          refine lv_isub hx hb dX12_sits_29 ?_
          refine rx_iald E hw on (by decide) dX12_sits_30 (fun v1 => ?_)
          refine lv_iconst (v := 1) hx hb dX12_sits_31 (by decide) ?_
          refine W_bind fun z2 hz => ?_
          refine w_after (cells1 := 0) (slots1 := 0) (w_runV E kV_R_257 kc_X12_of (t_R_of l hfl G on v1 1 M r ((fun z => (.inl (some (.int z)), M, r)) z2) (by rw [hz]; rfl)) ⟨by show 0 + 1 ≤ 60 + 12 * (d + 1) + 0; omega, by show 8 + (3 + 11) + (0) ≤ 3000 + 400 * (d + 1) + 0; omega⟩ hw (w_recvR E hw on) rfl hl.1 rfl (Nat.le_of_ble_eq_true rfl) dX12_sits_32 ⟨Nat.le_refl _, Nat.le_refl _⟩) hw rfl (Nat.le_refl _) (Nat.le_refl _) (fun H locs hw => ?_)
          refine W.eq (g2 := F0 m 35 ls [.int z2, .ref (g_r G), .int a3]) rfl ?_
          have hw : w_W G M r s H locs := hw
          refine lv_aload_n hx hb dX12_sits_35 rfl (lv_at hl 0 rfl) ?_
          refine lv_aload_n hx hb dX12_sits_36 rfl (lv_at hl 0 rfl) ?_
          refine rx_getA E hw on kF_R_44_11 (by decide) dX12_sits_37 ?_
          refine lv_iconst (v := 0) hx hb dX12_sits_40 (by decide) ?_
          refine rx_iald E hw on (by decide) dX12_sits_41 (fun v3 => ?_)
          refine lv_iconst (v := 1) hx hb dX12_sits_42 (by decide) ?_
          refine W_bind fun z4 hz => ?_
          refine w_after (cells1 := 0) (slots1 := 0) (w_runV E kV_R_257 kc_X12_of (t_R_of l hfl G on v3 1 M r ((fun z => (.inl (some (.int z)), M, r)) z4) (by rw [hz]; rfl)) ⟨by show 0 + 1 ≤ 60 + 12 * (d + 1) + 0; omega, by show 8 + (3 + 11) + (0) ≤ 3000 + 400 * (d + 1) + 0; omega⟩ hw (w_recvR E hw on) rfl hl.1 rfl (Nat.le_of_ble_eq_true rfl) dX12_sits_43 ⟨Nat.le_refl _, Nat.le_refl _⟩) hw rfl (Nat.le_refl _) (Nat.le_refl _) (fun H locs hw => ?_)
          refine W.eq (g2 := F0 m 46 ls [.int z4, .int z2, .ref (g_r G), .int a3]) rfl ?_
          have hw : w_W G M r s H locs := hw
          refine W_bind fun z5 hz => ?_
          refine w_after (cells1 := 0) (slots1 := 0) (w_runV E kV_R_263 kc_X12_costOf (t_R_costOf l hfl G on z2 z4 M r ((fun z => (.inl (some (.int z)), M, r)) z5) (by rw [hz]; rfl)) ⟨by show 1 + 1 ≤ 60 + 12 * (d + 1) + 0; omega, by show 8 + (4 + 11) + (20) ≤ 3000 + 400 * (d + 1) + 0; omega⟩ hw (w_recvR E hw on) rfl hl.1 rfl (Nat.le_of_ble_eq_true rfl) dX12_sits_46 ⟨Nat.le_refl _, Nat.le_refl _⟩) hw rfl (Nat.le_refl _) (Nat.le_refl _) (fun H locs hw => ?_)
          refine W.eq (g2 := F0 m 49 ls [.int z5, .int a3]) rfl ?_
          have hw : w_W G M r s H locs := hw
          refine lv_goto (tgt := 53) hx hb dX12_sits_49 (by decide) ?_
          exact w53  a3 z5 r _ _ _ hw (lv_sub hl [0, 3] rfl)
    · exact p_vret E hw hr (Nat.le_of_ble_eq_true rfl) (Nat.le_of_ble_eq_true rfl) rfl dX12_sits_9
set_option maxHeartbeats 4000000 in
set_option maxRecDepth 100000 in
theorem t_R_table (l : Launch) (hfl : l.stackTraces = false) (G : wG) (on : g_on G = true) (N : Nat) (a0 : Int32) (a1 : Int32) (M : Mem) (r : Rho) : Ctr l yX12_table (wWs yX12_table cX12_table 5 (some .int)) rm_R_table rm_R_table.cells rm_R_table.slots G [.ref (g_r G), .int a0, .int a1] M r ((f_R_table N a0 a1 r).map (fun z => (.inl (some (.int z.1)), M, z.2))) := by
  refine Ctr.ofF (own := "CheekTownModel") (by decide +kernel) hfl rfl (Nat.le_of_ble_eq_true rfl) (fun p e s m args below meth c E hno hr hnm hw ls hl => ?_)
  obtain ⟨hx, hb, hts, hown, hml, hTT, -⟩ := id E
  have hl : lv_has ls 5 [(0, .ref (g_r G)), (1, .int a0), (2, .int a1)] := hl
  obtain ⟨H, hH⟩ : ∃ H, H = s.heap := ⟨_, rfl⟩
  obtain ⟨locs, hlo⟩ : ∃ L : List Loc, L = [] := ⟨_, rfl⟩
  rw [← hH, ← hlo]
  rw [← hlo] at hw
  replace hw : w_W G M r s H locs := by rw [hH]; exact hw
  have w55 : ∀ (x4 : Int32) (r : Rho) (H : Heap) (locs : List Loc) (ls : Array Slot), w_W G M r s H locs → lv_has ls 5 [(0, .ref (g_r G)), (2, .int a1), (4, .int x4)] → W p l e rm_R_table s m args below meth c H locs 0 0 (PQ G below args s rm_R_table.cells rm_R_table.slots (fun z => (.inl (some (.int z.1)), M, z.2)) (f_R_table_55 N a0 a1 x4 r)) (F0 m 55 ls []) := by
    intro x4 r H locs ls hw hl
    unfold f_R_table_55
    refine lv_iload_n hx hb dX12_table_55 rfl (lv_at hl 1 rfl) ?_
    refine lv_iconst (v := (-1)) hx hb dX12_table_56 (by decide) ?_
    refine cx_icmp_ne (tgt := 74) E dX12_table_57 (by decide) (fun _ => ?_) (fun _ => ?_)
    · refine lv_iload_n hx hb dX12_table_74 rfl (lv_at hl 1 rfl) ?_
      refine lv_iconst (v := 0) hx hb dX12_table_75 (by decide) ?_
      refine lv_iload hx hb dX12_table_76 (lv_at hl 2 rfl) ?_
      refine lv_iconst (v := 1) hx hb dX12_table_78 (by decide) ?_
      refine lv_isub hx hb dX12_table_79 ?_
      refine W_bind fun z4 hz => ?_
      refine w_after (cells1 := 0) (slots1 := 0) (w_runS E kS_R_59 kc_X12_isIn (t_R_isIn l hfl G a1 0 (x4 - 1) M r ((fun z => (.inl (some (.int z)), M, r)) z4) (by rw [hz]; rfl)) ⟨Nat.le_of_ble_eq_true rfl, Nat.le_of_ble_eq_true rfl⟩ hw rfl hl.1 rfl (Nat.le_of_ble_eq_true rfl) dX12_table_80 ⟨Nat.le_of_ble_eq_true rfl, Nat.le_of_ble_eq_true rfl⟩) hw rfl (Nat.le_of_ble_eq_true rfl) (Nat.le_of_ble_eq_true rfl) (fun H locs hw => ?_)
      refine W.eq (g2 := F0 m 83 ls [.int z4]) rfl ?_
      have hw : w_W G M r s H locs := hw
      refine cx_if_eq (tgt := 95) E dX12_table_83 (by decide) (fun _ => ?_) (fun _ => ?_)
      · refine lv_iconst (v := (-1)) hx hb dX12_table_95 (by decide) ?_
        exact p_iret E hw hr (Nat.le_of_ble_eq_true rfl) (Nat.le_of_ble_eq_true rfl) rfl dX12_table_96
      · refine lv_aload_n hx hb dX12_table_86 rfl (lv_at hl 0 rfl) ?_
        refine rx_getA E hw on kF_R_47_11 (by decide) dX12_table_87 ?_
        refine lv_iload_n hx hb dX12_table_90 rfl (lv_at hl 1 rfl) ?_
        refine rx_iald E hw on (by decide) dX12_table_91 (fun v5 => ?_)
        refine lv_goto (tgt := 96) hx hb dX12_table_92 (by decide) ?_
        exact p_iret E hw hr (Nat.le_of_ble_eq_true rfl) (Nat.le_of_ble_eq_true rfl) rfl dX12_table_96
    · refine lv_iload hx hb dX12_table_60 (lv_at hl 2 rfl) ?_
      refine cx_if_ne (tgt := 69) E dX12_table_62 (by decide) (fun _ => ?_) (fun _ => ?_)
      · refine lv_aload_n hx hb dX12_table_69 rfl (lv_at hl 0 rfl) ?_
        refine rx_getI E hw on kF_R_334_11 (by decide) dX12_table_70 ?_
        exact p_iret E hw hr (Nat.le_of_ble_eq_true rfl) (Nat.le_of_ble_eq_true rfl) rfl dX12_table_73
      · refine lv_iconst (v := 0) hx hb dX12_table_65 (by decide) ?_
        refine lv_goto (tgt := 73) hx hb dX12_table_66 (by decide) ?_
        exact p_iret E hw hr (Nat.le_of_ble_eq_true rfl) (Nat.le_of_ble_eq_true rfl) rfl dX12_table_73
  unfold f_R_table
  refine lv_aload_n hx hb dX12_table_0 rfl (lv_at hl 0 rfl) ?_
  refine lv_iconst (v := 0) hx hb dX12_table_1 (by decide) ?_
  refine rx_putI E hw on kF_R_56_11 (by decide) kT_11_0 dX12_table_2 (fun H locs hw => ?_)
  refine lv_iload_n hx hb dX12_table_5 rfl (lv_at hl 1 rfl) ?_
  refine lv_iconst (v := 1) hx hb dX12_table_6 (by decide) ?_
  refine lv_aload_n hx hb dX12_table_7 rfl (lv_at hl 0 rfl) ?_
  refine rx_getA E hw on kF_R_7_11 (by decide) dX12_table_8 ?_
  refine lv_iconst (v := 5) hx hb dX12_table_11 (by decide) ?_
  refine rx_iald E hw on (by decide) dX12_table_12 (fun v1 => ?_)
  refine lv_ishl hx hb dX12_table_13 ?_
  refine lv_iconst (v := 1) hx hb dX12_table_14 (by decide) ?_
  refine lv_isub hx hb dX12_table_15 ?_
  refine lv_iand hx hb dX12_table_16 ?_
  refine lv_istore_n (lv' := [(3, .int (a0 &&& ((1 <<< (v1 &&& 31)) - 1))), (0, .ref (g_r G)), (1, .int a0), (2, .int a1)]) hx hb dX12_table_17 rfl hl (by decide) rfl (fun ls hl => ?_)
  refine lv_iload_n hx hb dX12_table_18 rfl (lv_at hl 0 rfl) ?_
  refine W_bind fun z2 hz => ?_
  refine w_after (cells1 := 0) (slots1 := 0) (w_runS E kS_R_340 kc_X12_bits (t_R_bits l hfl G N (a0 &&& ((1 <<< (v1 &&& 31)) - 1)) M (r_set r 0 0) ((fun z => (.inl (some (.int z)), M, (r_set r 0 0))) z2) (by rw [hz]; rfl)) ⟨Nat.le_of_ble_eq_true rfl, Nat.le_of_ble_eq_true rfl⟩ hw rfl hl.1 rfl (Nat.le_of_ble_eq_true rfl) dX12_table_19 ⟨Nat.le_of_ble_eq_true rfl, Nat.le_of_ble_eq_true rfl⟩) hw rfl (Nat.le_of_ble_eq_true rfl) (Nat.le_of_ble_eq_true rfl) (fun H locs hw => ?_)
  refine W.eq (g2 := F0 m 22 ls [.int z2]) rfl ?_
  have hw : w_W G M (r_set r 0 0) s H locs := hw
  refine lv_istore (lv' := [(4, .int z2), (3, .int (a0 &&& ((1 <<< (v1 &&& 31)) - 1))), (0, .ref (g_r G)), (1, .int a0), (2, .int a1)]) hx hb dX12_table_22 hl (by decide) rfl (fun ls hl => ?_)
  refine lv_iload hx hb dX12_table_24 (lv_at hl 0 rfl) ?_
  refine lv_bipush (v := 8) hx hb dX12_table_26 (by decide) ?_
  refine cx_icmp_le (tgt := 34) E dX12_table_28 (by decide) (fun _ => ?_) (fun _ => ?_)
  · refine lv_aload_n hx hb dX12_table_34 rfl (lv_at hl 2 rfl) ?_
    refine lv_ldcw hx hb hown (hts _ kC_R_343) dX12_table_35 ?_
    refine rx_putI E hw on kF_R_334_11 (by decide) kT_11_26 dX12_table_38 (fun H locs hw => ?_)
    refine lv_iload hx hb dX12_table_41 (lv_at hl 0 rfl) ?_
    refine cx_if_le (tgt := 55) E dX12_table_43 (by decide) (fun _ => ?_) (fun _ => ?_)
    · exact w55  z2 (r_set (r_set r 0 0) 26 1000000) _ _ _ hw (lv_sub hl [2, 4, 0] rfl)
    · refine lv_aload_n hx hb dX12_table_46 rfl (lv_at hl 2 rfl) ?_
      refine lv_iload_n hx hb dX12_table_47 rfl (lv_at hl 1 rfl) ?_
      refine lv_iconst (v := 0) hx hb dX12_table_48 (by decide) ?_
      refine lv_iload hx hb dX12_table_49 (lv_at hl 0 rfl) ?_
      refine lv_iconst (v := 0) hx hb dX12_table_51 (by decide) ?_
      refine W_bind fun z3 hz => ?_
      refine w_after (cells1 := 0) (slots1 := 0) (w_runV E kV_R_337 kc_X12_sits (t_R_sits l hfl G on N 10 (a0 &&& ((1 <<< (v1 &&& 31)) - 1)) 0 z2 0 M (r_set (r_set r 0 0) 26 1000000) ((fun z => (.inl none, M, z)) z3) (by rw [hz]; rfl)) ⟨Nat.le_of_ble_eq_true rfl, Nat.le_of_ble_eq_true rfl⟩ hw (w_recvR E hw on) rfl hl.1 rfl (Nat.le_of_ble_eq_true rfl) dX12_table_52 ⟨Nat.le_of_ble_eq_true rfl, Nat.le_of_ble_eq_true rfl⟩) hw rfl (Nat.le_of_ble_eq_true rfl) (Nat.le_of_ble_eq_true rfl) (fun H locs hw => ?_)
      refine W.eq (g2 := F0 m 55 ls []) rfl ?_
      have hw : w_W G M z3 s H locs := hw
      exact w55  z2 z3 _ _ _ hw (lv_sub hl [2, 4, 0] rfl)
  · refine lv_bipush (v := (-3)) hx hb dX12_table_31 (by decide) ?_
    exact p_iret E hw hr (Nat.le_of_ble_eq_true rfl) (Nat.le_of_ble_eq_true rfl) rfl dX12_table_33

