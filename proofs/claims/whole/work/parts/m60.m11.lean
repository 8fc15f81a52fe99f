set_option maxHeartbeats 4000000 in
set_option maxRecDepth 100000 in
theorem t_R_sum (l : Launch) (hfl : l.stackTraces = false) (G : wG) (on : g_on G = true) (N : Nat) (M : Mem) (r : Rho) : Ctr l yX12_sum (wWs yX12_sum cX12_sum 2 (some .int)) rm_R_sum rm_R_sum.cells rm_R_sum.slots G [.ref (g_r G)] M r ((f_R_sum N r).map (fun z => (.inl (some (.int z.1)), M, z.2))) := by
  refine Ctr.ofF (own := "CheekTownModel") (by decide +kernel) hfl rfl (Nat.le_of_ble_eq_true rfl) (fun p e s m args below meth c E hno hr hnm hw ls hl => ?_)
  obtain ⟨hx, hb, hts, hown, hml, hTT, -⟩ := id E
  have hl : lv_has ls 2 [(0, .ref (g_r G))] := hl
  obtain ⟨H, hH⟩ : ∃ H, H = s.heap := ⟨_, rfl⟩
  obtain ⟨locs, hlo⟩ : ∃ L : List Loc, L = [] := ⟨_, rfl⟩
  rw [← hH, ← hlo]
  rw [← hlo] at hw
  replace hw : w_W G M r s H locs := by rw [hH]; exact hw
  have w5 : ∀ (n : Nat) (x1 : Int32) (r : Rho) (H : Heap) (locs : List Loc) (ls : Array Slot), w_W G M r s H locs → lv_has ls 2 [(0, .ref (g_r G)), (1, .int x1)] → W p l e rm_R_sum s m args below meth c H locs 0 0 (PQ G below args s rm_R_sum.cells rm_R_sum.slots (fun z => (.inl (some (.int z.1)), M, z.2)) (f_R_sum_5 N n x1 r)) (F0 m 5 ls []) := by
    intro n
    induction n with
    | zero => intros; exact W_none
    | succ n ih =>
      intro x1 r H locs ls hw hl
      rw [f_R_sum_5]
      refine lv_aload_n hx hb dX12_sum_5 rfl (lv_at hl 0 rfl) ?_
      refine rx_getI E hw on kF_R_25_11 (by decide) dX12_sum_6 ?_
      refine lv_iconst (v := (-1)) hx hb dX12_sum_9 (by decide) ?_
      refine cx_icmp_ne (tgt := 42) E dX12_sum_10 (by decide) (fun _ => ?_) (fun _ => ?_)
      · refine lv_iload_n hx hb dX12_sum_42 rfl (lv_at hl 1 rfl) ?_
        exact p_iret E hw hr (Nat.le_of_ble_eq_true rfl) (Nat.le_of_ble_eq_true rfl) rfl dX12_sum_43
      · refine lv_aload_n hx hb dX12_sum_13 rfl (lv_at hl 0 rfl) ?_
        refine lv_bipush (v := 43) hx hb dX12_sum_14 (by decide) ?_
        refine W_bind fun z2 hz => ?_
        refine w_after (cells1 := 0) (slots1 := 0) (w_runV E kV_R_193 kc_X12_isSign (t_R_isSign l hfl G on N 43 M r ((fun z => (.inl (some (.int z.1)), M, z.2)) z2) (by rw [hz]; rfl)) ⟨Nat.le_of_ble_eq_true rfl, Nat.le_of_ble_eq_true rfl⟩ hw (w_recvR E hw on) rfl hl.1 rfl (Nat.le_of_ble_eq_true rfl) dX12_sum_16 ⟨Nat.le_of_ble_eq_true rfl, Nat.le_of_ble_eq_true rfl⟩) hw rfl (Nat.le_of_ble_eq_true rfl) (Nat.le_of_ble_eq_true rfl) (fun H locs hw => ?_)
        refine W.eq (g2 := F0 m 19 ls [.int z2.1]) rfl ?_
        have hw : w_W G M z2.2 s H locs := hw
        refine cx_if_eq (tgt := 42) E dX12_sum_19 (by decide) (fun _ => ?_) (fun _ => ?_)
        · refine lv_iload_n hx hb dX12_sum_42 rfl (lv_at hl 1 rfl) ?_
          exact p_iret E hw hr (Nat.le_of_ble_eq_true rfl) (Nat.le_of_ble_eq_true rfl) rfl dX12_sum_43
        · refine lv_aload_n hx hb dX12_sum_22 rfl (lv_at hl 0 rfl) ?_
          refine lv_dup hx hb dX12_sum_23 rfl ?_
          refine rx_getI E hw on kF_R_79_11 (by decide) dX12_sum_24 ?_
          refine lv_iconst (v := 1) hx hb dX12_sum_27 (by decide) ?_
          refine lv_iadd hx hb dX12_sum_28 ?_
          refine rx_putI E hw on kF_R_79_11 (by decide) kT_11_11 dX12_sum_29 (fun H locs hw => ?_)
          refine lv_iload_n hx hb dX12_sum_32 rfl (lv_at hl 1 rfl) ?_
          refine lv_aload_n hx hb dX12_sum_33 rfl (lv_at hl 0 rfl) ?_
          refine W_bind fun z3 hz => ?_
          refine w_after (cells1 := 0) (slots1 := 0) (w_runV E kV_R_218 kc_X12_part (t_R_part l hfl G on N M (r_set z2.2 11 ((z2.2.1 11) + 1)) ((fun z => (.inl (some (.int z.1)), M, z.2)) z3) (by rw [hz]; rfl)) ⟨Nat.le_of_ble_eq_true rfl, Nat.le_of_ble_eq_true rfl⟩ hw (w_recvR E hw on) rfl hl.1 rfl (Nat.le_of_ble_eq_true rfl) dX12_sum_34 ⟨Nat.le_of_ble_eq_true rfl, Nat.le_of_ble_eq_true rfl⟩) hw rfl (Nat.le_of_ble_eq_true rfl) (Nat.le_of_ble_eq_true rfl) (fun H locs hw => ?_)
          refine W.eq (g2 := F0 m 37 ls [.int z3.1, .int x1]) rfl ?_
          have hw : w_W G M z3.2 s H locs := hw
          refine lv_iadd hx hb dX12_sum_37 ?_
          refine lv_istore_n (lv' := [(1, .int (x1 + z3.1)), (0, .ref (g_r G))]) hx hb dX12_sum_38 rfl hl (by decide) rfl (fun ls hl => ?_)
          refine lv_goto (tgt := 5) hx hb dX12_sum_39 (by decide) ?_
          exact ih (x1 + z3.1) z3.2 _ _ _ hw (lv_sub hl [1, 0] rfl)
  unfold f_R_sum
  refine lv_aload_n hx hb dX12_sum_0 rfl (lv_at hl 0 rfl) ?_
  refine W_bind fun z1 hz => ?_
  refine w_after (cells1 := 0) (slots1 := 0) (w_runV E kV_R_218 kc_X12_part (t_R_part l hfl G on N M r ((fun z => (.inl (some (.int z.1)), M, z.2)) z1) (by rw [hz]; rfl)) ⟨Nat.le_of_ble_eq_true rfl, Nat.le_of_ble_eq_true rfl⟩ hw (w_recvR E hw on) rfl hl.1 rfl (Nat.le_of_ble_eq_true rfl) dX12_sum_1 ⟨Nat.le_of_ble_eq_true rfl, Nat.le_of_ble_eq_true rfl⟩) hw rfl (Nat.le_of_ble_eq_true rfl) (Nat.le_of_ble_eq_true rfl) (fun H locs hw => ?_)
  refine W.eq (g2 := F0 m 4 ls [.int z1.1]) rfl ?_
  have hw : w_W G M z1.2 s H locs := hw
  refine lv_istore_n (lv' := [(1, .int z1.1), (0, .ref (g_r G))]) hx hb dX12_sum_4 rfl hl (by decide) rfl (fun ls hl => ?_)
  exact w5  N z1.1 z1.2 _ _ _ hw (lv_sub hl [1, 0] rfl)
set_option maxHeartbeats 4000000 in
set_option maxRecDepth 100000 in
theorem t_R_plain (l : Launch) (hfl : l.stackTraces = false) (G : wG) (on : g_on G = true) (N : Nat) (M : Mem) (r : Rho) : Ctr l yX12_plain (wWs yX12_plain cX12_plain 4 (some .boolean)) rm_R_plain rm_R_plain.cells rm_R_plain.slots G [.ref (g_r G)] M r ((f_R_plain N r).map (fun z => (.inl (some (.int z.1)), M, z.2))) := by
  refine Ctr.ofF (own := "CheekTownModel") (by decide +kernel) hfl rfl (Nat.le_of_ble_eq_true rfl) (fun p e s m args below meth c E hno hr hnm hw ls hl => ?_)
  obtain ⟨hx, hb, hts, hown, hml, hTT, -⟩ := id E
  have hl : lv_has ls 4 [(0, .ref (g_r G))] := hl
  obtain ⟨H, hH⟩ : ∃ H, H = s.heap := ⟨_, rfl⟩
  obtain ⟨locs, hlo⟩ : ∃ L : List Loc, L = [] := ⟨_, rfl⟩
  rw [← hH, ← hlo]
  rw [← hlo] at hw
  replace hw : w_W G M r s H locs := by rw [hH]; exact hw
  have w73 : ∀ (x1 : Int32) (x2 : Int32) (r : Rho) (H : Heap) (locs : List Loc) (ls : Array Slot), w_W G M r s H locs → lv_has ls 4 [(0, .ref (g_r G)), (1, .int x1), (2, .int x2)] → W p l e rm_R_plain s m args below meth c H locs 0 0 (PQ G below args s rm_R_plain.cells rm_R_plain.slots (fun z => (.inl (some (.int z.1)), M, z.2)) (f_R_plain_73 N x1 x2 r)) (F0 m 73 ls []) := by
    intro x1 x2 r H locs ls hw hl
    unfold f_R_plain_73
    refine lv_aload_n hx hb dX12_plain_73 rfl (lv_at hl 0 rfl) ?_
    refine lv_dup hx hb dX12_plain_74 rfl ?_
    refine rx_getI E hw on kF_R_79_11 (by decide) dX12_plain_75 ?_
    refine lv_iconst (v := 1) hx hb dX12_plain_78 (by decide) ?_
    refine lv_iadd hx hb dX12_plain_79 ?_
    refine rx_putI E hw on kF_R_79_11 (by decide) kT_11_11 dX12_plain_80 (fun H locs hw => ?_)
    refine lv_aload_n hx hb dX12_plain_83 rfl (lv_at hl 0 rfl) ?_
    refine W_bind fun z9 hz => ?_
    refine w_after (cells1 := 0) (slots1 := 0) (w_runV E kV_R_230 kc_X12_sum (t_R_sum l hfl G on N M (r_set r 11 ((r.1 11) + 1)) ((fun z => (.inl (some (.int z.1)), M, z.2)) z9) (by rw [hz]; rfl)) ⟨Nat.le_of_ble_eq_true rfl, Nat.le_of_ble_eq_true rfl⟩ hw (w_recvR E hw on) rfl hl.1 rfl (Nat.le_of_ble_eq_true rfl) dX12_plain_84 ⟨Nat.le_of_ble_eq_true rfl, Nat.le_of_ble_eq_true rfl⟩) hw rfl (Nat.le_of_ble_eq_true rfl) (Nat.le_of_ble_eq_true rfl) (fun H locs hw => ?_)
    refine W.eq (g2 := F0 m 87 ls [.int z9.1]) rfl ?_
    have hw : w_W G M z9.2 s H locs := hw
    refine lv_istore_n (lv' := [(3, .int z9.1), (0, .ref (g_r G)), (1, .int x1), (2, .int x2)]) hx hb dX12_plain_87 rfl hl (by decide) rfl (fun ls hl => ?_)
    refine lv_iload_n hx hb dX12_plain_88 rfl (lv_at hl 3 rfl) ?_
    refine cx_if_eq (tgt := 105) E dX12_plain_89 (by decide) (fun _ => ?_) (fun _ => ?_)
    · refine lv_iload_n hx hb dX12_plain_105 rfl (lv_at hl 2 rfl) ?_
      refine lv_iload_n hx hb dX12_plain_106 rfl (lv_at hl 0 rfl) ?_
      refine cx_icmp_le (tgt := 114) E dX12_plain_107 (by decide) (fun _ => ?_) (fun _ => ?_)
      · refine lv_iconst (v := 0) hx hb dX12_plain_114 (by decide) ?_
        exact p_zret E hw hr (by decide) (Nat.le_of_ble_eq_true rfl) (Nat.le_of_ble_eq_true rfl) rfl dX12_plain_115
      · refine lv_iconst (v := 1) hx hb dX12_plain_110 (by decide) ?_
        refine lv_goto (tgt := 115) hx hb dX12_plain_111 (by decide) ?_
        exact p_zret E hw hr (by decide) (Nat.le_of_ble_eq_true rfl) (Nat.le_of_ble_eq_true rfl) rfl dX12_plain_115
    · refine lv_iload_n hx hb dX12_plain_92 rfl (lv_at hl 2 rfl) ?_
      refine lv_iload_n hx hb dX12_plain_93 rfl (lv_at hl 0 rfl) ?_
      refine cx_icmp_ge (tgt := 101) E dX12_plain_94 (by decide) (fun _ => ?_) (fun _ => ?_)
      · refine lv_iconst (v := 0) hx hb dX12_plain_101 (by decide) ?_
        refine lv_goto (tgt := 115) hx hb dX12_plain_102 (by decide) ?_
        exact p_zret E hw hr (by decide) (Nat.le_of_ble_eq_true rfl) (Nat.le_of_ble_eq_true rfl) rfl dX12_plain_115
      · refine lv_iconst (v := 1) hx hb dX12_plain_97 (by decide) ?_
        refine lv_goto (tgt := 115) hx hb dX12_plain_98 (by decide) ?_
        exact p_zret E hw hr (by decide) (Nat.le_of_ble_eq_true rfl) (Nat.le_of_ble_eq_true rfl) rfl dX12_plain_115
  unfold f_R_plain
  refine lv_aload_n hx hb dX12_plain_0 rfl (lv_at hl 0 rfl) ?_
  refine va_ldcS hx hb hown (hTT.2.2.1 50 _ rfl) dX12_plain_1 ?_
  refine W_bind fun z1 hz => ?_
  refine w_after (cells1 := 0) (slots1 := 0) (w_runV E kV_R_101 kc_X12_has_ (t_R_has_ l hfl G on N 50 M r ((fun z => (.inl (some (.int z.1)), M, z.2)) z1) (by rw [hz]; rfl)) ⟨Nat.le_of_ble_eq_true rfl, Nat.le_of_ble_eq_true rfl⟩ hw (w_recvR E hw on) rfl hl.1 rfl (Nat.le_of_ble_eq_true rfl) dX12_plain_3 ⟨Nat.le_of_ble_eq_true rfl, Nat.le_of_ble_eq_true rfl⟩) hw rfl (Nat.le_of_ble_eq_true rfl) (Nat.le_of_ble_eq_true rfl) (fun H locs hw => ?_)
  refine W.eq (g2 := F0 m 6 ls [.int z1.1]) rfl ?_
  have hw : w_W G M z1.2 s H locs := hw
  refine cx_if_eq (tgt := 14) E dX12_plain_6 (by decide) (fun _ => ?_) (fun _ => ?_)
  · refine lv_aload_n hx hb dX12_plain_14 rfl (lv_at hl 0 rfl) ?_
    refine va_ldcS hx hb hown (hTT.2.2.1 51 _ rfl) dX12_plain_15 ?_
    refine W_bind fun z2 hz => ?_
    refine w_after (cells1 := 0) (slots1 := 0) (w_runV E kV_R_101 kc_X12_has_ (t_R_has_ l hfl G on N 51 M z1.2 ((fun z => (.inl (some (.int z.1)), M, z.2)) z2) (by rw [hz]; rfl)) ⟨Nat.le_of_ble_eq_true rfl, Nat.le_of_ble_eq_true rfl⟩ hw (w_recvR E hw on) rfl hl.1 rfl (Nat.le_of_ble_eq_true rfl) dX12_plain_17 ⟨Nat.le_of_ble_eq_true rfl, Nat.le_of_ble_eq_true rfl⟩) hw rfl (Nat.le_of_ble_eq_true rfl) (Nat.le_of_ble_eq_true rfl) (fun H locs hw => ?_)
    refine W.eq (g2 := F0 m 20 ls [.int z2.1]) rfl ?_
    have hw : w_W G M z2.2 s H locs := hw
    refine cx_if_eq (tgt := 28) E dX12_plain_20 (by decide) (fun _ => ?_) (fun _ => ?_)
    · refine lv_aload_n hx hb dX12_plain_28 rfl (lv_at hl 0 rfl) ?_
      refine W_bind fun z3 hz => ?_
      refine w_after (cells1 := 0) (slots1 := 0) (w_runV E kV_R_230 kc_X12_sum (t_R_sum l hfl G on N M z2.2 ((fun z => (.inl (some (.int z.1)), M, z.2)) z3) (by rw [hz]; rfl)) ⟨Nat.le_of_ble_eq_true rfl, Nat.le_of_ble_eq_true rfl⟩ hw (w_recvR E hw on) rfl hl.1 rfl (Nat.le_of_ble_eq_true rfl) dX12_plain_29 ⟨Nat.le_of_ble_eq_true rfl, Nat.le_of_ble_eq_true rfl⟩) hw rfl (Nat.le_of_ble_eq_true rfl) (Nat.le_of_ble_eq_true rfl) (fun H locs hw => ?_)
      refine W.eq (g2 := F0 m 32 ls [.int z3.1]) rfl ?_
      have hw : w_W G M z3.2 s H locs := hw
      refine lv_istore_n (lv' := [(1, .int z3.1), (0, .ref (g_r G))]) hx hb dX12_plain_32 rfl hl (by decide) rfl (fun ls hl => ?_)
      refine lv_aload_n hx hb dX12_plain_33 rfl (lv_at hl 1 rfl) ?_
      refine rx_getI E hw on kF_R_25_11 (by decide) dX12_plain_34 ?_
      refine lv_iconst (v := (-1)) hx hb dX12_plain_37 (by decide) ?_
      refine cx_icmp_eq (tgt := 43) E dX12_plain_38 (by decide) (fun _ => ?_) (fun _ => ?_)
      · refine lv_aload_n hx hb dX12_plain_43 rfl (lv_at hl 1 rfl) ?_
        refine lv_bipush (v := 60) hx hb dX12_plain_44 (by decide) ?_
        refine W_bind fun z4 hz => ?_
        refine w_after (cells1 := 0) (slots1 := 0) (w_runV E kV_R_193 kc_X12_isSign (t_R_isSign l hfl G on N 60 M z3.2 ((fun z => (.inl (some (.int z.1)), M, z.2)) z4) (by rw [hz]; rfl)) ⟨Nat.le_of_ble_eq_true rfl, Nat.le_of_ble_eq_true rfl⟩ hw (w_recvR E hw on) rfl hl.1 rfl (Nat.le_of_ble_eq_true rfl) dX12_plain_46 ⟨Nat.le_of_ble_eq_true rfl, Nat.le_of_ble_eq_true rfl⟩) hw rfl (Nat.le_of_ble_eq_true rfl) (Nat.le_of_ble_eq_true rfl) (fun H locs hw => ?_)
        refine W.eq (g2 := F0 m 49 ls [.int z4.1]) rfl ?_
        have hw : w_W G M z4.2 s H locs := hw
        refine lv_istore_n (lv' := [(2, .int z4.1), (1, .int z3.1), (0, .ref (g_r G))]) hx hb dX12_plain_49 rfl hl (by decide) rfl (fun ls hl => ?_)
        refine lv_iload_n hx hb dX12_plain_50 rfl (lv_at hl 0 rfl) ?_
        refine cx_if_ne (tgt := 73) E dX12_plain_51 (by decide) (fun _ => ?_) (fun _ => ?_)
        · exact w73  z3.1 z4.1 z4.2 _ _ _ hw (lv_sub hl [2, 1, 0] rfl)
        · refine lv_aload_n hx hb dX12_plain_54 rfl (lv_at hl 2 rfl) ?_
          refine lv_bipush (v := 62) hx hb dX12_plain_55 (by decide) ?_
          refine W_bind fun z5 hz => ?_
          refine w_after (cells1 := 0) (slots1 := 0) (w_runV E kV_R_193 kc_X12_isSign (t_R_isSign l hfl G on N 62 M z4.2 ((fun z => (.inl (some (.int z.1)), M, z.2)) z5) (by rw [hz]; rfl)) ⟨Nat.le_of_ble_eq_true rfl, Nat.le_of_ble_eq_true rfl⟩ hw (w_recvR E hw on) rfl hl.1 rfl (Nat.le_of_ble_eq_true rfl) dX12_plain_57 ⟨Nat.le_of_ble_eq_true rfl, Nat.le_of_ble_eq_true rfl⟩) hw rfl (Nat.le_of_ble_eq_true rfl) (Nat.le_of_ble_eq_true rfl) (fun H locs hw => ?_)
          refine W.eq (g2 := F0 m 60 ls [.int z5.1]) rfl ?_
          have hw : w_W G M z5.2 s H locs := hw
          refine cx_if_ne (tgt := 73) E dX12_plain_60 (by decide) (fun _ => ?_) (fun _ => ?_)
          · exact w73  z3.1 z4.1 z5.2 _ _ _ hw (lv_sub hl [2, 1, 0] rfl)
          · refine lv_aload_n hx hb dX12_plain_63 rfl (lv_at hl 2 rfl) ?_
            refine lv_aload_n hx hb dX12_plain_64 rfl (lv_at hl 2 rfl) ?_
            refine rx_getI E hw on kF_R_79_11 (by decide) dX12_plain_65 ?_
            refine W_bind fun z6 hz => ?_
            refine w_after (cells1 := 0) (slots1 := 0) (w_runV E kV_R_105 kc_X12_wrong (t_R_wrong l hfl G on (z5.2.1 11) M z5.2 ((fun z => (.inl none, M, z)) z6) (by rw [hz]; rfl)) ⟨Nat.le_of_ble_eq_true rfl, Nat.le_of_ble_eq_true rfl⟩ hw (w_recvR E hw on) rfl hl.1 rfl (Nat.le_of_ble_eq_true rfl) dX12_plain_68 ⟨Nat.le_of_ble_eq_true rfl, Nat.le_of_ble_eq_true rfl⟩) hw rfl (Nat.le_of_ble_eq_true rfl) (Nat.le_of_ble_eq_true rfl) (fun H locs hw => ?_)
            refine W.eq (g2 := F0 m 71 ls []) rfl ?_
            have hw : w_W G M z6 s H locs := hw
            refine lv_iconst (v := 0) hx hb dX12_plain_71 (by decide) ?_
            exact p_zret E hw hr (by decide) (Nat.le_of_ble_eq_true rfl) (Nat.le_of_ble_eq_true rfl) rfl dX12_plain_72
      · refine lv_iconst (v := 0) hx hb dX12_plain_41 (by decide) ?_
        exact p_zret E hw hr (by decide) (Nat.le_of_ble_eq_true rfl) (Nat.le_of_ble_eq_true rfl) rfl dX12_plain_42
    · refine lv_aload_n hx hb dX12_plain_23 rfl (lv_at hl 0 rfl) ?_
      refine rx_getI E hw on kF_R_227_11 (by decide) dX12_plain_24 ?_
      refine W_bind fun z7 hz => ?_
      obtain ⟨rfl, hz0⟩ := zg_ok hz
      exact p_zret E hw hr hz0 (Nat.le_of_ble_eq_true rfl) (Nat.le_of_ble_eq_true rfl) rfl dX12_plain_27
  · refine lv_aload_n hx hb dX12_plain_9 rfl (lv_at hl 0 rfl) ?_
    refine rx_getI E hw on kF_R_223_11 (by decide) dX12_plain_10 ?_
    refine W_bind fun z8 hz => ?_
    obtain ⟨rfl, hz0⟩ := zg_ok hz
    exact p_zret E hw hr hz0 (Nat.le_of_ble_eq_true rfl) (Nat.le_of_ble_eq_true rfl) rfl dX12_plain_13
set_option maxHeartbeats 4000000 in
set_option maxRecDepth 100000 in
theorem t_R_atom (l : Launch) (hfl : l.stackTraces = false) (G : wG) (on : g_on G = true) (N : Nat) : ∀ (d : Nat) (M : Mem) (r : Rho), Ctr l yX12_atom (wWs yX12_atom cX12_atom 4 (some .boolean)) (rm_R_atom d) (rm_R_atom d).cells (rm_R_atom d).slots G [.ref (g_r G)] M r ((f_R_atom N d r).map (fun z => (.inl (some (.int z.1)), M, z.2))) := by
  intro d
  induction d with
  | zero => intros; intro x hx; cases hx
  | succ d ihd =>
    intro M r
    refine Ctr.ofF (own := "CheekTownModel") (by decide +kernel) hfl rfl (Nat.le_of_ble_eq_true rfl) (fun p e s m args below meth c E hno hr hnm hw ls hl => ?_)
    obtain ⟨hx, hb, hts, hown, hml, hTT, -⟩ := id E
    have hl : lv_has ls 4 [(0, .ref (g_r G))] := hl
    obtain ⟨H, hH⟩ : ∃ H, H = s.heap := ⟨_, rfl⟩
    obtain ⟨locs, hlo⟩ : ∃ L : List Loc, L = [] := ⟨_, rfl⟩
    rw [← hH, ← hlo]
    rw [← hlo] at hw
    replace hw : w_W G M r s H locs := by rw [hH]; exact hw
    have w138 : ∀ (x3 : Int32) (r : Rho) (H : Heap) (locs : List Loc) (ls : Array Slot), w_W G M r s H locs → lv_has ls 4 [(0, .ref (g_r G)), (3, .int x3)] → W p l e (rm_R_atom (d + 1)) s m args below meth c H locs 0 0 (PQ G below args s (rm_R_atom (d + 1)).cells (rm_R_atom (d + 1)).slots (fun z => (.inl (some (.int z.1)), M, z.2)) (f_R_atom_138 N (f_R_atom N d) x3 r)) (F0 m 138 ls []) := by
      intro x3 r H locs ls hw hl
      unfold f_R_atom_138
      refine lv_aload_n hx hb dX12_atom_138 rfl (lv_at hl 0 rfl) ?_
      refine lv_dup hx hb dX12_atom_139 rfl ?_
      refine rx_getI E hw on kF_R_184_11 (by decide) dX12_atom_140 ?_
      refine lv_iconst (v := 1) hx hb dX12_atom_143 (by decide) ?_
      refine lv_isub hx hb dX12_atom_144 ?_
      refine rx_putI E hw on kF_R_184_11 (by decide) kT_11_13 dX12_atom_145 (fun H locs hw => ?_)
      refine lv_iload_n hx hb dX12_atom_148 rfl (lv_at hl 1 rfl) ?_
      refine W_bind fun z11 hz => ?_
      obtain ⟨rfl, hz0⟩ := zg_ok hz
      exact p_zret E hw hr hz0 (Nat.le_of_ble_eq_true rfl) (Nat.le_of_ble_eq_true rfl) rfl dX12_atom_149
    have w128 : ∀ (x3 : Int32) (r : Rho) (H : Heap) (locs : List Loc) (ls : Array Slot), w_W G M r s H locs → lv_has ls 4 [(0, .ref (g_r G)), (3, .int x3)] → W p l e (rm_R_atom (d + 1)) s m args below meth c H locs 0 0 (PQ G below args s (rm_R_atom (d + 1)).cells (rm_R_atom (d + 1)).slots (fun z => (.inl (some (.int z.1)), M, z.2)) (f_R_atom_128 N (f_R_atom N d) x3 r)) (F0 m 128 ls []) := by
      intro x3 r H locs ls hw hl
      unfold f_R_atom_128
      refine lv_aload_n hx hb dX12_atom_128 rfl (lv_at hl 0 rfl) ?_
      refine lv_dup hx hb dX12_atom_129 rfl ?_
      refine rx_getI E hw on kF_R_79_11 (by decide) dX12_atom_130 ?_
      refine lv_iconst (v := 1) hx hb dX12_atom_133 (by decide) ?_
      refine lv_iadd hx hb dX12_atom_134 ?_
      refine rx_putI E hw on kF_R_79_11 (by decide) kT_11_11 dX12_atom_135 (fun H locs hw => ?_)
      exact w138  x3 (r_set r 11 ((r.1 11) + 1)) _ _ _ hw (lv_sub hl [0, 1] rfl)
    have w84 : ∀ (y0 : Int32) (r : Rho) (H : Heap) (locs : List Loc) (ls : Array Slot), w_W G M r s H locs → lv_has ls 4 [(0, .ref (g_r G))] → W p l e (rm_R_atom (d + 1)) s m args below meth c H locs 0 0 (PQ G below args s (rm_R_atom (d + 1)).cells (rm_R_atom (d + 1)).slots (fun z => (.inl (some (.int z.1)), M, z.2)) (f_R_atom_84 N (f_R_atom N d) y0 r)) (F0 m 84 ls [.int y0]) := by
      intro y0 r H locs ls hw hl
      unfold f_R_atom_84
      refine lv_istore_n (lv' := [(3, .int y0), (0, .ref (g_r G))]) hx hb dX12_atom_84 rfl hl (by decide) rfl (fun ls hl => ?_)
      refine lv_goto (tgt := 138) hx hb dX12_atom_85 (by decide) ?_
      exact w138  y0 r _ _ _ hw (lv_sub hl [1, 0] rfl)
    have w40 : ∀ (x1 : Int32) (x2 : Int32) (r : Rho) (H : Heap) (locs : List Loc) (ls : Array Slot), w_W G M r s H locs → lv_has ls 4 [(0, .ref (g_r G)), (1, .int x1), (2, .int x2)] → W p l e (rm_R_atom (d + 1)) s m args below meth c H locs 0 0 (PQ G below args s (rm_R_atom (d + 1)).cells (rm_R_atom (d + 1)).slots (fun z => (.inl (some (.int z.1)), M, z.2)) (f_R_atom_40 N (f_R_atom N d) x1 x2 r)) (F0 m 40 ls []) := by
      intro x1 x2 r H locs ls hw hl
      unfold f_R_atom_40
      refine lv_aload_n hx hb dX12_atom_40 rfl (lv_at hl 0 rfl) ?_
      refine rx_getI E hw on kF_R_184_11 (by decide) dX12_atom_41 ?_
      refine lv_bipush (v := 6) hx hb dX12_atom_44 (by decide) ?_
      refine cx_icmp_ne (tgt := 56) E dX12_atom_46 (by decide) (fun _ => ?_) (fun _ => ?_)
      · refine lv_aload_n hx hb dX12_atom_56 rfl (lv_at hl 0 rfl) ?_
        refine lv_dup hx hb dX12_atom_57 rfl ?_
        refine rx_getI E hw on kF_R_184_11 (by decide) dX12_atom_58 ?_
        refine lv_iconst (v := 1) hx hb dX12_atom_61 (by decide) ?_
        refine lv_iadd hx hb dX12_atom_62 ?_
        refine rx_putI E hw on kF_R_184_11 (by decide) kT_11_13 dX12_atom_63 (fun H locs hw => ?_)
        refine lv_iconst (v := 0) hx hb dX12_atom_66 (by decide) ?_
        refine lv_istore_n (lv' := [(3, .int 0), (0, .ref (g_r G)), (1, .int x1), (2, .int x2)]) hx hb dX12_atom_67 rfl hl (by decide) rfl (fun ls hl => ?_)
        refine lv_iload_n hx hb dX12_atom_68 rfl (lv_at hl 3 rfl) ?_
        refine cx_if_eq (tgt := 88) E dX12_atom_69 (by decide) (fun _ => ?_) (fun _ => ?_)
        · refine lv_aload_n hx hb dX12_atom_88 rfl (lv_at hl 1 rfl) ?_
          refine lv_dup hx hb dX12_atom_89 rfl ?_
          refine rx_getI E hw on kF_R_79_11 (by decide) dX12_atom_90 ?_
          refine lv_iconst (v := 1) hx hb dX12_atom_93 (by decide) ?_
          refine lv_iadd hx hb dX12_atom_94 ?_
          refine rx_putI E hw on kF_R_79_11 (by decide) kT_11_11 dX12_atom_95 (fun H locs hw => ?_)
          refine lv_aload_n hx hb dX12_atom_98 rfl (lv_at hl 1 rfl) ?_
          refine W_bind fun z6 hz => ?_
          refine w_after (cells1 := 0) (slots1 := 0) (w_runV E kV_R_242 kc_X12_some (t_R_some l hfl G on N (f_R_atom N d) d ihd M (r_set (r_set r 13 ((r.1 13) + 1)) 11 (((r_set r 13 ((r.1 13) + 1)).1 11) + 1)) ((fun z => (.inl (some (.int z.1)), M, z.2)) z6) (by rw [hz]; rfl)) ⟨by show 60 + 12 * d + 2 + 1 ≤ 60 + 12 * (d + 1) + 0; omega, by show 8 + (3 + 11) + (3000 + 400 * d + 120) ≤ 3000 + 400 * (d + 1) + 0; omega⟩ hw (w_recvR E hw on) rfl hl.1 rfl (Nat.le_of_ble_eq_true rfl) dX12_atom_99 ⟨Nat.le_refl _, Nat.le_refl _⟩) hw rfl (Nat.le_refl _) (Nat.le_refl _) (fun H locs hw => ?_)
          refine W.eq (g2 := F0 m 102 ls [.int z6.1]) rfl ?_
          have hw : w_W G M z6.2 s H locs := hw
          refine lv_istore_n (lv' := [(3, .int z6.1), (0, .ref (g_r G)), (1, .int x1), (2, .int x2)]) hx hb dX12_atom_102 rfl hl (by decide) rfl (fun ls hl => ?_)
          refine lv_aload_n hx hb dX12_atom_103 rfl (lv_at hl 1 rfl) ?_
          refine rx_getI E hw on kF_R_25_11 (by decide) dX12_atom_104 ?_
          refine lv_iconst (v := (-1)) hx hb dX12_atom_107 (by decide) ?_
          refine cx_icmp_ne (tgt := 128) E dX12_atom_108 (by decide) (fun _ => ?_) (fun _ => ?_)
          · exact w128  z6.1 z6.2 _ _ _ hw (lv_sub hl [1, 0] rfl)
          · refine lv_aload_n hx hb dX12_atom_111 rfl (lv_at hl 1 rfl) ?_
            refine lv_bipush (v := 41) hx hb dX12_atom_112 (by decide) ?_
            refine W_bind fun z7 hz => ?_
            refine w_after (cells1 := 0) (slots1 := 0) (w_runV E kV_R_193 kc_X12_isSign (t_R_isSign l hfl G on N 41 M z6.2 ((fun z => (.inl (some (.int z.1)), M, z.2)) z7) (by rw [hz]; rfl)) ⟨by show 2 + 1 ≤ 60 + 12 * (d + 1) + 0; omega, by show 8 + (2 + 11) + (41) ≤ 3000 + 400 * (d + 1) + 0; omega⟩ hw (w_recvR E hw on) rfl hl.1 rfl (Nat.le_of_ble_eq_true rfl) dX12_atom_114 ⟨Nat.le_refl _, Nat.le_refl _⟩) hw rfl (Nat.le_refl _) (Nat.le_refl _) (fun H locs hw => ?_)
            refine W.eq (g2 := F0 m 117 ls [.int z7.1]) rfl ?_
            have hw : w_W G M z7.2 s H locs := hw
            refine cx_if_ne (tgt := 128) E dX12_atom_117 (by decide) (fun _ => ?_) (fun _ => ?_)
            · exact w128  z6.1 z7.2 _ _ _ hw (lv_sub hl [1, 0] rfl)
            · refine lv_aload_n hx hb dX12_atom_120 rfl (lv_at hl 1 rfl) ?_
              refine lv_aload_n hx hb dX12_atom_121 rfl (lv_at hl 1 rfl) ?_
              refine rx_getI E hw on kF_R_79_11 (by decide) dX12_atom_122 ?_
              refine W_bind fun z8 hz => ?_
              refine w_after (cells1 := 0) (slots1 := 0) (w_runV E kV_R_105 kc_X12_wrong (t_R_wrong l hfl G on (z7.2.1 11) M z7.2 ((fun z => (.inl none, M, z)) z8) (by rw [hz]; rfl)) ⟨by show 0 + 1 ≤ 60 + 12 * (d + 1) + 0; omega, by show 8 + (2 + 11) + (0) ≤ 3000 + 400 * (d + 1) + 0; omega⟩ hw (w_recvR E hw on) rfl hl.1 rfl (Nat.le_of_ble_eq_true rfl) dX12_atom_125 ⟨Nat.le_refl _, Nat.le_refl _⟩) hw rfl (Nat.le_refl _) (Nat.le_refl _) (fun H locs hw => ?_)
              refine W.eq (g2 := F0 m 128 ls []) rfl ?_
              have hw : w_W G M z8 s H locs := hw
              exact w128  z6.1 z8 _ _ _ hw (lv_sub hl [1, 0] rfl)
        · refine lv_aload_n hx hb dX12_atom_72 rfl (lv_at hl 1 rfl) ?_
          refine W_bind fun z9 hz => ?_
          refine w_after (cells1 := 0) (slots1 := 0) (w_runV E kV_R_239 kc_X12_atom (ihd M (r_set r 13 ((r.1 13) + 1)) ((fun z => (.inl (some (.int z.1)), M, z.2)) z9) (by rw [hz]; rfl)) ⟨by show 60 + 12 * d + 0 + 1 ≤ 60 + 12 * (d + 1) + 0; omega, by show 8 + (4 + 11) + (3000 + 400 * d + 0) ≤ 3000 + 400 * (d + 1) + 0; omega⟩ hw (w_recvR E hw on) rfl hl.1 rfl (Nat.le_of_ble_eq_true rfl) dX12_atom_73 ⟨Nat.le_refl _, Nat.le_refl _⟩) hw rfl (Nat.le_refl _) (Nat.le_refl _) (fun H locs hw => ?_)
          refine W.eq (g2 := F0 m 76 ls [.int z9.1]) rfl ?_
          have hw : w_W G M z9.2 s H locs := hw
          refine cx_if_ne (tgt := 83) E dX12_atom_76 (by decide) (fun _ => ?_) (fun _ => ?_)
          · refine lv_iconst (v := 0) hx hb dX12_atom_83 (by decide) ?_
            exact w84  0 z9.2 _ _ _ hw (lv_sub hl [1] rfl)
          · refine lv_iconst (v := 1) hx hb dX12_atom_79 (by decide) ?_
            refine lv_goto (tgt := 84) hx hb dX12_atom_80 (by decide) ?_
            exact w84  1 z9.2 _ _ _ hw (lv_sub hl [1] rfl)
      · refine lv_aload_n hx hb dX12_atom_49 rfl (lv_at hl 0 rfl) ?_
        refine lv_iload_n hx hb dX12_atom_50 rfl (lv_at hl 1 rfl) ?_
        refine W_bind fun z10 hz => ?_
        refine w_after (cells1 := 0) (slots1 := 0) (w_runV E kV_R_105 kc_X12_wrong (t_R_wrong l hfl G on x1 M r ((fun z => (.inl none, M, z)) z10) (by rw [hz]; rfl)) ⟨by show 0 + 1 ≤ 60 + 12 * (d + 1) + 0; omega, by show 8 + (2 + 11) + (0) ≤ 3000 + 400 * (d + 1) + 0; omega⟩ hw (w_recvR E hw on) rfl hl.1 rfl (Nat.le_of_ble_eq_true rfl) dX12_atom_51 ⟨Nat.le_refl _, Nat.le_refl _⟩) hw rfl (Nat.le_refl _) (Nat.le_refl _) (fun H locs hw => ?_)
        refine W.eq (g2 := F0 m 54 ls []) rfl ?_
        have hw : w_W G M z10 s H locs := hw
        refine lv_iconst (v := 0) hx hb dX12_atom_54 (by decide) ?_
        exact p_zret E hw hr (by decide) (Nat.le_of_ble_eq_true rfl) (Nat.le_of_ble_eq_true rfl) rfl dX12_atom_55
    rw [f_R_atom]
    refine lv_aload_n hx hb dX12_atom_0 rfl (lv_at hl 0 rfl) ?_
    refine rx_getI E hw on kF_R_25_11 (by decide) dX12_atom_1 ?_
    refine lv_iconst (v := (-1)) hx hb dX12_atom_4 (by decide) ?_
    refine cx_icmp_eq (tgt := 10) E dX12_atom_5 (by decide) (fun _ => ?_) (fun _ => ?_)
    · refine lv_aload_n hx hb dX12_atom_10 rfl (lv_at hl 0 rfl) ?_
      refine W_bind fun z1 hz => ?_
      refine w_after (cells1 := 0) (slots1 := 0) (w_runV E kV_R_109 kc_X12_place (t_R_place l hfl G on N M r ((fun z => (.inl (some (.int z.1)), M, z.2)) z1) (by rw [hz]; rfl)) ⟨by show 2 + 1 ≤ 60 + 12 * (d + 1) + 0; omega, by show 8 + (1 + 11) + (41) ≤ 3000 + 400 * (d + 1) + 0; omega⟩ hw (w_recvR E hw on) rfl hl.1 rfl (Nat.le_of_ble_eq_true rfl) dX12_atom_11 ⟨Nat.le_refl _, Nat.le_refl _⟩) hw rfl (Nat.le_refl _) (Nat.le_refl _) (fun H locs hw => ?_)
      refine W.eq (g2 := F0 m 14 ls [.int z1.1]) rfl ?_
      have hw : w_W G M z1.2 s H locs := hw
      refine lv_istore_n (lv' := [(1, .int z1.1), (0, .ref (g_r G))]) hx hb dX12_atom_14 rfl hl (by decide) rfl (fun ls hl => ?_)
      refine lv_aload_n hx hb dX12_atom_15 rfl (lv_at hl 1 rfl) ?_
      refine va_ldcS hx hb hown (hTT.2.2.1 49 _ rfl) dX12_atom_16 ?_
      refine W_bind fun z2 hz => ?_
      refine w_after (cells1 := 0) (slots1 := 0) (w_runV E kV_R_101 kc_X12_has_ (t_R_has_ l hfl G on N 49 M z1.2 ((fun z => (.inl (some (.int z.1)), M, z.2)) z2) (by rw [hz]; rfl)) ⟨by show 8 + 1 ≤ 60 + 12 * (d + 1) + 0; omega, by show 8 + (4 + 11) + (400) ≤ 3000 + 400 * (d + 1) + 0; omega⟩ hw (w_recvR E hw on) rfl hl.1 rfl (Nat.le_of_ble_eq_true rfl) dX12_atom_18 ⟨Nat.le_refl _, Nat.le_refl _⟩) hw rfl (Nat.le_refl _) (Nat.le_refl _) (fun H locs hw => ?_)
      refine W.eq (g2 := F0 m 21 ls [.int z2.1]) rfl ?_
      have hw : w_W G M z2.2 s H locs := hw
      refine lv_istore_n (lv' := [(2, .int z2.1), (1, .int z1.1), (0, .ref (g_r G))]) hx hb dX12_atom_21 rfl hl (by decide) rfl (fun ls hl => ?_)
      refine lv_iload_n hx hb dX12_atom_22 rfl (lv_at hl 0 rfl) ?_
      refine cx_if_ne (tgt := 40) E dX12_atom_23 (by decide) (fun _ => ?_) (fun _ => ?_)
      · exact w40  z1.1 z2.1 z2.2 _ _ _ hw (lv_sub hl [2, 1, 0] rfl)
      · refine lv_aload_n hx hb dX12_atom_26 rfl (lv_at hl 2 rfl) ?_
        refine lv_bipush (v := 40) hx hb dX12_atom_27 (by decide) ?_
        refine W_bind fun z3 hz => ?_
        refine w_after (cells1 := 0) (slots1 := 0) (w_runV E kV_R_193 kc_X12_isSign (t_R_isSign l hfl G on N 40 M z2.2 ((fun z => (.inl (some (.int z.1)), M, z.2)) z3) (by rw [hz]; rfl)) ⟨by show 2 + 1 ≤ 60 + 12 * (d + 1) + 0; omega, by show 8 + (2 + 11) + (41) ≤ 3000 + 400 * (d + 1) + 0; omega⟩ hw (w_recvR E hw on) rfl hl.1 rfl (Nat.le_of_ble_eq_true rfl) dX12_atom_29 ⟨Nat.le_refl _, Nat.le_refl _⟩) hw rfl (Nat.le_refl _) (Nat.le_refl _) (fun H locs hw => ?_)
        refine W.eq (g2 := F0 m 32 ls [.int z3.1]) rfl ?_
        have hw : w_W G M z3.2 s H locs := hw
        refine cx_if_ne (tgt := 40) E dX12_atom_32 (by decide) (fun _ => ?_) (fun _ => ?_)
        · exact w40  z1.1 z2.1 z3.2 _ _ _ hw (lv_sub hl [2, 1, 0] rfl)
        · refine lv_aload_n hx hb dX12_atom_35 rfl (lv_at hl 2 rfl) ?_
          refine W_bind fun z4 hz => ?_
          refine w_after (cells1 := 0) (slots1 := 0) (w_runV E kV_R_235 kc_X12_plain (t_R_plain l hfl G on N M z3.2 ((fun z => (.inl (some (.int z.1)), M, z.2)) z4) (by rw [hz]; rfl)) ⟨by show 11 + 1 ≤ 60 + 12 * (d + 1) + 0; omega, by show 8 + (4 + 11) + (465) ≤ 3000 + 400 * (d + 1) + 0; omega⟩ hw (w_recvR E hw on) rfl hl.1 rfl (Nat.le_of_ble_eq_true rfl) dX12_atom_36 ⟨Nat.le_refl _, Nat.le_refl _⟩) hw rfl (Nat.le_refl _) (Nat.le_refl _) (fun H locs hw => ?_)
          refine W.eq (g2 := F0 m 39 ls [.int z4.1]) rfl ?_
          have hw : w_W G M z4.2 s H locs := hw
          refine W_bind fun z5 hz => ?_
          obtain ⟨rfl, hz0⟩ := zg_ok hz
          exact p_zret E hw hr hz0 (Nat.le_of_ble_eq_true rfl) (Nat.le_of_ble_eq_true rfl) rfl dX12_atom_39
    · refine lv_iconst (v := 0) hx hb dX12_atom_8 (by decide) ?_
      exact p_zret E hw hr (by decide) (Nat.le_of_ble_eq_true rfl) (Nat.le_of_ble_eq_true rfl) rfl dX12_atom_9
set_option maxHeartbeats 4000000 in
set_option maxRecDepth 100000 in
theorem t_R_lawLine (l : Launch) (hfl : l.stackTraces = false) (G : wG) (on : g_on G = true) (N : Nat) (M : Mem) (r : Rho) : Ctr l yX12_lawLine (wWs yX12_lawLine cX12_lawLine 3 none) rm_R_lawLine rm_R_lawLine.cells rm_R_lawLine.slots G [.ref (g_r G)] M r ((f_R_lawLine N r).map (fun z => (.inl none, M, z))) := by
  refine Ctr.ofF (own := "CheekTownModel") (by decide +kernel) hfl rfl (Nat.le_of_ble_eq_true rfl) (fun p e s m args below meth c E hno hr hnm hw ls hl => ?_)
  obtain ⟨hx, hb, hts, hown, hml, hTT, -⟩ := id E
  have hl : lv_has ls 3 [(0, .ref (g_r G))] := hl
  obtain ⟨H, hH⟩ : ∃ H, H = s.heap := ⟨_, rfl⟩
  obtain ⟨locs, hlo⟩ : ∃ L : List Loc, L = [] := ⟨_, rfl⟩
  rw [← hH, ← hlo]
  rw [← hlo] at hw
  replace hw : w_W G M r s H locs := by rw [hH]; exact hw
  have w35 : ∀ (x1 : Int32) (y0 : Int32) (r : Rho) (H : Heap) (locs : List Loc) (ls : Array Slot), w_W G M r s H locs → lv_has ls 3 [(0, .ref (g_r G)), (1, .int x1)] → W p l e rm_R_lawLine s m args below meth c H locs 0 0 (PQ G below args s rm_R_lawLine.cells rm_R_lawLine.slots (fun z => (.inl none, M, z)) (f_R_lawLine_35 N x1 y0 r)) (F0 m 35 ls [.int y0]) := by
    intro x1 y0 r H locs ls hw hl
    unfold f_R_lawLine_35
    refine lv_istore_n (lv' := [(2, .int y0), (0, .ref (g_r G)), (1, .int x1)]) hx hb dX12_lawLine_35 rfl hl (by decide) rfl (fun ls hl => ?_)
    refine lv_aload_n hx hb dX12_lawLine_36 rfl (lv_at hl 1 rfl) ?_
    refine rx_getI E hw on kF_R_25_11 (by decide) dX12_lawLine_37 ?_
    refine lv_iconst (v := (-1)) hx hb dX12_lawLine_40 (by decide) ?_
    refine cx_icmp_ne (tgt := 61) E dX12_lawLine_41 (by decide) (fun _ => ?_) (fun _ => ?_)
    · exact p_vret E hw hr (Nat.le_of_ble_eq_true rfl) (Nat.le_of_ble_eq_true rfl) rfl dX12_lawLine_61
    · refine lv_iload_n hx hb dX12_lawLine_44 rfl (lv_at hl 0 rfl) ?_
      refine cx_if_eq (tgt := 61) E dX12_lawLine_45 (by decide) (fun _ => ?_) (fun _ => ?_)
      · exact p_vret E hw hr (Nat.le_of_ble_eq_true rfl) (Nat.le_of_ble_eq_true rfl) rfl dX12_lawLine_61
      · refine lv_aload_n hx hb dX12_lawLine_48 rfl (lv_at hl 1 rfl) ?_
        refine rx_getI E hw on kF_R_254_11 (by decide) dX12_lawLine_49 ?_
        refine lv_iconst (v := (-1)) hx hb dX12_lawLine_52 (by decide) ?_
        refine cx_icmp_ne (tgt := 61) E dX12_lawLine_53 (by decide) (fun _ => ?_) (fun _ => ?_)
        · exact p_vret E hw hr (Nat.le_of_ble_eq_true rfl) (Nat.le_of_ble_eq_true rfl) rfl dX12_lawLine_61
        · refine lv_aload_n hx hb dX12_lawLine_56 rfl (lv_at hl 1 rfl) ?_
          refine lv_iload_n hx hb dX12_lawLine_57 rfl (lv_at hl 2 rfl) ?_
          refine rx_putI E hw on kF_R_254_11 (by decide) kT_11_17 dX12_lawLine_58 (fun H locs hw => ?_)
          exact p_vret E hw hr (Nat.le_of_ble_eq_true rfl) (Nat.le_of_ble_eq_true rfl) rfl dX12_lawLine_61
  have w30 : ∀ (x1 : Int32) (r : Rho) (H : Heap) (locs : List Loc) (ls : Array Slot), w_W G M r s H locs → lv_has ls 3 [(0, .ref (g_r G)), (1, .int x1)] → W p l e rm_R_lawLine s m args below meth c H locs 0 0 (PQ G below args s rm_R_lawLine.cells rm_R_lawLine.slots (fun z => (.inl none, M, z)) (f_R_lawLine_30 N x1 r)) (F0 m 30 ls []) := by
    intro x1 r H locs ls hw hl
    unfold f_R_lawLine_30
    refine lv_iconst (v := 1) hx hb dX12_lawLine_30 (by decide) ?_
    refine lv_goto (tgt := 35) hx hb dX12_lawLine_31 (by decide) ?_
    exact w35  x1 1 r _ _ _ hw (lv_sub hl [0, 1] rfl)
  unfold f_R_lawLine
  refine lv_aload_n hx hb dX12_lawLine_0 rfl (lv_at hl 0 rfl) ?_
  refine W_bind fun z1 hz => ?_
  refine w_after (cells1 := 0) (slots1 := 0) (w_runV E kV_R_132 kc_X12_greeting (t_R_greeting l hfl G on N M r ((fun z => (.inl (some (.int z.1)), M, z.2)) z1) (by rw [hz]; rfl)) ⟨Nat.le_of_ble_eq_true rfl, Nat.le_of_ble_eq_true rfl⟩ hw (w_recvR E hw on) rfl hl.1 rfl (Nat.le_of_ble_eq_true rfl) dX12_lawLine_1 ⟨Nat.le_of_ble_eq_true rfl, Nat.le_of_ble_eq_true rfl⟩) hw rfl (Nat.le_of_ble_eq_true rfl) (Nat.le_of_ble_eq_true rfl) (fun H locs hw => ?_)
  refine W.eq (g2 := F0 m 4 ls [.int z1.1]) rfl ?_
  have hw : w_W G M z1.2 s H locs := hw
  refine lv_istore_n (lv' := [(1, .int z1.1), (0, .ref (g_r G))]) hx hb dX12_lawLine_4 rfl hl (by decide) rfl (fun ls hl => ?_)
  refine lv_aload_n hx hb dX12_lawLine_5 rfl (lv_at hl 1 rfl) ?_
  refine rx_getI E hw on kF_R_25_11 (by decide) dX12_lawLine_6 ?_
  refine lv_iconst (v := (-1)) hx hb dX12_lawLine_9 (by decide) ?_
  refine cx_icmp_eq (tgt := 14) E dX12_lawLine_10 (by decide) (fun _ => ?_) (fun _ => ?_)
  · refine lv_aload_n hx hb dX12_lawLine_14 rfl (lv_at hl 1 rfl) ?_
    refine va_ldcS hx hb hown (hTT.2.2.1 48 _ rfl) dX12_lawLine_15 ?_
    refine W_bind fun z2 hz => ?_
    refine w_after (cells1 := 0) (slots1 := 0) (w_runV E kV_R_101 kc_X12_has_ (t_R_has_ l hfl G on N 48 M z1.2 ((fun z => (.inl (some (.int z.1)), M, z.2)) z2) (by rw [hz]; rfl)) ⟨Nat.le_of_ble_eq_true rfl, Nat.le_of_ble_eq_true rfl⟩ hw (w_recvR E hw on) rfl hl.1 rfl (Nat.le_of_ble_eq_true rfl) dX12_lawLine_17 ⟨Nat.le_of_ble_eq_true rfl, Nat.le_of_ble_eq_true rfl⟩) hw rfl (Nat.le_of_ble_eq_true rfl) (Nat.le_of_ble_eq_true rfl) (fun H locs hw => ?_)
    refine W.eq (g2 := F0 m 20 ls [.int z2.1]) rfl ?_
    have hw : w_W G M z2.2 s H locs := hw
    refine cx_if_eq (tgt := 30) E dX12_lawLine_20 (by decide) (fun _ => ?_) (fun _ => ?_)
    · exact w30  z1.1 z2.2 _ _ _ hw (lv_sub hl [1, 0] rfl)
    · refine lv_aload_n hx hb dX12_lawLine_23 rfl (lv_at hl 1 rfl) ?_
      refine W_bind fun z3 hz => ?_
      refine w_after (cells1 := 0) (slots1 := 0) (w_runV E kV_R_242 kc_X12_some (t_R_some l hfl G on N (f_R_atom N 10) 10 (t_R_atom l hfl G on N 10) M z2.2 ((fun z => (.inl (some (.int z.1)), M, z.2)) z3) (by rw [hz]; rfl)) ⟨Nat.le_of_ble_eq_true rfl, Nat.le_of_ble_eq_true rfl⟩ hw (w_recvR E hw on) rfl hl.1 rfl (Nat.le_of_ble_eq_true rfl) dX12_lawLine_24 ⟨Nat.le_of_ble_eq_true rfl, Nat.le_of_ble_eq_true rfl⟩) hw rfl (Nat.le_of_ble_eq_true rfl) (Nat.le_of_ble_eq_true rfl) (fun H locs hw => ?_)
      refine W.eq (g2 := F0 m 27 ls [.int z3.1]) rfl ?_
      have hw : w_W G M z3.2 s H locs := hw
      refine cx_if_eq (tgt := 34) E dX12_lawLine_27 (by decide) (fun _ => ?_) (fun _ => ?_)
      · refine lv_iconst (v := 0) hx hb dX12_lawLine_34 (by decide) ?_
        exact w35  z1.1 0 z3.2 _ _ _ hw (lv_sub hl [1, 0] rfl)
      · exact w30  z1.1 z3.2 _ _ _ hw (lv_sub hl [1, 0] rfl)
  · exact p_vret E hw hr (Nat.le_of_ble_eq_true rfl) (Nat.le_of_ble_eq_true rfl) rfl dX12_lawLine_13
set_option maxHeartbeats 4000000 in
set_option maxRecDepth 100000 in
theorem t_R_habitLine (l : Launch) (hfl : l.stackTraces = false) (G : wG) (on : g_on G = true) (N : Nat) (a0 : Int32) (M : Mem) (r : Rho) : Ctr l yX12_habitLine (wWs yX12_habitLine cX12_habitLine 6 none) rm_R_habitLine rm_R_habitLine.cells rm_R_habitLine.slots G [.ref (g_r G), .int a0] M r ((f_R_habitLine N a0 r).map (fun z => (.inl none, M, z))) := by
  refine Ctr.ofF (own := "CheekTownModel") (by decide +kernel) hfl rfl (Nat.le_of_ble_eq_true rfl) (fun p e s m args below meth c E hno hr hnm hw ls hl => ?_)
  obtain ⟨hx, hb, hts, hown, hml, hTT, -⟩ := id E
  have hl : lv_has ls 6 [(0, .ref (g_r G)), (1, .int a0)] := hl
  obtain ⟨H, hH⟩ : ∃ H, H = s.heap := ⟨_, rfl⟩
  obtain ⟨locs, hlo⟩ : ∃ L : List Loc, L = [] := ⟨_, rfl⟩
  rw [← hH, ← hlo]
  rw [← hlo] at hw
  replace hw : w_W G M r s H locs := by rw [hH]; exact hw
  have w16 : ∀ (r : Rho) (H : Heap) (locs : List Loc) (ls : Array Slot), w_W G M r s H locs → lv_has ls 6 [(0, .ref (g_r G))] → W p l e rm_R_habitLine s m args below meth c H locs 0 0 (PQ G below args s rm_R_habitLine.cells rm_R_habitLine.slots (fun z => (.inl none, M, z)) (f_R_habitLine_16 N a0 r)) (F0 m 16 ls []) := by
    intro r H locs ls hw hl
    unfold f_R_habitLine_16
    refine lv_aload_n hx hb dX12_habitLine_16 rfl (lv_at hl 0 rfl) ?_
    refine lv_iconst (v := 0) hx hb dX12_habitLine_17 (by decide) ?_
    refine lv_aload_n hx hb dX12_habitLine_18 rfl (lv_at hl 0 rfl) ?_
    refine rx_getA E hw on kF_R_7_11 (by decide) dX12_habitLine_19 ?_
    refine lv_iconst (v := 3) hx hb dX12_habitLine_22 (by decide) ?_
    refine rx_iald E hw on (by decide) dX12_habitLine_23 (fun v3 => ?_)
    refine lv_iconst (v := 1) hx hb dX12_habitLine_24 (by decide) ?_
    refine lv_isub hx hb dX12_habitLine_25 ?_
    refine W_bind fun z4 hz => ?_
    refine w_after (cells1 := 0) (slots1 := 0) (w_runV E kV_R_124 kc_X12_figures (t_R_figures l hfl G on N 0 (v3 - 1) M r ((fun z => (.inl (some (.int z.1)), M, z.2)) z4) (by rw [hz]; rfl)) ⟨Nat.le_of_ble_eq_true rfl, Nat.le_of_ble_eq_true rfl⟩ hw (w_recvR E hw on) rfl hl.1 rfl (Nat.le_of_ble_eq_true rfl) dX12_habitLine_26 ⟨Nat.le_of_ble_eq_true rfl, Nat.le_of_ble_eq_true rfl⟩) hw rfl (Nat.le_of_ble_eq_true rfl) (Nat.le_of_ble_eq_true rfl) (fun H locs hw => ?_)
    refine W.eq (g2 := F0 m 29 ls [.int z4.1]) rfl ?_
    have hw : w_W G M z4.2 s H locs := hw
    refine lv_istore_n (lv' := [(2, .int z4.1), (0, .ref (g_r G))]) hx hb dX12_habitLine_29 rfl hl (by decide) rfl (fun ls hl => ?_)
    refine lv_aload_n hx hb dX12_habitLine_30 rfl (lv_at hl 1 rfl) ?_
    refine W_bind fun z5 hz => ?_
    refine w_after (cells1 := 0) (slots1 := 0) (w_runV E kV_R_132 kc_X12_greeting (t_R_greeting l hfl G on N M z4.2 ((fun z => (.inl (some (.int z.1)), M, z.2)) z5) (by rw [hz]; rfl)) ⟨Nat.le_of_ble_eq_true rfl, Nat.le_of_ble_eq_true rfl⟩ hw (w_recvR E hw on) rfl hl.1 rfl (Nat.le_of_ble_eq_true rfl) dX12_habitLine_31 ⟨Nat.le_of_ble_eq_true rfl, Nat.le_of_ble_eq_true rfl⟩) hw rfl (Nat.le_of_ble_eq_true rfl) (Nat.le_of_ble_eq_true rfl) (fun H locs hw => ?_)
    refine W.eq (g2 := F0 m 34 ls [.int z5.1]) rfl ?_
    have hw : w_W G M z5.2 s H locs := hw
    refine lv_istore_n (lv' := [(3, .int z5.1), (2, .int z4.1), (0, .ref (g_r G))]) hx hb dX12_habitLine_34 rfl hl (by decide) rfl (fun ls hl => ?_)
    refine lv_aload_n hx hb dX12_habitLine_35 rfl (lv_at hl 2 rfl) ?_
    refine va_ldcS hx hb hown (hTT.2.2.1 62 _ rfl) dX12_habitLine_36 ?_
    refine W_bind fun z6 hz => ?_
    refine w_after (cells1 := 0) (slots1 := 0) (w_runV E kV_R_120 kc_X12_must (t_R_must l hfl G on N 62 M z5.2 ((fun z => (.inl none, M, z)) z6) (by rw [hz]; rfl)) ⟨Nat.le_of_ble_eq_true rfl, Nat.le_of_ble_eq_true rfl⟩ hw (w_recvR E hw on) rfl hl.1 rfl (Nat.le_of_ble_eq_true rfl) dX12_habitLine_38 ⟨Nat.le_of_ble_eq_true rfl, Nat.le_of_ble_eq_true rfl⟩) hw rfl (Nat.le_of_ble_eq_true rfl) (Nat.le_of_ble_eq_true rfl) (fun H locs hw => ?_)
    refine W.eq (g2 := F0 m 41 ls []) rfl ?_
    have hw : w_W G M z6 s H locs := hw
    refine lv_aload_n hx hb dX12_habitLine_41 rfl (lv_at hl 2 rfl) ?_
    refine lv_iconst (v := 1) hx hb dX12_habitLine_42 (by decide) ?_
    refine lv_bipush (v := 9) hx hb dX12_habitLine_43 (by decide) ?_
    refine W_bind fun z7 hz => ?_
    refine w_after (cells1 := 0) (slots1 := 0) (w_runV E kV_R_124 kc_X12_figures (t_R_figures l hfl G on N 1 9 M z6 ((fun z => (.inl (some (.int z.1)), M, z.2)) z7) (by rw [hz]; rfl)) ⟨Nat.le_of_ble_eq_true rfl, Nat.le_of_ble_eq_true rfl⟩ hw (w_recvR E hw on) rfl hl.1 rfl (Nat.le_of_ble_eq_true rfl) dX12_habitLine_45 ⟨Nat.le_of_ble_eq_true rfl, Nat.le_of_ble_eq_true rfl⟩) hw rfl (Nat.le_of_ble_eq_true rfl) (Nat.le_of_ble_eq_true rfl) (fun H locs hw => ?_)
    refine W.eq (g2 := F0 m 48 ls [.int z7.1]) rfl ?_
    have hw : w_W G M z7.2 s H locs := hw
    refine lv_istore (lv' := [(4, .int z7.1), (3, .int z5.1), (2, .int z4.1), (0, .ref (g_r G))]) hx hb dX12_habitLine_48 hl (by decide) rfl (fun ls hl => ?_)
    refine lv_aload_n hx hb dX12_habitLine_50 rfl (lv_at hl 3 rfl) ?_
    refine rx_getI E hw on kF_R_25_11 (by decide) dX12_habitLine_51 ?_
    refine lv_iconst (v := (-1)) hx hb dX12_habitLine_54 (by decide) ?_
    refine cx_icmp_eq (tgt := 59) E dX12_habitLine_55 (by decide) (fun _ => ?_) (fun _ => ?_)
    · refine lv_bipush (v := 20) hx hb dX12_habitLine_59 (by decide) ?_
      refine lv_iconst (v := 3) hx hb dX12_habitLine_61 (by decide) ?_
      refine lv_aload_n hx hb dX12_habitLine_62 rfl (lv_at hl 3 rfl) ?_
      refine rx_getA E hw on kF_R_7_11 (by decide) dX12_habitLine_63 ?_
      refine lv_iconst (v := 4) hx hb dX12_habitLine_66 (by decide) ?_
      refine rx_iald E hw on (by decide) dX12_habitLine_67 (fun v8 => ?_)
      refine lv_imul hx hb dX12_habitLine_68 ?_
      refine lv_iadd hx hb dX12_habitLine_69 ?_
      refine lv_istore (lv' := [(5, .int (20 + (3 * v8))), (4, .int z7.1), (3, .int z5.1), (2, .int z4.1), (0, .ref (g_r G))]) hx hb dX12_habitLine_70 hl (by decide) rfl (fun ls hl => ?_)
      refine lv_aload_n hx hb dX12_habitLine_72 rfl (lv_at hl 4 rfl) ?_
      refine rx_getA E hw on kF_R_7_11 (by decide) dX12_habitLine_73 ?_
      refine lv_iload hx hb dX12_habitLine_76 (lv_at hl 0 rfl) ?_
      refine lv_iload_n hx hb dX12_habitLine_78 rfl (lv_at hl 3 rfl) ?_
      refine rx_iast E hw on (by decide) dX12_habitLine_79 (fun r9 H locs hw => ?_)
      refine lv_aload_n hx hb dX12_habitLine_80 rfl (lv_at hl 4 rfl) ?_
      refine rx_getA E hw on kF_R_7_11 (by decide) dX12_habitLine_81 ?_
      refine lv_iload hx hb dX12_habitLine_84 (lv_at hl 0 rfl) ?_
      refine lv_iconst (v := 1) hx hb dX12_habitLine_86 (by decide) ?_
      refine lv_iadd hx hb dX12_habitLine_87 ?_
      refine lv_iload_n hx hb dX12_habitLine_88 rfl (lv_at hl 2 rfl) ?_
      refine rx_iast E hw on (by decide) dX12_habitLine_89 (fun r10 H locs hw => ?_)
      refine lv_aload_n hx hb dX12_habitLine_90 rfl (lv_at hl 4 rfl) ?_
      refine rx_getA E hw on kF_R_7_11 (by decide) dX12_habitLine_91 ?_
      refine lv_iload hx hb dX12_habitLine_94 (lv_at hl 0 rfl) ?_
      refine lv_iconst (v := 2) hx hb dX12_habitLine_96 (by decide) ?_
      refine lv_iadd hx hb dX12_habitLine_97 ?_
      refine lv_iload hx hb dX12_habitLine_98 (lv_at hl 1 rfl) ?_
      refine rx_iast E hw on (by decide) dX12_habitLine_100 (fun r11 H locs hw => ?_)
      refine lv_aload_n hx hb dX12_habitLine_101 rfl (lv_at hl 4 rfl) ?_
      refine rx_getA E hw on kF_R_7_11 (by decide) dX12_habitLine_102 ?_
      refine lv_iconst (v := 4) hx hb dX12_habitLine_105 (by decide) ?_
      refine lv_dup2_11 hx hb dX12_habitLine_106 rfl rfl ?_
      refine rx_iald E hw on (by decide) dX12_habitLine_107 (fun v12 => ?_)
      refine lv_iconst (v := 1) hx hb dX12_habitLine_108 (by decide) ?_
      refine lv_iadd hx hb dX12_habitLine_109 ?_
      refine rx_iast E hw on (by decide) dX12_habitLine_110 (fun r13 H locs hw => ?_)
      exact p_vret E hw hr (Nat.le_of_ble_eq_true rfl) (Nat.le_of_ble_eq_true rfl) rfl dX12_habitLine_111
    · exact p_vret E hw hr (Nat.le_of_ble_eq_true rfl) (Nat.le_of_ble_eq_true rfl) rfl dX12_habitLine_58
  unfold f_R_habitLine
  refine lv_aload_n hx hb dX12_habitLine_0 rfl (lv_at hl 0 rfl) ?_
  refine rx_getA E hw on kF_R_7_11 (by decide) dX12_habitLine_1 ?_
  refine lv_iconst (v := 4) hx hb dX12_habitLine_4 (by decide) ?_
  refine rx_iald E hw on (by decide) dX12_habitLine_5 (fun v1 => ?_)
  refine lv_bipush (v := 24) hx hb dX12_habitLine_6 (by decide) ?_
  refine cx_icmp_ne (tgt := 16) E dX12_habitLine_8 (by decide) (fun _ => ?_) (fun _ => ?_)
  · exact w16  r _ _ _ hw (lv_sub hl [0] rfl)
  · refine lv_aload_n hx hb dX12_habitLine_11 rfl (lv_at hl 0 rfl) ?_
    refine lv_iload_n hx hb dX12_habitLine_12 rfl (lv_at hl 1 rfl) ?_
    refine W_bind fun z2 hz => ?_
    refine w_after (cells1 := 0) (slots1 := 0) (w_runV E kV_R_105 kc_X12_wrong (t_R_wrong l hfl G on a0 M r ((fun z => (.inl none, M, z)) z2) (by rw [hz]; rfl)) ⟨Nat.le_of_ble_eq_true rfl, Nat.le_of_ble_eq_true rfl⟩ hw (w_recvR E hw on) rfl hl.1 rfl (Nat.le_of_ble_eq_true rfl) dX12_habitLine_13 ⟨Nat.le_of_ble_eq_true rfl, Nat.le_of_ble_eq_true rfl⟩) hw rfl (Nat.le_of_ble_eq_true rfl) (Nat.le_of_ble_eq_true rfl) (fun H locs hw => ?_)
    refine W.eq (g2 := F0 m 16 ls []) rfl ?_
    have hw : w_W G M z2 s H locs := hw
    exact w16  z2 _ _ _ hw (lv_sub hl [0] rfl)
set_option maxHeartbeats 4000000 in
set_option maxRecDepth 100000 in
theorem t_R_has (l : Launch) (hfl : l.stackTraces = false) (G : wG) (on : g_on G = true) (a0 : Int32) (a1 : Int32) (a2 : Int32) (M : Mem) (r : Rho) : Ctr l yX12_has (wWs yX12_has cX12_has 4 none) rm_R_has rm_R_has.cells rm_R_has.slots G [.ref (g_r G), .int a0, .int a1, .int a2] M r ((f_R_has a0 a1 a2 r).map (fun z => (.inl none, M, z))) := by
  refine Ctr.ofF (own := "CheekTownModel") (by decide +kernel) hfl rfl (Nat.le_of_ble_eq_true rfl) (fun p e s m args below meth c E hno hr hnm hw ls hl => ?_)
  obtain ⟨hx, hb, hts, hown, hml, hTT, -⟩ := id E
  have hl : lv_has ls 4 [(0, .ref (g_r G)), (1, .int a0), (2, .int a1), (3, .int a2)] := hl
  obtain ⟨H, hH⟩ : ∃ H, H = s.heap := ⟨_, rfl⟩
  obtain ⟨locs, hlo⟩ : ∃ L : List Loc, L = [] := ⟨_, rfl⟩
  rw [← hH, ← hlo]
  rw [← hlo] at hw
  replace hw : w_W G M r s H locs := by rw [hH]; exact hw
  unfold f_R_has
  refine lv_aload_n hx hb dX12_has_0 rfl (lv_at hl 0 rfl) ?_
  refine rx_getA E hw on kF_R_7_11 (by decide) dX12_has_1 ?_
  refine lv_bipush (v := 92) hx hb dX12_has_4 (by decide) ?_
  refine lv_bipush (v := 8) hx hb dX12_has_6 (by decide) ?_
  refine lv_iload_n hx hb dX12_has_8 rfl (lv_at hl 1 rfl) ?_
  refine lv_imul hx hb dX12_has_9 ?_
  refine lv_iadd hx hb dX12_has_10 ?_
  refine lv_iload_n hx hb dX12_has_11 rfl (lv_at hl 2 rfl) ?_
  refine lv_iadd hx hb dX12_has_12 ?_
  refine lv_iload_n hx hb dX12_has_13 rfl (lv_at hl 3 rfl) ?_
  refine rx_iast E hw on (by decide) dX12_has_14 (fun r1 H locs hw => ?_)
  exact p_vret E hw hr (Nat.le_of_ble_eq_true rfl) (Nat.le_of_ble_eq_true rfl) rfl dX12_has_15
set_option maxHeartbeats 4000000 in
set_option maxRecDepth 100000 in
theorem t_R_meets (l : Launch) (hfl : l.stackTraces = false) (G : wG) (on : g_on G = true) (a0 : Int32) (a1 : Int32) (a2 : Int32) (a3 : Int32) (M : Mem) (r : Rho) : Ctr l yX12_meets (wWs yX12_meets cX12_meets 5 none) rm_R_meets rm_R_meets.cells rm_R_meets.slots G [.ref (g_r G), .int a0, .int a1, .int a2, .int a3] M r ((f_R_meets a0 a1 a2 a3 r).map (fun z => (.inl none, M, z))) := by
  refine Ctr.ofF (own := "CheekTownModel") (by decide +kernel) hfl rfl (Nat.le_of_ble_eq_true rfl) (fun p e s m args below meth c E hno hr hnm hw ls hl => ?_)
  obtain ⟨hx, hb, hts, hown, hml, hTT, -⟩ := id E
  have hl : lv_has ls 5 [(0, .ref (g_r G)), (1, .int a0), (2, .int a1), (3, .int a2), (4, .int a3)] := hl
  obtain ⟨H, hH⟩ : ∃ H, H = s.heap := ⟨_, rfl⟩
  obtain ⟨locs, hlo⟩ : ∃ L : List Loc, L = [] := ⟨_, rfl⟩
  rw [← hH, ← hlo]
  rw [← hlo] at hw
  replace hw : w_W G M r s H locs := by rw [hH]; exact hw
  unfold f_R_meets
  refine lv_aload_n hx hb dX12_meets_0 rfl (lv_at hl 0 rfl) ?_
  refine rx_getA E hw on kF_R_7_11 (by decide) dX12_meets_1 ?_
  refine lv_sipush (v := 172) hx hb dX12_meets_4 (by decide) ?_
  refine lv_bipush (v := 10) hx hb dX12_meets_7 (by decide) ?_
  refine lv_iload_n hx hb dX12_meets_9 rfl (lv_at hl 1 rfl) ?_
  refine lv_imul hx hb dX12_meets_10 ?_
  refine lv_iadd hx hb dX12_meets_11 ?_
  refine lv_iload_n hx hb dX12_meets_12 rfl (lv_at hl 2 rfl) ?_
  refine lv_iadd hx hb dX12_meets_13 ?_
  refine lv_iload_n hx hb dX12_meets_14 rfl (lv_at hl 3 rfl) ?_
  refine rx_iast E hw on (by decide) dX12_meets_15 (fun r1 H locs hw => ?_)
  refine lv_aload_n hx hb dX12_meets_16 rfl (lv_at hl 0 rfl) ?_
  refine rx_getA E hw on kF_R_7_11 (by decide) dX12_meets_17 ?_
  refine lv_sipush (v := 272) hx hb dX12_meets_20 (by decide) ?_
  refine lv_bipush (v := 10) hx hb dX12_meets_23 (by decide) ?_
  refine lv_iload_n hx hb dX12_meets_25 rfl (lv_at hl 1 rfl) ?_
  refine lv_imul hx hb dX12_meets_26 ?_
  refine lv_iadd hx hb dX12_meets_27 ?_
  refine lv_iload_n hx hb dX12_meets_28 rfl (lv_at hl 2 rfl) ?_
  refine lv_iadd hx hb dX12_meets_29 ?_
  refine lv_iload hx hb dX12_meets_30 (lv_at hl 4 rfl) ?_
  refine rx_iast E hw on (by decide) dX12_meets_32 (fun r2 H locs hw => ?_)
  exact p_vret E hw hr (Nat.le_of_ble_eq_true rfl) (Nat.le_of_ble_eq_true rfl) rfl dX12_meets_33
set_option maxHeartbeats 4000000 in
set_option maxRecDepth 100000 in
theorem t_R_personLine (l : Launch) (hfl : l.stackTraces = false) (G : wG) (on : g_on G = true) (N : Nat) (a0 : Int32) (M : Mem) (r : Rho) : Ctr l yX12_personLine (wWs yX12_personLine cX12_personLine 8 none) rm_R_personLine rm_R_personLine.cells rm_R_personLine.slots G [.ref (g_r G), .int a0] M r ((f_R_personLine N a0 r).map (fun z => (.inl none, M, z))) := by
  refine Ctr.ofF (own := "CheekTownModel") (by decide +kernel) hfl rfl (Nat.le_of_ble_eq_true rfl) (fun p e s m args below meth c E hno hr hnm hw ls hl => ?_)
  obtain ⟨hx, hb, hts, hown, hml, hTT, -⟩ := id E
  have hl : lv_has ls 8 [(0, .ref (g_r G)), (1, .int a0)] := hl
  obtain ⟨H, hH⟩ : ∃ H, H = s.heap := ⟨_, rfl⟩
  obtain ⟨locs, hlo⟩ : ∃ L : List Loc, L = [] := ⟨_, rfl⟩
  rw [← hH, ← hlo]
  rw [← hlo] at hw
  replace hw : w_W G M r s H locs := by rw [hH]; exact hw
  have w153 : ∀ (n : Nat) (x6 : Int32) (x7 : Int32) (r : Rho) (H : Heap) (locs : List Loc) (ls : Array Slot), w_W G M r s H locs → lv_has ls 8 [(0, .ref (g_r G)), (6, .int x6), (7, .int x7)] → W p l e rm_R_personLine s m args below meth c H locs 0 0 (PQ G below args s rm_R_personLine.cells rm_R_personLine.slots (fun z => (.inl none, M, z)) (f_R_personLine_153 N a0 n x6 x7 r)) (F0 m 153 ls []) := by
    intro n
    induction n with
    | zero => intros; exact W_none
    | succ n ih =>
      intro x6 x7 r H locs ls hw hl
      rw [f_R_personLine_153]
      refine lv_iload hx hb dX12_personLine_153 (lv_at hl 2 rfl) ?_
      refine lv_bipush (v := 10) hx hb dX12_personLine_155 (by decide) ?_
      refine cx_icmp_ge (tgt := 186) E dX12_personLine_157 (by decide) (fun _ => ?_) (fun _ => ?_)
      · refine lv_aload_n hx hb dX12_personLine_186 rfl (lv_at hl 0 rfl) ?_
        refine rx_getA E hw on kF_R_7_11 (by decide) dX12_personLine_187 ?_
        refine lv_iconst (v := 5) hx hb dX12_personLine_190 (by decide) ?_
        refine lv_dup2_11 hx hb dX12_personLine_191 rfl rfl ?_
        refine rx_iald E hw on (by decide) dX12_personLine_192 (fun v19 => ?_)
        refine lv_iconst (v := 1) hx hb dX12_personLine_193 (by decide) ?_
        refine lv_iadd hx hb dX12_personLine_194 ?_
        refine rx_iast E hw on (by decide) dX12_personLine_195 (fun r20 H locs hw => ?_)
        exact p_vret E hw hr (Nat.le_of_ble_eq_true rfl) (Nat.le_of_ble_eq_true rfl) rfl dX12_personLine_196
      · refine lv_aload_n hx hb dX12_personLine_160 rfl (lv_at hl 0 rfl) ?_
        refine lv_iload hx hb dX12_personLine_161 (lv_at hl 1 rfl) ?_
        refine lv_iload hx hb dX12_personLine_163 (lv_at hl 2 rfl) ?_
        refine lv_iconst (v := 0) hx hb dX12_personLine_165 (by decide) ?_
        refine lv_iconst (v := (-1)) hx hb dX12_personLine_166 (by decide) ?_
        refine W_bind fun z21 hz => ?_
        refine w_after (cells1 := 0) (slots1 := 0) (w_runV E kV_R_144 kc_X12_meets (t_R_meets l hfl G on x6 x7 0 (-1) M r ((fun z => (.inl none, M, z)) z21) (by rw [hz]; rfl)) ⟨Nat.le_of_ble_eq_true rfl, Nat.le_of_ble_eq_true rfl⟩ hw (w_recvR E hw on) rfl hl.1 rfl (Nat.le_of_ble_eq_true rfl) dX12_personLine_167 ⟨Nat.le_of_ble_eq_true rfl, Nat.le_of_ble_eq_true rfl⟩) hw rfl (Nat.le_of_ble_eq_true rfl) (Nat.le_of_ble_eq_true rfl) (fun H locs hw => ?_)
        refine W.eq (g2 := F0 m 170 ls []) rfl ?_
        have hw : w_W G M z21 s H locs := hw
        refine lv_aload_n hx hb dX12_personLine_170 rfl (lv_at hl 0 rfl) ?_
        refine lv_iload hx hb dX12_personLine_171 (lv_at hl 2 rfl) ?_
        refine lv_iload hx hb dX12_personLine_173 (lv_at hl 1 rfl) ?_
        refine lv_iconst (v := 0) hx hb dX12_personLine_175 (by decide) ?_
        refine lv_iconst (v := (-1)) hx hb dX12_personLine_176 (by decide) ?_
        refine W_bind fun z22 hz => ?_
        refine w_after (cells1 := 0) (slots1 := 0) (w_runV E kV_R_144 kc_X12_meets (t_R_meets l hfl G on x7 x6 0 (-1) M z21 ((fun z => (.inl none, M, z)) z22) (by rw [hz]; rfl)) ⟨Nat.le_of_ble_eq_true rfl, Nat.le_of_ble_eq_true rfl⟩ hw (w_recvR E hw on) rfl hl.1 rfl (Nat.le_of_ble_eq_true rfl) dX12_personLine_177 ⟨Nat.le_of_ble_eq_true rfl, Nat.le_of_ble_eq_true rfl⟩) hw rfl (Nat.le_of_ble_eq_true rfl) (Nat.le_of_ble_eq_true rfl) (fun H locs hw => ?_)
        refine W.eq (g2 := F0 m 180 ls []) rfl ?_
        have hw : w_W G M z22 s H locs := hw
        refine lv_iinc (v := x7 + 1) (lv' := [(7, .int (x7 + 1)), (0, .ref (g_r G)), (6, .int x6)]) hx hb dX12_personLine_180 hl (k := 2) rfl rfl (by decide) rfl (fun ls hl => ?_)
        refine lv_goto (tgt := 153) hx hb dX12_personLine_183 (by decide) ?_
        exact ih x6 (x7 + 1) z22 _ _ _ hw (lv_sub hl [1, 2, 0] rfl)
  have w16 : ∀ (r : Rho) (H : Heap) (locs : List Loc) (ls : Array Slot), w_W G M r s H locs → lv_has ls 8 [(0, .ref (g_r G))] → W p l e rm_R_personLine s m args below meth c H locs 0 0 (PQ G below args s rm_R_personLine.cells rm_R_personLine.slots (fun z => (.inl none, M, z)) (f_R_personLine_16 N a0 r)) (F0 m 16 ls []) := by
    intro r H locs ls hw hl
    unfold f_R_personLine_16
    refine lv_aload_n hx hb dX12_personLine_16 rfl (lv_at hl 0 rfl) ?_
    refine lv_iconst (v := 0) hx hb dX12_personLine_17 (by decide) ?_
    refine lv_aload_n hx hb dX12_personLine_18 rfl (lv_at hl 0 rfl) ?_
    refine rx_getA E hw on kF_R_7_11 (by decide) dX12_personLine_19 ?_
    refine lv_iconst (v := 3) hx hb dX12_personLine_22 (by decide) ?_
    refine rx_iald E hw on (by decide) dX12_personLine_23 (fun v3 => ?_)
    refine lv_iconst (v := 1) hx hb dX12_personLine_24 (by decide) ?_
    refine lv_isub hx hb dX12_personLine_25 ?_
    refine W_bind fun z4 hz => ?_
    refine w_after (cells1 := 0) (slots1 := 0) (w_runV E kV_R_124 kc_X12_figures (t_R_figures l hfl G on N 0 (v3 - 1) M r ((fun z => (.inl (some (.int z.1)), M, z.2)) z4) (by rw [hz]; rfl)) ⟨Nat.le_of_ble_eq_true rfl, Nat.le_of_ble_eq_true rfl⟩ hw (w_recvR E hw on) rfl hl.1 rfl (Nat.le_of_ble_eq_true rfl) dX12_personLine_26 ⟨Nat.le_of_ble_eq_true rfl, Nat.le_of_ble_eq_true rfl⟩) hw rfl (Nat.le_of_ble_eq_true rfl) (Nat.le_of_ble_eq_true rfl) (fun H locs hw => ?_)
    refine W.eq (g2 := F0 m 29 ls [.int z4.1]) rfl ?_
    have hw : w_W G M z4.2 s H locs := hw
    refine lv_istore_n (lv' := [(2, .int z4.1), (0, .ref (g_r G))]) hx hb dX12_personLine_29 rfl hl (by decide) rfl (fun ls hl => ?_)
    refine lv_aload_n hx hb dX12_personLine_30 rfl (lv_at hl 1 rfl) ?_
    refine W_bind fun z5 hz => ?_
    refine w_after (cells1 := 0) (slots1 := 0) (w_runV E kV_R_132 kc_X12_greeting (t_R_greeting l hfl G on N M z4.2 ((fun z => (.inl (some (.int z.1)), M, z.2)) z5) (by rw [hz]; rfl)) ⟨Nat.le_of_ble_eq_true rfl, Nat.le_of_ble_eq_true rfl⟩ hw (w_recvR E hw on) rfl hl.1 rfl (Nat.le_of_ble_eq_true rfl) dX12_personLine_31 ⟨Nat.le_of_ble_eq_true rfl, Nat.le_of_ble_eq_true rfl⟩) hw rfl (Nat.le_of_ble_eq_true rfl) (Nat.le_of_ble_eq_true rfl) (fun H locs hw => ?_)
    refine W.eq (g2 := F0 m 34 ls [.int z5.1]) rfl ?_
    have hw : w_W G M z5.2 s H locs := hw
    refine lv_istore_n (lv' := [(3, .int z5.1), (2, .int z4.1), (0, .ref (g_r G))]) hx hb dX12_personLine_34 rfl hl (by decide) rfl (fun ls hl => ?_)
    refine lv_aload_n hx hb dX12_personLine_35 rfl (lv_at hl 2 rfl) ?_
    refine va_ldcS hx hb hown (hTT.2.2.1 54 _ rfl) dX12_personLine_36 ?_
    refine W_bind fun z6 hz => ?_
    refine w_after (cells1 := 0) (slots1 := 0) (w_runV E kV_R_120 kc_X12_must (t_R_must l hfl G on N 54 M z5.2 ((fun z => (.inl none, M, z)) z6) (by rw [hz]; rfl)) ⟨Nat.le_of_ble_eq_true rfl, Nat.le_of_ble_eq_true rfl⟩ hw (w_recvR E hw on) rfl hl.1 rfl (Nat.le_of_ble_eq_true rfl) dX12_personLine_38 ⟨Nat.le_of_ble_eq_true rfl, Nat.le_of_ble_eq_true rfl⟩) hw rfl (Nat.le_of_ble_eq_true rfl) (Nat.le_of_ble_eq_true rfl) (fun H locs hw => ?_)
    refine W.eq (g2 := F0 m 41 ls []) rfl ?_
    have hw : w_W G M z6 s H locs := hw
    refine lv_aload_n hx hb dX12_personLine_41 rfl (lv_at hl 2 rfl) ?_
    refine lv_iconst (v := 0) hx hb dX12_personLine_42 (by decide) ?_
    refine lv_bipush (v := 9) hx hb dX12_personLine_43 (by decide) ?_
    refine W_bind fun z7 hz => ?_
    refine w_after (cells1 := 0) (slots1 := 0) (w_runV E kV_R_124 kc_X12_figures (t_R_figures l hfl G on N 0 9 M z6 ((fun z => (.inl (some (.int z.1)), M, z.2)) z7) (by rw [hz]; rfl)) ⟨Nat.le_of_ble_eq_true rfl, Nat.le_of_ble_eq_true rfl⟩ hw (w_recvR E hw on) rfl hl.1 rfl (Nat.le_of_ble_eq_true rfl) dX12_personLine_45 ⟨Nat.le_of_ble_eq_true rfl, Nat.le_of_ble_eq_true rfl⟩) hw rfl (Nat.le_of_ble_eq_true rfl) (Nat.le_of_ble_eq_true rfl) (fun H locs hw => ?_)
    refine W.eq (g2 := F0 m 48 ls [.int z7.1]) rfl ?_
    have hw : w_W G M z7.2 s H locs := hw
    refine lv_istore (lv' := [(4, .int z7.1), (3, .int z5.1), (2, .int z4.1), (0, .ref (g_r G))]) hx hb dX12_personLine_48 hl (by decide) rfl (fun ls hl => ?_)
    refine lv_aload_n hx hb dX12_personLine_50 rfl (lv_at hl 3 rfl) ?_
    refine va_ldcS hx hb hown (hTT.2.2.1 64 _ rfl) dX12_personLine_51 ?_
    refine W_bind fun z8 hz => ?_
    refine w_after (cells1 := 0) (slots1 := 0) (w_runV E kV_R_120 kc_X12_must (t_R_must l hfl G on N 64 M z7.2 ((fun z => (.inl none, M, z)) z8) (by rw [hz]; rfl)) ⟨Nat.le_of_ble_eq_true rfl, Nat.le_of_ble_eq_true rfl⟩ hw (w_recvR E hw on) rfl hl.1 rfl (Nat.le_of_ble_eq_true rfl) dX12_personLine_53 ⟨Nat.le_of_ble_eq_true rfl, Nat.le_of_ble_eq_true rfl⟩) hw rfl (Nat.le_of_ble_eq_true rfl) (Nat.le_of_ble_eq_true rfl) (fun H locs hw => ?_)
    refine W.eq (g2 := F0 m 56 ls []) rfl ?_
    have hw : w_W G M z8 s H locs := hw
    refine lv_aload_n hx hb dX12_personLine_56 rfl (lv_at hl 3 rfl) ?_
    refine lv_iconst (v := 0) hx hb dX12_personLine_57 (by decide) ?_
    refine lv_bipush (v := 100) hx hb dX12_personLine_58 (by decide) ?_
    refine W_bind fun z9 hz => ?_
    refine w_after (cells1 := 0) (slots1 := 0) (w_runV E kV_R_124 kc_X12_figures (t_R_figures l hfl G on N 0 100 M z8 ((fun z => (.inl (some (.int z.1)), M, z.2)) z9) (by rw [hz]; rfl)) ⟨Nat.le_of_ble_eq_true rfl, Nat.le_of_ble_eq_true rfl⟩ hw (w_recvR E hw on) rfl hl.1 rfl (Nat.le_of_ble_eq_true rfl) dX12_personLine_60 ⟨Nat.le_of_ble_eq_true rfl, Nat.le_of_ble_eq_true rfl⟩) hw rfl (Nat.le_of_ble_eq_true rfl) (Nat.le_of_ble_eq_true rfl) (fun H locs hw => ?_)
    refine W.eq (g2 := F0 m 63 ls [.int z9.1]) rfl ?_
    have hw : w_W G M z9.2 s H locs := hw
    refine lv_istore (lv' := [(5, .int z9.1), (4, .int z7.1), (3, .int z5.1), (2, .int z4.1), (0, .ref (g_r G))]) hx hb dX12_personLine_63 hl (by decide) rfl (fun ls hl => ?_)
    refine lv_aload_n hx hb dX12_personLine_65 rfl (lv_at hl 4 rfl) ?_
    refine rx_getI E hw on kF_R_25_11 (by decide) dX12_personLine_66 ?_
    refine lv_iconst (v := (-1)) hx hb dX12_personLine_69 (by decide) ?_
    refine cx_icmp_eq (tgt := 74) E dX12_personLine_70 (by decide) (fun _ => ?_) (fun _ => ?_)
    · refine lv_aload_n hx hb dX12_personLine_74 rfl (lv_at hl 4 rfl) ?_
      refine rx_getA E hw on kF_R_7_11 (by decide) dX12_personLine_75 ?_
      refine lv_iconst (v := 5) hx hb dX12_personLine_78 (by decide) ?_
      refine rx_iald E hw on (by decide) dX12_personLine_79 (fun v10 => ?_)
      refine lv_istore (lv' := [(6, .int v10), (5, .int z9.1), (4, .int z7.1), (3, .int z5.1), (2, .int z4.1), (0, .ref (g_r G))]) hx hb dX12_personLine_80 hl (by decide) rfl (fun ls hl => ?_)
      refine lv_aload_n hx hb dX12_personLine_82 rfl (lv_at hl 5 rfl) ?_
      refine lv_iload hx hb dX12_personLine_83 (lv_at hl 0 rfl) ?_
      refine lv_iconst (v := 0) hx hb dX12_personLine_85 (by decide) ?_
      refine lv_iload_n hx hb dX12_personLine_86 rfl (lv_at hl 4 rfl) ?_
      refine W_bind fun z11 hz => ?_
      refine w_after (cells1 := 0) (slots1 := 0) (w_runV E kV_R_141 kc_X12_has (t_R_has l hfl G on v10 0 z4.1 M z9.2 ((fun z => (.inl none, M, z)) z11) (by rw [hz]; rfl)) ⟨Nat.le_of_ble_eq_true rfl, Nat.le_of_ble_eq_true rfl⟩ hw (w_recvR E hw on) rfl hl.1 rfl (Nat.le_of_ble_eq_true rfl) dX12_personLine_87 ⟨Nat.le_of_ble_eq_true rfl, Nat.le_of_ble_eq_true rfl⟩) hw rfl (Nat.le_of_ble_eq_true rfl) (Nat.le_of_ble_eq_true rfl) (fun H locs hw => ?_)
      refine W.eq (g2 := F0 m 90 ls []) rfl ?_
      have hw : w_W G M z11 s H locs := hw
      refine lv_aload_n hx hb dX12_personLine_90 rfl (lv_at hl 5 rfl) ?_
      refine lv_iload hx hb dX12_personLine_91 (lv_at hl 0 rfl) ?_
      refine lv_iconst (v := 1) hx hb dX12_personLine_93 (by decide) ?_
      refine lv_iload_n hx hb dX12_personLine_94 rfl (lv_at hl 3 rfl) ?_
      refine W_bind fun z12 hz => ?_
      refine w_after (cells1 := 0) (slots1 := 0) (w_runV E kV_R_141 kc_X12_has (t_R_has l hfl G on v10 1 z5.1 M z11 ((fun z => (.inl none, M, z)) z12) (by rw [hz]; rfl)) ⟨Nat.le_of_ble_eq_true rfl, Nat.le_of_ble_eq_true rfl⟩ hw (w_recvR E hw on) rfl hl.1 rfl (Nat.le_of_ble_eq_true rfl) dX12_personLine_95 ⟨Nat.le_of_ble_eq_true rfl, Nat.le_of_ble_eq_true rfl⟩) hw rfl (Nat.le_of_ble_eq_true rfl) (Nat.le_of_ble_eq_true rfl) (fun H locs hw => ?_)
      refine W.eq (g2 := F0 m 98 ls []) rfl ?_
      have hw : w_W G M z12 s H locs := hw
      refine lv_aload_n hx hb dX12_personLine_98 rfl (lv_at hl 5 rfl) ?_
      refine lv_iload hx hb dX12_personLine_99 (lv_at hl 0 rfl) ?_
      refine lv_iconst (v := 2) hx hb dX12_personLine_101 (by decide) ?_
      refine lv_iload hx hb dX12_personLine_102 (lv_at hl 2 rfl) ?_
      refine W_bind fun z13 hz => ?_
      refine w_after (cells1 := 0) (slots1 := 0) (w_runV E kV_R_141 kc_X12_has (t_R_has l hfl G on v10 2 z7.1 M z12 ((fun z => (.inl none, M, z)) z13) (by rw [hz]; rfl)) ⟨Nat.le_of_ble_eq_true rfl, Nat.le_of_ble_eq_true rfl⟩ hw (w_recvR E hw on) rfl hl.1 rfl (Nat.le_of_ble_eq_true rfl) dX12_personLine_104 ⟨Nat.le_of_ble_eq_true rfl, Nat.le_of_ble_eq_true rfl⟩) hw rfl (Nat.le_of_ble_eq_true rfl) (Nat.le_of_ble_eq_true rfl) (fun H locs hw => ?_)
      refine W.eq (g2 := F0 m 107 ls []) rfl ?_
      have hw : w_W G M z13 s H locs := hw
      refine lv_aload_n hx hb dX12_personLine_107 rfl (lv_at hl 5 rfl) ?_
      refine lv_iload hx hb dX12_personLine_108 (lv_at hl 0 rfl) ?_
      refine lv_iconst (v := 3) hx hb dX12_personLine_110 (by decide) ?_
      refine lv_iload hx hb dX12_personLine_111 (lv_at hl 1 rfl) ?_
      refine W_bind fun z14 hz => ?_
      refine w_after (cells1 := 0) (slots1 := 0) (w_runV E kV_R_141 kc_X12_has (t_R_has l hfl G on v10 3 z9.1 M z13 ((fun z => (.inl none, M, z)) z14) (by rw [hz]; rfl)) ⟨Nat.le_of_ble_eq_true rfl, Nat.le_of_ble_eq_true rfl⟩ hw (w_recvR E hw on) rfl hl.1 rfl (Nat.le_of_ble_eq_true rfl) dX12_personLine_113 ⟨Nat.le_of_ble_eq_true rfl, Nat.le_of_ble_eq_true rfl⟩) hw rfl (Nat.le_of_ble_eq_true rfl) (Nat.le_of_ble_eq_true rfl) (fun H locs hw => ?_)
      refine W.eq (g2 := F0 m 116 ls []) rfl ?_
      have hw : w_W G M z14 s H locs := hw
      refine lv_aload_n hx hb dX12_personLine_116 rfl (lv_at hl 5 rfl) ?_
      refine lv_iload hx hb dX12_personLine_117 (lv_at hl 0 rfl) ?_
      refine lv_iconst (v := 4) hx hb dX12_personLine_119 (by decide) ?_
      refine lv_iconst (v := 0) hx hb dX12_personLine_120 (by decide) ?_
      refine W_bind fun z15 hz => ?_
      refine w_after (cells1 := 0) (slots1 := 0) (w_runV E kV_R_141 kc_X12_has (t_R_has l hfl G on v10 4 0 M z14 ((fun z => (.inl none, M, z)) z15) (by rw [hz]; rfl)) ⟨Nat.le_of_ble_eq_true rfl, Nat.le_of_ble_eq_true rfl⟩ hw (w_recvR E hw on) rfl hl.1 rfl (Nat.le_of_ble_eq_true rfl) dX12_personLine_121 ⟨Nat.le_of_ble_eq_true rfl, Nat.le_of_ble_eq_true rfl⟩) hw rfl (Nat.le_of_ble_eq_true rfl) (Nat.le_of_ble_eq_true rfl) (fun H locs hw => ?_)
      refine W.eq (g2 := F0 m 124 ls []) rfl ?_
      have hw : w_W G M z15 s H locs := hw
      refine lv_aload_n hx hb dX12_personLine_124 rfl (lv_at hl 5 rfl) ?_
      refine lv_iload hx hb dX12_personLine_125 (lv_at hl 0 rfl) ?_
      refine lv_iconst (v := 5) hx hb dX12_personLine_127 (by decide) ?_
      refine lv_iconst (v := 0) hx hb dX12_personLine_128 (by decide) ?_
      refine W_bind fun z16 hz => ?_
      refine w_after (cells1 := 0) (slots1 := 0) (w_runV E kV_R_141 kc_X12_has (t_R_has l hfl G on v10 5 0 M z15 ((fun z => (.inl none, M, z)) z16) (by rw [hz]; rfl)) ⟨Nat.le_of_ble_eq_true rfl, Nat.le_of_ble_eq_true rfl⟩ hw (w_recvR E hw on) rfl hl.1 rfl (Nat.le_of_ble_eq_true rfl) dX12_personLine_129 ⟨Nat.le_of_ble_eq_true rfl, Nat.le_of_ble_eq_true rfl⟩) hw rfl (Nat.le_of_ble_eq_true rfl) (Nat.le_of_ble_eq_true rfl) (fun H locs hw => ?_)
      refine W.eq (g2 := F0 m 132 ls []) rfl ?_
      have hw : w_W G M z16 s H locs := hw
      refine lv_aload_n hx hb dX12_personLine_132 rfl (lv_at hl 5 rfl) ?_
      refine lv_iload hx hb dX12_personLine_133 (lv_at hl 0 rfl) ?_
      refine lv_bipush (v := 6) hx hb dX12_personLine_135 (by decide) ?_
      refine lv_iconst (v := (-1)) hx hb dX12_personLine_137 (by decide) ?_
      refine W_bind fun z17 hz => ?_
      refine w_after (cells1 := 0) (slots1 := 0) (w_runV E kV_R_141 kc_X12_has (t_R_has l hfl G on v10 6 (-1) M z16 ((fun z => (.inl none, M, z)) z17) (by rw [hz]; rfl)) ⟨Nat.le_of_ble_eq_true rfl, Nat.le_of_ble_eq_true rfl⟩ hw (w_recvR E hw on) rfl hl.1 rfl (Nat.le_of_ble_eq_true rfl) dX12_personLine_138 ⟨Nat.le_of_ble_eq_true rfl, Nat.le_of_ble_eq_true rfl⟩) hw rfl (Nat.le_of_ble_eq_true rfl) (Nat.le_of_ble_eq_true rfl) (fun H locs hw => ?_)
      refine W.eq (g2 := F0 m 141 ls []) rfl ?_
      have hw : w_W G M z17 s H locs := hw
      refine lv_aload_n hx hb dX12_personLine_141 rfl (lv_at hl 5 rfl) ?_
      refine lv_iload hx hb dX12_personLine_142 (lv_at hl 0 rfl) ?_
      refine lv_bipush (v := 7) hx hb dX12_personLine_144 (by decide) ?_
      refine lv_iconst (v := (-1)) hx hb dX12_personLine_146 (by decide) ?_
      refine W_bind fun z18 hz => ?_
      refine w_after (cells1 := 0) (slots1 := 0) (w_runV E kV_R_141 kc_X12_has (t_R_has l hfl G on v10 7 (-1) M z17 ((fun z => (.inl none, M, z)) z18) (by rw [hz]; rfl)) ⟨Nat.le_of_ble_eq_true rfl, Nat.le_of_ble_eq_true rfl⟩ hw (w_recvR E hw on) rfl hl.1 rfl (Nat.le_of_ble_eq_true rfl) dX12_personLine_147 ⟨Nat.le_of_ble_eq_true rfl, Nat.le_of_ble_eq_true rfl⟩) hw rfl (Nat.le_of_ble_eq_true rfl) (Nat.le_of_ble_eq_true rfl) (fun H locs hw => ?_)
      refine W.eq (g2 := F0 m 150 ls []) rfl ?_
      have hw : w_W G M z18 s H locs := hw
      refine lv_iconst (v := 0) hx hb dX12_personLine_150 (by decide) ?_
      refine lv_istore (lv' := [(7, .int 0), (6, .int v10), (5, .int z9.1), (4, .int z7.1), (3, .int z5.1), (2, .int z4.1), (0, .ref (g_r G))]) hx hb dX12_personLine_151 hl (by decide) rfl (fun ls hl => ?_)
      exact w153  N v10 0 z18 _ _ _ hw (lv_sub hl [6, 1, 0] rfl)
    · exact p_vret E hw hr (Nat.le_of_ble_eq_true rfl) (Nat.le_of_ble_eq_true rfl) rfl dX12_personLine_73
  unfold f_R_personLine
  refine lv_aload_n hx hb dX12_personLine_0 rfl (lv_at hl 0 rfl) ?_
  refine rx_getA E hw on kF_R_7_11 (by decide) dX12_personLine_1 ?_
  refine lv_iconst (v := 5) hx hb dX12_personLine_4 (by decide) ?_
  refine rx_iald E hw on (by decide) dX12_personLine_5 (fun v1 => ?_)
  refine lv_bipush (v := 10) hx hb dX12_personLine_6 (by decide) ?_
  refine cx_icmp_ne (tgt := 16) E dX12_personLine_8 (by decide) (fun _ => ?_) (fun _ => ?_)
  · exact w16  r _ _ _ hw (lv_sub hl [0] rfl)
  · refine lv_aload_n hx hb dX12_personLine_11 rfl (lv_at hl 0 rfl) ?_
    refine lv_iload_n hx hb dX12_personLine_12 rfl (lv_at hl 1 rfl) ?_
    refine W_bind fun z2 hz => ?_
    refine w_after (cells1 := 0) (slots1 := 0) (w_runV E kV_R_105 kc_X12_wrong (t_R_wrong l hfl G on a0 M r ((fun z => (.inl none, M, z)) z2) (by rw [hz]; rfl)) ⟨Nat.le_of_ble_eq_true rfl, Nat.le_of_ble_eq_true rfl⟩ hw (w_recvR E hw on) rfl hl.1 rfl (Nat.le_of_ble_eq_true rfl) dX12_personLine_13 ⟨Nat.le_of_ble_eq_true rfl, Nat.le_of_ble_eq_true rfl⟩) hw rfl (Nat.le_of_ble_eq_true rfl) (Nat.le_of_ble_eq_true rfl) (fun H locs hw => ?_)
    refine W.eq (g2 := F0 m 16 ls []) rfl ?_
    have hw : w_W G M z2 s H locs := hw
    exact w16  z2 _ _ _ hw (lv_sub hl [0] rfl)
set_option maxHeartbeats 4000000 in
set_option maxRecDepth 100000 in
theorem t_R_who (l : Launch) (hfl : l.stackTraces = false) (G : wG) (on : g_on G = true) (a0 : Int32) (M : Mem) (r : Rho) : Ctr l yX12_who (wWs yX12_who cX12_who 2 (some .int)) rm_R_who rm_R_who.cells rm_R_who.slots G [.ref (g_r G), .int a0] M r ((f_R_who a0 r).map (fun z => (.inl (some (.int z)), M, r))) := by
  refine Ctr.ofF (own := "CheekTownModel") (by decide +kernel) hfl rfl (Nat.le_of_ble_eq_true rfl) (fun p e s m args below meth c E hno hr hnm hw ls hl => ?_)
  obtain ⟨hx, hb, hts, hown, hml, hTT, -⟩ := id E
  have hl : lv_has ls 2 [(0, .ref (g_r G)), (1, .int a0)] := hl
  obtain ⟨H, hH⟩ : ∃ H, H = s.heap := ⟨_, rfl⟩
  obtain ⟨locs, hlo⟩ : ∃ L : List Loc, L = [] := ⟨_, rfl⟩
  rw [← hH, ← hlo]
  rw [← hlo] at hw
  replace hw : w_W G M r s H locs := by rw [hH]; exact hw
  unfold f_R_who
  refine lv_aload_n hx hb dX12_who_0 rfl (lv_at hl 0 rfl) ?_
  refine rx_getA E hw on kF_R_7_11 (by decide) dX12_who_1 ?_
  refine lv_sipush (v := 372) hx hb dX12_who_4 (by decide) ?_
  refine lv_iconst (v := 2) hx hb dX12_who_7 (by decide) ?_
  refine lv_iload_n hx hb dX12_who_8 rfl (lv_at hl 1 rfl) ?_
  refine lv_imul hx hb dX12_who_9 ?_
  refine lv_iadd hx hb dX12_who_10 ?_
  refine rx_iald E hw on (by decide) dX12_who_11 (fun v1 => ?_)
  exact p_iret E hw hr (Nat.le_of_ble_eq_true rfl) (Nat.le_of_ble_eq_true rfl) rfl dX12_who_12
set_option maxHeartbeats 4000000 in
set_option maxRecDepth 100000 in
theorem t_R_whom (l : Launch) (hfl : l.stackTraces = false) (G : wG) (on : g_on G = true) (a0 : Int32) (M : Mem) (r : Rho) : Ctr l yX12_whom (wWs yX12_whom cX12_whom 2 (some .int)) rm_R_whom rm_R_whom.cells rm_R_whom.slots G [.ref (g_r G), .int a0] M r ((f_R_whom a0 r).map (fun z => (.inl (some (.int z)), M, r))) := by
  refine Ctr.ofF (own := "CheekTownModel") (by decide +kernel) hfl rfl (Nat.le_of_ble_eq_true rfl) (fun p e s m args below meth c E hno hr hnm hw ls hl => ?_)
  obtain ⟨hx, hb, hts, hown, hml, hTT, -⟩ := id E
  have hl : lv_has ls 2 [(0, .ref (g_r G)), (1, .int a0)] := hl
  obtain ⟨H, hH⟩ : ∃ H, H = s.heap := ⟨_, rfl⟩
  obtain ⟨locs, hlo⟩ : ∃ L : List Loc, L = [] := ⟨_, rfl⟩
  rw [← hH, ← hlo]
  rw [← hlo] at hw
  replace hw : w_W G M r s H locs := by rw [hH]; exact hw
  unfold f_R_whom
  refine lv_aload_n hx hb dX12_whom_0 rfl (lv_at hl 0 rfl) ?_
  refine rx_getA E hw on kF_R_7_11 (by decide) dX12_whom_1 ?_
  refine lv_sipush (v := 372) hx hb dX12_whom_4 (by decide) ?_
  refine lv_iconst (v := 2) hx hb dX12_whom_7 (by decide) ?_
  refine lv_iload_n hx hb dX12_whom_8 rfl (lv_at hl 1 rfl) ?_
  refine lv_imul hx hb dX12_whom_9 ?_
  refine lv_iadd hx hb dX12_whom_10 ?_
  refine lv_iconst (v := 1) hx hb dX12_whom_11 (by decide) ?_
  refine lv_iadd hx hb dX12_whom_12 ?_
  refine rx_iald E hw on (by decide) dX12_whom_13 (fun v1 => ?_)
  exact p_iret E hw hr (Nat.le_of_ble_eq_true rfl) (Nat.le_of_ble_eq_true rfl) rfl dX12_whom_14
set_option maxHeartbeats 4000000 in
set_option maxRecDepth 100000 in
theorem t_R_areTied (l : Launch) (hfl : l.stackTraces = false) (G : wG) (on : g_on G = true) (N : Nat) (a0 : Int32) (a1 : Int32) (M : Mem) (r : Rho) : Ctr l yX12_areTied (wWs yX12_areTied cX12_areTied 4 (some .boolean)) rm_R_areTied rm_R_areTied.cells rm_R_areTied.slots G [.ref (g_r G), .int a0, .int a1] M r ((f_R_areTied N a0 a1 r).map (fun z => (.inl (some (.int z)), M, r))) := by
  refine Ctr.ofF (own := "CheekTownModel") (by decide +kernel) hfl rfl (Nat.le_of_ble_eq_true rfl) (fun p e s m args below meth c E hno hr hnm hw ls hl => ?_)
  obtain ⟨hx, hb, hts, hown, hml, hTT, -⟩ := id E
  have hl : lv_has ls 4 [(0, .ref (g_r G)), (1, .int a0), (2, .int a1)] := hl
  obtain ⟨H, hH⟩ : ∃ H, H = s.heap := ⟨_, rfl⟩
  obtain ⟨locs, hlo⟩ : ∃ L : List Loc, L = [] := ⟨_, rfl⟩
  rw [← hH, ← hlo]
  rw [← hlo] at hw
  replace hw : w_W G M r s H locs := by rw [hH]; exact hw
  have w31 : ∀ (k2 : Int32 → Option (Int32)) (hk2 : ∀ (x3 : Int32) (H : Heap) (locs : List Loc) (ls : Array Slot), w_W G M r s H locs → lv_has ls 4 [(0, .ref (g_r G)), (1, .int a0), (2, .int a1), (3, .int x3)] → W p l e rm_R_areTied s m args below meth c H locs 0 0 (PQ G below args s rm_R_areTied.cells rm_R_areTied.slots (fun z => (.inl (some (.int z)), M, r)) (k2 x3)) (F0 m 2 ls [])) (x3 : Int32) (H : Heap) (locs : List Loc) (ls : Array Slot), w_W G M r s H locs → lv_has ls 4 [(0, .ref (g_r G)), (1, .int a0), (2, .int a1), (3, .int x3)] → W p l e rm_R_areTied s m args below meth c H locs 0 0 (PQ G below args s rm_R_areTied.cells rm_R_areTied.slots (fun z => (.inl (some (.int z)), M, r)) (f_R_areTied_31 N a0 a1 r k2 x3)) (F0 m 31 ls []) := by
    intro k2 hk2 x3 H locs ls hw hl
    unfold f_R_areTied_31
    refine lv_aload_n hx hb dX12_areTied_31 rfl (lv_at hl 0 rfl) ?_
    refine lv_iload_n hx hb dX12_areTied_32 rfl (lv_at hl 3 rfl) ?_
    refine W_bind fun z4 hz => ?_
    refine w_after (cells1 := 0) (slots1 := 0) (w_runV E kV_R_63 kc_X12_who (t_R_who l hfl G on x3 M r ((fun z => (.inl (some (.int z)), M, r)) z4) (by rw [hz]; rfl)) ⟨Nat.le_of_ble_eq_true rfl, Nat.le_of_ble_eq_true rfl⟩ hw (w_recvR E hw on) rfl hl.1 rfl (Nat.le_of_ble_eq_true rfl) dX12_areTied_33 ⟨Nat.le_of_ble_eq_true rfl, Nat.le_of_ble_eq_true rfl⟩) hw rfl (Nat.le_of_ble_eq_true rfl) (Nat.le_of_ble_eq_true rfl) (fun H locs hw => ?_)
    refine W.eq (g2 := F0 m 36 ls [.int z4]) rfl ?_
    have hw : w_W G M r s H locs := hw
    refine lv_iload_n hx hb dX12_areTied_36 rfl (lv_at hl 2 rfl) ?_
    refine cx_icmp_ne (tgt := 51) E dX12_areTied_37 (by decide) (fun _ => ?_) (fun _ => ?_)
    · refine lv_iinc (v := x3 + 1) (lv' := [(3, .int (x3 + 1)), (0, .ref (g_r G)), (1, .int a0), (2, .int a1)]) hx hb dX12_areTied_51 hl (k := 3) rfl rfl (by decide) rfl (fun ls hl => ?_)
      refine lv_goto (tgt := 2) hx hb dX12_areTied_54 (by decide) ?_
      exact hk2 (x3 + 1) _ _ _ hw (lv_sub hl [1, 2, 3, 0] rfl)
    · refine lv_aload_n hx hb dX12_areTied_40 rfl (lv_at hl 0 rfl) ?_
      refine lv_iload_n hx hb dX12_areTied_41 rfl (lv_at hl 3 rfl) ?_
      refine W_bind fun z5 hz => ?_
      refine w_after (cells1 := 0) (slots1 := 0) (w_runV E kV_R_67 kc_X12_whom (t_R_whom l hfl G on x3 M r ((fun z => (.inl (some (.int z)), M, r)) z5) (by rw [hz]; rfl)) ⟨Nat.le_of_ble_eq_true rfl, Nat.le_of_ble_eq_true rfl⟩ hw (w_recvR E hw on) rfl hl.1 rfl (Nat.le_of_ble_eq_true rfl) dX12_areTied_42 ⟨Nat.le_of_ble_eq_true rfl, Nat.le_of_ble_eq_true rfl⟩) hw rfl (Nat.le_of_ble_eq_true rfl) (Nat.le_of_ble_eq_true rfl) (fun H locs hw => ?_)
      refine W.eq (g2 := F0 m 45 ls [.int z5]) rfl ?_
      have hw : w_W G M r s H locs := hw
      refine lv_iload_n hx hb dX12_areTied_45 rfl (lv_at hl 1 rfl) ?_
      refine cx_icmp_ne (tgt := 51) E dX12_areTied_46 (by decide) (fun _ => ?_) (fun _ => ?_)
      · refine lv_iinc (v := x3 + 1) (lv' := [(3, .int (x3 + 1)), (0, .ref (g_r G)), (1, .int a0), (2, .int a1)]) hx hb dX12_areTied_51 hl (k := 3) rfl rfl (by decide) rfl (fun ls hl => ?_)
        refine lv_goto (tgt := 2) hx hb dX12_areTied_54 (by decide) ?_
        exact hk2 (x3 + 1) _ _ _ hw (lv_sub hl [1, 2, 3, 0] rfl)
      · refine lv_iconst (v := 1) hx hb dX12_areTied_49 (by decide) ?_
        exact p_zret E hw hr (by decide) (Nat.le_of_ble_eq_true rfl) (Nat.le_of_ble_eq_true rfl) rfl dX12_areTied_50
  have w2 : ∀ (n : Nat) (x3 : Int32) (H : Heap) (locs : List Loc) (ls : Array Slot), w_W G M r s H locs → lv_has ls 4 [(0, .ref (g_r G)), (1, .int a0), (2, .int a1), (3, .int x3)] → W p l e rm_R_areTied s m args below meth c H locs 0 0 (PQ G below args s rm_R_areTied.cells rm_R_areTied.slots (fun z => (.inl (some (.int z)), M, r)) (f_R_areTied_2 N a0 a1 r n x3)) (F0 m 2 ls []) := by
    intro n
    induction n with
    | zero => intros; exact W_none
    | succ n ih =>
      intro x3 H locs ls hw hl
      rw [f_R_areTied_2]
      refine lv_iload_n hx hb dX12_areTied_2 rfl (lv_at hl 3 rfl) ?_
      refine lv_aload_n hx hb dX12_areTied_3 rfl (lv_at hl 0 rfl) ?_
      refine rx_getA E hw on kF_R_7_11 (by decide) dX12_areTied_4 ?_
      refine lv_bipush (v := 6) hx hb dX12_areTied_7 (by decide) ?_
      refine rx_iald E hw on (by decide) dX12_areTied_9 (fun v1 => ?_)
      refine cx_icmp_ge (tgt := 57) E dX12_areTied_10 (by decide) (fun _ => ?_) (fun _ => ?_)
      · refine lv_iconst (v := 0) hx hb dX12_areTied_57 (by decide) ?_
        exact p_zret E hw hr (by decide) (Nat.le_of_ble_eq_true rfl) (Nat.le_of_ble_eq_true rfl) rfl dX12_areTied_58
      · refine lv_aload_n hx hb dX12_areTied_13 rfl (lv_at hl 0 rfl) ?_
        refine lv_iload_n hx hb dX12_areTied_14 rfl (lv_at hl 3 rfl) ?_
        refine W_bind fun z2 hz => ?_
        refine w_after (cells1 := 0) (slots1 := 0) (w_runV E kV_R_63 kc_X12_who (t_R_who l hfl G on x3 M r ((fun z => (.inl (some (.int z)), M, r)) z2) (by rw [hz]; rfl)) ⟨Nat.le_of_ble_eq_true rfl, Nat.le_of_ble_eq_true rfl⟩ hw (w_recvR E hw on) rfl hl.1 rfl (Nat.le_of_ble_eq_true rfl) dX12_areTied_15 ⟨Nat.le_of_ble_eq_true rfl, Nat.le_of_ble_eq_true rfl⟩) hw rfl (Nat.le_of_ble_eq_true rfl) (Nat.le_of_ble_eq_true rfl) (fun H locs hw => ?_)
        refine W.eq (g2 := F0 m 18 ls [.int z2]) rfl ?_
        have hw : w_W G M r s H locs := hw
        refine lv_iload_n hx hb dX12_areTied_18 rfl (lv_at hl 1 rfl) ?_
        refine cx_icmp_ne (tgt := 31) E dX12_areTied_19 (by decide) (fun _ => ?_) (fun _ => ?_)
        · exact w31 (f_R_areTied_2 N a0 a1 r n) ih x3 _ _ _ hw (lv_sub hl [0, 1, 2, 3] rfl)
        · refine lv_aload_n hx hb dX12_areTied_22 rfl (lv_at hl 0 rfl) ?_
          refine lv_iload_n hx hb dX12_areTied_23 rfl (lv_at hl 3 rfl) ?_
          refine W_bind fun z3 hz => ?_
          refine w_after (cells1 := 0) (slots1 := 0) (w_runV E kV_R_67 kc_X12_whom (t_R_whom l hfl G on x3 M r ((fun z => (.inl (some (.int z)), M, r)) z3) (by rw [hz]; rfl)) ⟨Nat.le_of_ble_eq_true rfl, Nat.le_of_ble_eq_true rfl⟩ hw (w_recvR E hw on) rfl hl.1 rfl (Nat.le_of_ble_eq_true rfl) dX12_areTied_24 ⟨Nat.le_of_ble_eq_true rfl, Nat.le_of_ble_eq_true rfl⟩) hw rfl (Nat.le_of_ble_eq_true rfl) (Nat.le_of_ble_eq_true rfl) (fun H locs hw => ?_)
          refine W.eq (g2 := F0 m 27 ls [.int z3]) rfl ?_
          have hw : w_W G M r s H locs := hw
          refine lv_iload_n hx hb dX12_areTied_27 rfl (lv_at hl 2 rfl) ?_
          refine cx_icmp_eq (tgt := 49) E dX12_areTied_28 (by decide) (fun _ => ?_) (fun _ => ?_)
          · refine lv_iconst (v := 1) hx hb dX12_areTied_49 (by decide) ?_
            exact p_zret E hw hr (by decide) (Nat.le_of_ble_eq_true rfl) (Nat.le_of_ble_eq_true rfl) rfl dX12_areTied_50
          · exact w31 (f_R_areTied_2 N a0 a1 r n) ih x3 _ _ _ hw (lv_sub hl [0, 1, 2, 3] rfl)
  unfold f_R_areTied
  refine lv_iconst (v := 0) hx hb dX12_areTied_0 (by decide) ?_
  refine lv_istore_n (lv' := [(3, .int 0), (0, .ref (g_r G)), (1, .int a0), (2, .int a1)]) hx hb dX12_areTied_1 rfl hl (by decide) rfl (fun ls hl => ?_)
  exact w2  N 0 _ _ _ hw (lv_sub hl [1, 2, 3, 0] rfl)
set_option maxHeartbeats 4000000 in
set_option maxRecDepth 100000 in
theorem t_R_binds (l : Launch) (hfl : l.stackTraces = false) (G : wG) (on : g_on G = true) (a0 : Int32) (a1 : Int32) (M : Mem) (r : Rho) : Ctr l yX12_binds (wWs yX12_binds cX12_binds 3 none) rm_R_binds rm_R_binds.cells rm_R_binds.slots G [.ref (g_r G), .int a0, .int a1] M r ((f_R_binds a0 a1 r).map (fun z => (.inl none, M, z))) := by
  refine Ctr.ofF (own := "CheekTownModel") (by decide +kernel) hfl rfl (Nat.le_of_ble_eq_true rfl) (fun p e s m args below meth c E hno hr hnm hw ls hl => ?_)
  obtain ⟨hx, hb, hts, hown, hml, hTT, -⟩ := id E
  have hl : lv_has ls 3 [(0, .ref (g_r G)), (1, .int a0), (2, .int a1)] := hl
  obtain ⟨H, hH⟩ : ∃ H, H = s.heap := ⟨_, rfl⟩
  obtain ⟨locs, hlo⟩ : ∃ L : List Loc, L = [] := ⟨_, rfl⟩
  rw [← hH, ← hlo]
  rw [← hlo] at hw
  replace hw : w_W G M r s H locs := by rw [hH]; exact hw
  unfold f_R_binds
  refine lv_aload_n hx hb dX12_binds_0 rfl (lv_at hl 0 rfl) ?_
  refine rx_getA E hw on kF_R_7_11 (by decide) dX12_binds_1 ?_
  refine lv_sipush (v := 372) hx hb dX12_binds_4 (by decide) ?_
  refine lv_iconst (v := 2) hx hb dX12_binds_7 (by decide) ?_
  refine lv_aload_n hx hb dX12_binds_8 rfl (lv_at hl 0 rfl) ?_
  refine rx_getA E hw on kF_R_7_11 (by decide) dX12_binds_9 ?_
  refine lv_bipush (v := 6) hx hb dX12_binds_12 (by decide) ?_
  refine rx_iald E hw on (by decide) dX12_binds_14 (fun v1 => ?_)
  refine lv_imul hx hb dX12_binds_15 ?_
  refine lv_iadd hx hb dX12_binds_16 ?_
  refine lv_iload_n hx hb dX12_binds_17 rfl (lv_at hl 1 rfl) ?_
  refine rx_iast E hw on (by decide) dX12_binds_18 (fun r2 H locs hw => ?_)
  refine lv_aload_n hx hb dX12_binds_19 rfl (lv_at hl 0 rfl) ?_
  refine rx_getA E hw on kF_R_7_11 (by decide) dX12_binds_20 ?_
  refine lv_sipush (v := 372) hx hb dX12_binds_23 (by decide) ?_
  refine lv_iconst (v := 2) hx hb dX12_binds_26 (by decide) ?_
  refine lv_aload_n hx hb dX12_binds_27 rfl (lv_at hl 0 rfl) ?_
  refine rx_getA E hw on kF_R_7_11 (by decide) dX12_binds_28 ?_
  refine lv_bipush (v := 6) hx hb dX12_binds_31 (by decide) ?_
  refine rx_iald E hw on (by decide) dX12_binds_33 (fun v3 => ?_)
  refine lv_imul hx hb dX12_binds_34 ?_
  refine lv_iadd hx hb dX12_binds_35 ?_
  refine lv_iconst (v := 1) hx hb dX12_binds_36 (by decide) ?_
  refine lv_iadd hx hb dX12_binds_37 ?_
  refine lv_iload_n hx hb dX12_binds_38 rfl (lv_at hl 2 rfl) ?_
  refine rx_iast E hw on (by decide) dX12_binds_39 (fun r4 H locs hw => ?_)
  refine lv_aload_n hx hb dX12_binds_40 rfl (lv_at hl 0 rfl) ?_
  refine rx_getA E hw on kF_R_7_11 (by decide) dX12_binds_41 ?_
  refine lv_bipush (v := 6) hx hb dX12_binds_44 (by decide) ?_
  refine lv_dup2_11 hx hb dX12_binds_46 rfl rfl ?_
  refine rx_iald E hw on (by decide) dX12_binds_47 (fun v5 => ?_)
  refine lv_iconst (v := 1) hx hb dX12_binds_48 (by decide) ?_
  refine lv_iadd hx hb dX12_binds_49 ?_
  refine rx_iast E hw on (by decide) dX12_binds_50 (fun r6 H locs hw => ?_)
  exact p_vret E hw hr (Nat.le_of_ble_eq_true rfl) (Nat.le_of_ble_eq_true rfl) rfl dX12_binds_51
set_option maxHeartbeats 4000000 in
set_option maxRecDepth 100000 in
theorem t_R_tieLine (l : Launch) (hfl : l.stackTraces = false) (G : wG) (on : g_on G = true) (N : Nat) (a0 : Int32) (M : Mem) (r : Rho) : Ctr l yX12_tieLine (wWs yX12_tieLine cX12_tieLine 5 none) rm_R_tieLine rm_R_tieLine.cells rm_R_tieLine.slots G [.ref (g_r G), .int a0] M r ((f_R_tieLine N a0 r).map (fun z => (.inl none, M, z))) := by
  refine Ctr.ofF (own := "CheekTownModel") (by decide +kernel) hfl rfl (Nat.le_of_ble_eq_true rfl) (fun p e s m args below meth c E hno hr hnm hw ls hl => ?_)
  obtain ⟨hx, hb, hts, hown, hml, hTT, -⟩ := id E
  have hl : lv_has ls 5 [(0, .ref (g_r G)), (1, .int a0)] := hl
  obtain ⟨H, hH⟩ : ∃ H, H = s.heap := ⟨_, rfl⟩
  obtain ⟨locs, hlo⟩ : ∃ L : List Loc, L = [] := ⟨_, rfl⟩
  rw [← hH, ← hlo]
  rw [← hlo] at hw
  replace hw : w_W G M r s H locs := by rw [hH]; exact hw
  have w80 : ∀ (x2 : Int32) (x4 : Int32) (r : Rho) (H : Heap) (locs : List Loc) (ls : Array Slot), w_W G M r s H locs → lv_has ls 5 [(0, .ref (g_r G)), (2, .int x2), (4, .int x4)] → W p l e rm_R_tieLine s m args below meth c H locs 0 0 (PQ G below args s rm_R_tieLine.cells rm_R_tieLine.slots (fun z => (.inl none, M, z)) (f_R_tieLine_80 N a0 x2 x4 r)) (F0 m 80 ls []) := by
    intro x2 x4 r H locs ls hw hl
    unfold f_R_tieLine_80
    refine lv_aload_n hx hb dX12_tieLine_80 rfl (lv_at hl 0 rfl) ?_
    refine rx_getI E hw on kF_R_25_11 (by decide) dX12_tieLine_81 ?_
    refine lv_iconst (v := (-1)) hx hb dX12_tieLine_84 (by decide) ?_
    refine cx_icmp_ne (tgt := 95) E dX12_tieLine_85 (by decide) (fun _ => ?_) (fun _ => ?_)
    · exact p_vret E hw hr (Nat.le_of_ble_eq_true rfl) (Nat.le_of_ble_eq_true rfl) rfl dX12_tieLine_95
    · refine lv_aload_n hx hb dX12_tieLine_88 rfl (lv_at hl 0 rfl) ?_
      refine lv_iload_n hx hb dX12_tieLine_89 rfl (lv_at hl 1 rfl) ?_
      refine lv_iload hx hb dX12_tieLine_90 (lv_at hl 2 rfl) ?_
      refine W_bind fun z9 hz => ?_
      refine w_after (cells1 := 0) (slots1 := 0) (w_runV E kV_R_152 kc_X12_binds (t_R_binds l hfl G on x2 x4 M r ((fun z => (.inl none, M, z)) z9) (by rw [hz]; rfl)) ⟨Nat.le_of_ble_eq_true rfl, Nat.le_of_ble_eq_true rfl⟩ hw (w_recvR E hw on) rfl hl.1 rfl (Nat.le_of_ble_eq_true rfl) dX12_tieLine_92 ⟨Nat.le_of_ble_eq_true rfl, Nat.le_of_ble_eq_true rfl⟩) hw rfl (Nat.le_of_ble_eq_true rfl) (Nat.le_of_ble_eq_true rfl) (fun H locs hw => ?_)
      refine W.eq (g2 := F0 m 95 ls []) rfl ?_
      have hw : w_W G M z9 s H locs := hw
      exact p_vret E hw hr (Nat.le_of_ble_eq_true rfl) (Nat.le_of_ble_eq_true rfl) rfl dX12_tieLine_95
  have w75 : ∀ (x2 : Int32) (x3 : Int32) (x4 : Int32) (r : Rho) (H : Heap) (locs : List Loc) (ls : Array Slot), w_W G M r s H locs → lv_has ls 5 [(0, .ref (g_r G)), (2, .int x2), (3, .int x3), (4, .int x4)] → W p l e rm_R_tieLine s m args below meth c H locs 0 0 (PQ G below args s rm_R_tieLine.cells rm_R_tieLine.slots (fun z => (.inl none, M, z)) (f_R_tieLine_75 N a0 x2 x3 x4 r)) (F0 m 75 ls []) := by
    intro x2 x3 x4 r H locs ls hw hl
    unfold f_R_tieLine_75
    refine lv_aload_n hx hb dX12_tieLine_75 rfl (lv_at hl 0 rfl) ?_
    refine lv_iload_n hx hb dX12_tieLine_76 rfl (lv_at hl 2 rfl) ?_
    refine W_bind fun z10 hz => ?_
    refine w_after (cells1 := 0) (slots1 := 0) (w_runV E kV_R_105 kc_X12_wrong (t_R_wrong l hfl G on x3 M r ((fun z => (.inl none, M, z)) z10) (by rw [hz]; rfl)) ⟨Nat.le_of_ble_eq_true rfl, Nat.le_of_ble_eq_true rfl⟩ hw (w_recvR E hw on) rfl hl.1 rfl (Nat.le_of_ble_eq_true rfl) dX12_tieLine_77 ⟨Nat.le_of_ble_eq_true rfl, Nat.le_of_ble_eq_true rfl⟩) hw rfl (Nat.le_of_ble_eq_true rfl) (Nat.le_of_ble_eq_true rfl) (fun H locs hw => ?_)
    refine W.eq (g2 := F0 m 80 ls []) rfl ?_
    have hw : w_W G M z10 s H locs := hw
    exact w80  x2 x4 z10 _ _ _ hw (lv_sub hl [0, 1, 3] rfl)
  have w17 : ∀ (r : Rho) (H : Heap) (locs : List Loc) (ls : Array Slot), w_W G M r s H locs → lv_has ls 5 [(0, .ref (g_r G))] → W p l e rm_R_tieLine s m args below meth c H locs 0 0 (PQ G below args s rm_R_tieLine.cells rm_R_tieLine.slots (fun z => (.inl none, M, z)) (f_R_tieLine_17 N a0 r)) (F0 m 17 ls []) := by
    intro r H locs ls hw hl
    unfold f_R_tieLine_17
    refine lv_aload_n hx hb dX12_tieLine_17 rfl (lv_at hl 0 rfl) ?_
    refine lv_iconst (v := 0) hx hb dX12_tieLine_18 (by decide) ?_
    refine lv_aload_n hx hb dX12_tieLine_19 rfl (lv_at hl 0 rfl) ?_
    refine rx_getA E hw on kF_R_7_11 (by decide) dX12_tieLine_20 ?_
    refine lv_iconst (v := 5) hx hb dX12_tieLine_23 (by decide) ?_
    refine rx_iald E hw on (by decide) dX12_tieLine_24 (fun v3 => ?_)
    refine lv_iconst (v := 1) hx hb dX12_tieLine_25 (by decide) ?_
    refine lv_isub hx hb dX12_tieLine_26 ?_
    refine W_bind fun z4 hz => ?_
    refine w_after (cells1 := 0) (slots1 := 0) (w_runV E kV_R_124 kc_X12_figures (t_R_figures l hfl G on N 0 (v3 - 1) M r ((fun z => (.inl (some (.int z.1)), M, z.2)) z4) (by rw [hz]; rfl)) ⟨Nat.le_of_ble_eq_true rfl, Nat.le_of_ble_eq_true rfl⟩ hw (w_recvR E hw on) rfl hl.1 rfl (Nat.le_of_ble_eq_true rfl) dX12_tieLine_27 ⟨Nat.le_of_ble_eq_true rfl, Nat.le_of_ble_eq_true rfl⟩) hw rfl (Nat.le_of_ble_eq_true rfl) (Nat.le_of_ble_eq_true rfl) (fun H locs hw => ?_)
    refine W.eq (g2 := F0 m 30 ls [.int z4.1]) rfl ?_
    have hw : w_W G M z4.2 s H locs := hw
    refine lv_istore_n (lv' := [(2, .int z4.1), (0, .ref (g_r G))]) hx hb dX12_tieLine_30 rfl hl (by decide) rfl (fun ls hl => ?_)
    refine lv_aload_n hx hb dX12_tieLine_31 rfl (lv_at hl 1 rfl) ?_
    refine W_bind fun z5 hz => ?_
    refine w_after (cells1 := 0) (slots1 := 0) (w_runV E kV_R_109 kc_X12_place (t_R_place l hfl G on N M z4.2 ((fun z => (.inl (some (.int z.1)), M, z.2)) z5) (by rw [hz]; rfl)) ⟨Nat.le_of_ble_eq_true rfl, Nat.le_of_ble_eq_true rfl⟩ hw (w_recvR E hw on) rfl hl.1 rfl (Nat.le_of_ble_eq_true rfl) dX12_tieLine_32 ⟨Nat.le_of_ble_eq_true rfl, Nat.le_of_ble_eq_true rfl⟩) hw rfl (Nat.le_of_ble_eq_true rfl) (Nat.le_of_ble_eq_true rfl) (fun H locs hw => ?_)
    refine W.eq (g2 := F0 m 35 ls [.int z5.1]) rfl ?_
    have hw : w_W G M z5.2 s H locs := hw
    refine lv_istore_n (lv' := [(3, .int z5.1), (2, .int z4.1), (0, .ref (g_r G))]) hx hb dX12_tieLine_35 rfl hl (by decide) rfl (fun ls hl => ?_)
    refine lv_aload_n hx hb dX12_tieLine_36 rfl (lv_at hl 2 rfl) ?_
    refine lv_iconst (v := 0) hx hb dX12_tieLine_37 (by decide) ?_
    refine lv_aload_n hx hb dX12_tieLine_38 rfl (lv_at hl 2 rfl) ?_
    refine rx_getA E hw on kF_R_7_11 (by decide) dX12_tieLine_39 ?_
    refine lv_iconst (v := 5) hx hb dX12_tieLine_42 (by decide) ?_
    refine rx_iald E hw on (by decide) dX12_tieLine_43 (fun v6 => ?_)
    refine lv_iconst (v := 1) hx hb dX12_tieLine_44 (by decide) ?_
    refine lv_isub hx hb dX12_tieLine_45 ?_
    refine W_bind fun z7 hz => ?_
    refine w_after (cells1 := 0) (slots1 := 0) (w_runV E kV_R_124 kc_X12_figures (t_R_figures l hfl G on N 0 (v6 - 1) M z5.2 ((fun z => (.inl (some (.int z.1)), M, z.2)) z7) (by rw [hz]; rfl)) ⟨Nat.le_of_ble_eq_true rfl, Nat.le_of_ble_eq_true rfl⟩ hw (w_recvR E hw on) rfl hl.1 rfl (Nat.le_of_ble_eq_true rfl) dX12_tieLine_46 ⟨Nat.le_of_ble_eq_true rfl, Nat.le_of_ble_eq_true rfl⟩) hw rfl (Nat.le_of_ble_eq_true rfl) (Nat.le_of_ble_eq_true rfl) (fun H locs hw => ?_)
    refine W.eq (g2 := F0 m 49 ls [.int z7.1]) rfl ?_
    have hw : w_W G M z7.2 s H locs := hw
    refine lv_istore (lv' := [(4, .int z7.1), (3, .int z5.1), (2, .int z4.1), (0, .ref (g_r G))]) hx hb dX12_tieLine_49 hl (by decide) rfl (fun ls hl => ?_)
    refine lv_aload_n hx hb dX12_tieLine_51 rfl (lv_at hl 3 rfl) ?_
    refine rx_getI E hw on kF_R_25_11 (by decide) dX12_tieLine_52 ?_
    refine lv_iconst (v := (-1)) hx hb dX12_tieLine_55 (by decide) ?_
    refine cx_icmp_ne (tgt := 80) E dX12_tieLine_56 (by decide) (fun _ => ?_) (fun _ => ?_)
    · exact w80  z4.1 z7.1 z7.2 _ _ _ hw (lv_sub hl [3, 2, 0] rfl)
    · refine lv_iload_n hx hb dX12_tieLine_59 rfl (lv_at hl 2 rfl) ?_
      refine lv_iload hx hb dX12_tieLine_60 (lv_at hl 0 rfl) ?_
      refine cx_icmp_eq (tgt := 75) E dX12_tieLine_62 (by decide) (fun _ => ?_) (fun _ => ?_)
      · exact w75  z4.1 z5.1 z7.1 z7.2 _ _ _ hw (lv_sub hl [3, 2, 1, 0] rfl)
      · refine lv_aload_n hx hb dX12_tieLine_65 rfl (lv_at hl 3 rfl) ?_
        refine lv_iload_n hx hb dX12_tieLine_66 rfl (lv_at hl 2 rfl) ?_
        refine lv_iload hx hb dX12_tieLine_67 (lv_at hl 0 rfl) ?_
        refine W_bind fun z8 hz => ?_
        refine w_after (cells1 := 0) (slots1 := 0) (w_runV E kV_R_148 kc_X12_areTied (t_R_areTied l hfl G on N z4.1 z7.1 M z7.2 ((fun z => (.inl (some (.int z)), M, z7.2)) z8) (by rw [hz]; rfl)) ⟨Nat.le_of_ble_eq_true rfl, Nat.le_of_ble_eq_true rfl⟩ hw (w_recvR E hw on) rfl hl.1 rfl (Nat.le_of_ble_eq_true rfl) dX12_tieLine_69 ⟨Nat.le_of_ble_eq_true rfl, Nat.le_of_ble_eq_true rfl⟩) hw rfl (Nat.le_of_ble_eq_true rfl) (Nat.le_of_ble_eq_true rfl) (fun H locs hw => ?_)
        refine W.eq (g2 := F0 m 72 ls [.int z8]) rfl ?_
        have hw : w_W G M z7.2 s H locs := hw
        refine cx_if_eq (tgt := 80) E dX12_tieLine_72 (by decide) (fun _ => ?_) (fun _ => ?_)
        · exact w80  z4.1 z7.1 z7.2 _ _ _ hw (lv_sub hl [3, 2, 0] rfl)
        · exact w75  z4.1 z5.1 z7.1 z7.2 _ _ _ hw (lv_sub hl [3, 2, 1, 0] rfl)
  unfold f_R_tieLine
  refine lv_aload_n hx hb dX12_tieLine_0 rfl (lv_at hl 0 rfl) ?_
  refine rx_getA E hw on kF_R_7_11 (by decide) dX12_tieLine_1 ?_
  refine lv_bipush (v := 6) hx hb dX12_tieLine_4 (by decide) ?_
  refine rx_iald E hw on (by decide) dX12_tieLine_6 (fun v1 => ?_)
  refine lv_bipush (v := 24) hx hb dX12_tieLine_7 (by decide) ?_
  refine cx_icmp_ne (tgt := 17) E dX12_tieLine_9 (by decide) (fun _ => ?_) (fun _ => ?_)
  · exact w17  r _ _ _ hw (lv_sub hl [0] rfl)
  · refine lv_aload_n hx hb dX12_tieLine_12 rfl (lv_at hl 0 rfl) ?_
    refine lv_iload_n hx hb dX12_tieLine_13 rfl (lv_at hl 1 rfl) ?_
    refine W_bind fun z2 hz => ?_
    refine w_after (cells1 := 0) (slots1 := 0) (w_runV E kV_R_105 kc_X12_wrong (t_R_wrong l hfl G on a0 M r ((fun z => (.inl none, M, z)) z2) (by rw [hz]; rfl)) ⟨Nat.le_of_ble_eq_true rfl, Nat.le_of_ble_eq_true rfl⟩ hw (w_recvR E hw on) rfl hl.1 rfl (Nat.le_of_ble_eq_true rfl) dX12_tieLine_14 ⟨Nat.le_of_ble_eq_true rfl, Nat.le_of_ble_eq_true rfl⟩) hw rfl (Nat.le_of_ble_eq_true rfl) (Nat.le_of_ble_eq_true rfl) (fun H locs hw => ?_)
    refine W.eq (g2 := F0 m 17 ls []) rfl ?_
    have hw : w_W G M z2 s H locs := hw
    exact w17  z2 _ _ _ hw (lv_sub hl [0] rfl)
set_option maxHeartbeats 4000000 in
set_option maxRecDepth 100000 in
theorem t_R_tells (l : Launch) (hfl : l.stackTraces = false) (G : wG) (on : g_on G = true) (N : Nat) (a0 : Int32) (M : Mem) (r : Rho) : Ctr l yX12_tells (wWs yX12_tells cX12_tells 3 none) rm_R_tells rm_R_tells.cells rm_R_tells.slots G [.ref (g_r G), .int a0] M r ((f_R_tells N a0 r).map (fun z => (.inl none, M, z))) := by
  refine Ctr.ofF (own := "CheekTownModel") (by decide +kernel) hfl rfl (Nat.le_of_ble_eq_true rfl) (fun p e s m args below meth c E hno hr hnm hw ls hl => ?_)
  obtain ⟨hx, hb, hts, hown, hml, hTT, -⟩ := id E
  have hl : lv_has ls 3 [(0, .ref (g_r G)), (1, .int a0)] := hl
  obtain ⟨H, hH⟩ : ∃ H, H = s.heap := ⟨_, rfl⟩
  obtain ⟨locs, hlo⟩ : ∃ L : List Loc, L = [] := ⟨_, rfl⟩
  rw [← hH, ← hlo]
  rw [← hlo] at hw
  replace hw : w_W G M r s H locs := by rw [hH]; exact hw
  unfold f_R_tells
  refine lv_aload_n hx hb dX12_tells_0 rfl (lv_at hl 0 rfl) ?_
  refine lv_iconst (v := 0) hx hb dX12_tells_1 (by decide) ?_
  refine lv_bipush (v := 99) hx hb dX12_tells_2 (by decide) ?_
  refine W_bind fun z1 hz => ?_
  refine w_after (cells1 := 0) (slots1 := 0) (w_runV E kV_R_124 kc_X12_figures (t_R_figures l hfl G on N 0 99 M r ((fun z => (.inl (some (.int z.1)), M, z.2)) z1) (by rw [hz]; rfl)) ⟨Nat.le_of_ble_eq_true rfl, Nat.le_of_ble_eq_true rfl⟩ hw (w_recvR E hw on) rfl hl.1 rfl (Nat.le_of_ble_eq_true rfl) dX12_tells_4 ⟨Nat.le_of_ble_eq_true rfl, Nat.le_of_ble_eq_true rfl⟩) hw rfl (Nat.le_of_ble_eq_true rfl) (Nat.le_of_ble_eq_true rfl) (fun H locs hw => ?_)
  refine W.eq (g2 := F0 m 7 ls [.int z1.1]) rfl ?_
  have hw : w_W G M z1.2 s H locs := hw
  refine lv_istore_n (lv' := [(2, .int z1.1), (0, .ref (g_r G)), (1, .int a0)]) hx hb dX12_tells_7 rfl hl (by decide) rfl (fun ls hl => ?_)
  refine lv_aload_n hx hb dX12_tells_8 rfl (lv_at hl 1 rfl) ?_
  refine rx_getI E hw on kF_R_25_11 (by decide) dX12_tells_9 ?_
  refine lv_iconst (v := (-1)) hx hb dX12_tells_12 (by decide) ?_
  refine cx_icmp_ne (tgt := 23) E dX12_tells_13 (by decide) (fun _ => ?_) (fun _ => ?_)
  · exact p_vret E hw hr (Nat.le_of_ble_eq_true rfl) (Nat.le_of_ble_eq_true rfl) rfl dX12_tells_23
  · refine lv_aload_n hx hb dX12_tells_16 rfl (lv_at hl 1 rfl) ?_
    refine rx_getA E hw on kF_R_7_11 (by decide) dX12_tells_17 ?_
    refine lv_iload_n hx hb dX12_tells_20 rfl (lv_at hl 2 rfl) ?_
    refine lv_iload_n hx hb dX12_tells_21 rfl (lv_at hl 0 rfl) ?_
    refine rx_iast E hw on (by decide) dX12_tells_22 (fun r2 H locs hw => ?_)
    exact p_vret E hw hr (Nat.le_of_ble_eq_true rfl) (Nat.le_of_ble_eq_true rfl) rfl dX12_tells_23
set_option maxHeartbeats 4000000 in
set_option maxRecDepth 100000 in
theorem t_R_townLine (l : Launch) (hfl : l.stackTraces = false) (G : wG) (on : g_on G = true) (N : Nat) (M : Mem) (r : Rho) : Ctr l yX12_townLine (wWs yX12_townLine cX12_townLine 3 none) rm_R_townLine rm_R_townLine.cells rm_R_townLine.slots G [.ref (g_r G)] M r ((f_R_townLine N r).map (fun z => (.inl none, M, z))) := by
  refine Ctr.ofF (own := "CheekTownModel") (by decide +kernel) hfl rfl (Nat.le_of_ble_eq_true rfl) (fun p e s m args below meth c E hno hr hnm hw ls hl => ?_)
  obtain ⟨hx, hb, hts, hown, hml, hTT, -⟩ := id E
  have hl : lv_has ls 3 [(0, .ref (g_r G))] := hl
  obtain ⟨H, hH⟩ : ∃ H, H = s.heap := ⟨_, rfl⟩
  obtain ⟨locs, hlo⟩ : ∃ L : List Loc, L = [] := ⟨_, rfl⟩
  rw [← hH, ← hlo]
  rw [← hlo] at hw
  replace hw : w_W G M r s H locs := by rw [hH]; exact hw
  have w30 : ∀ (r : Rho) (H : Heap) (locs : List Loc) (ls : Array Slot), w_W G M r s H locs → lv_has ls 3 [(0, .ref (g_r G))] → W p l e rm_R_townLine s m args below meth c H locs 0 0 (PQ G below args s rm_R_townLine.cells rm_R_townLine.slots (fun z => (.inl none, M, z)) (f_R_townLine_30 N r)) (F0 m 30 ls []) := by
    intro r H locs ls hw hl
    unfold f_R_townLine_30
    refine lv_aload_n hx hb dX12_townLine_30 rfl (lv_at hl 0 rfl) ?_
    refine rx_getI E hw on kF_R_25_11 (by decide) dX12_townLine_31 ?_
    refine lv_iconst (v := (-1)) hx hb dX12_townLine_34 (by decide) ?_
    refine cx_icmp_ne (tgt := 205) E dX12_townLine_35 (by decide) (fun _ => ?_) (fun _ => ?_)
    · exact p_vret E hw hr (Nat.le_of_ble_eq_true rfl) (Nat.le_of_ble_eq_true rfl) rfl dX12_townLine_205
    · refine lv_aload_n hx hb dX12_townLine_38 rfl (lv_at hl 0 rfl) ?_
      refine rx_getA E hw on kF_R_7_11 (by decide) dX12_townLine_39 ?_
      refine lv_iconst (v := 3) hx hb dX12_townLine_42 (by decide) ?_
      refine lv_dup2_11 hx hb dX12_townLine_43 rfl rfl ?_
      refine rx_iald E hw on (by decide) dX12_townLine_44 (fun v22 => ?_)
      refine lv_iconst (v := 1) hx hb dX12_townLine_45 (by decide) ?_
      refine lv_iadd hx hb dX12_townLine_46 ?_
      refine rx_iast E hw on (by decide) dX12_townLine_47 (fun r23 H locs hw => ?_)
      refine lv_goto (tgt := 205) hx hb dX12_townLine_48 (by decide) ?_
      exact p_vret E hw hr (Nat.le_of_ble_eq_true rfl) (Nat.le_of_ble_eq_true rfl) rfl dX12_townLine_205
  unfold f_R_townLine
  refine lv_aload_n hx hb dX12_townLine_0 rfl (lv_at hl 0 rfl) ?_
  refine W_bind fun z1 hz => ?_
  refine w_after (cells1 := 0) (slots1 := 0) (w_runV E kV_R_109 kc_X12_place (t_R_place l hfl G on N M r ((fun z => (.inl (some (.int z.1)), M, z.2)) z1) (by rw [hz]; rfl)) ⟨Nat.le_of_ble_eq_true rfl, Nat.le_of_ble_eq_true rfl⟩ hw (w_recvR E hw on) rfl hl.1 rfl (Nat.le_of_ble_eq_true rfl) dX12_townLine_1 ⟨Nat.le_of_ble_eq_true rfl, Nat.le_of_ble_eq_true rfl⟩) hw rfl (Nat.le_of_ble_eq_true rfl) (Nat.le_of_ble_eq_true rfl) (fun H locs hw => ?_)
  refine W.eq (g2 := F0 m 4 ls [.int z1.1]) rfl ?_
  have hw : w_W G M z1.2 s H locs := hw
  refine lv_istore_n (lv' := [(1, .int z1.1), (0, .ref (g_r G))]) hx hb dX12_townLine_4 rfl hl (by decide) rfl (fun ls hl => ?_)
  refine lv_aload_n hx hb dX12_townLine_5 rfl (lv_at hl 1 rfl) ?_
  refine va_ldcS hx hb hown (hTT.2.2.1 60 _ rfl) dX12_townLine_6 ?_
  refine W_bind fun z2 hz => ?_
  refine w_after (cells1 := 0) (slots1 := 0) (w_runV E kV_R_101 kc_X12_has_ (t_R_has_ l hfl G on N 60 M z1.2 ((fun z => (.inl (some (.int z.1)), M, z.2)) z2) (by rw [hz]; rfl)) ⟨Nat.le_of_ble_eq_true rfl, Nat.le_of_ble_eq_true rfl⟩ hw (w_recvR E hw on) rfl hl.1 rfl (Nat.le_of_ble_eq_true rfl) dX12_townLine_8 ⟨Nat.le_of_ble_eq_true rfl, Nat.le_of_ble_eq_true rfl⟩) hw rfl (Nat.le_of_ble_eq_true rfl) (Nat.le_of_ble_eq_true rfl) (fun H locs hw => ?_)
  refine W.eq (g2 := F0 m 11 ls [.int z2.1]) rfl ?_
  have hw : w_W G M z2.2 s H locs := hw
  refine cx_if_eq (tgt := 51) E dX12_townLine_11 (by decide) (fun _ => ?_) (fun _ => ?_)
  · refine lv_aload_n hx hb dX12_townLine_51 rfl (lv_at hl 1 rfl) ?_
    refine va_ldcS hx hb hown (hTT.2.2.1 61 _ rfl) dX12_townLine_52 ?_
    refine W_bind fun z3 hz => ?_
    refine w_after (cells1 := 0) (slots1 := 0) (w_runV E kV_R_101 kc_X12_has_ (t_R_has_ l hfl G on N 61 M z2.2 ((fun z => (.inl (some (.int z.1)), M, z.2)) z3) (by rw [hz]; rfl)) ⟨Nat.le_of_ble_eq_true rfl, Nat.le_of_ble_eq_true rfl⟩ hw (w_recvR E hw on) rfl hl.1 rfl (Nat.le_of_ble_eq_true rfl) dX12_townLine_54 ⟨Nat.le_of_ble_eq_true rfl, Nat.le_of_ble_eq_true rfl⟩) hw rfl (Nat.le_of_ble_eq_true rfl) (Nat.le_of_ble_eq_true rfl) (fun H locs hw => ?_)
    refine W.eq (g2 := F0 m 57 ls [.int z3.1]) rfl ?_
    have hw : w_W G M z3.2 s H locs := hw
    refine cx_if_eq (tgt := 68) E dX12_townLine_57 (by decide) (fun _ => ?_) (fun _ => ?_)
    · refine lv_aload_n hx hb dX12_townLine_68 rfl (lv_at hl 1 rfl) ?_
      refine va_ldcS hx hb hown (hTT.2.2.1 63 _ rfl) dX12_townLine_69 ?_
      refine W_bind fun z4 hz => ?_
      refine w_after (cells1 := 0) (slots1 := 0) (w_runV E kV_R_101 kc_X12_has_ (t_R_has_ l hfl G on N 63 M z3.2 ((fun z => (.inl (some (.int z.1)), M, z.2)) z4) (by rw [hz]; rfl)) ⟨Nat.le_of_ble_eq_true rfl, Nat.le_of_ble_eq_true rfl⟩ hw (w_recvR E hw on) rfl hl.1 rfl (Nat.le_of_ble_eq_true rfl) dX12_townLine_71 ⟨Nat.le_of_ble_eq_true rfl, Nat.le_of_ble_eq_true rfl⟩) hw rfl (Nat.le_of_ble_eq_true rfl) (Nat.le_of_ble_eq_true rfl) (fun H locs hw => ?_)
      refine W.eq (g2 := F0 m 74 ls [.int z4.1]) rfl ?_
      have hw : w_W G M z4.2 s H locs := hw
      refine cx_if_eq (tgt := 85) E dX12_townLine_74 (by decide) (fun _ => ?_) (fun _ => ?_)
      · refine lv_aload_n hx hb dX12_townLine_85 rfl (lv_at hl 1 rfl) ?_
        refine va_ldcS hx hb hown (hTT.2.2.1 51 _ rfl) dX12_townLine_86 ?_
        refine W_bind fun z5 hz => ?_
        refine w_after (cells1 := 0) (slots1 := 0) (w_runV E kV_R_101 kc_X12_has_ (t_R_has_ l hfl G on N 51 M z4.2 ((fun z => (.inl (some (.int z.1)), M, z.2)) z5) (by rw [hz]; rfl)) ⟨Nat.le_of_ble_eq_true rfl, Nat.le_of_ble_eq_true rfl⟩ hw (w_recvR E hw on) rfl hl.1 rfl (Nat.le_of_ble_eq_true rfl) dX12_townLine_88 ⟨Nat.le_of_ble_eq_true rfl, Nat.le_of_ble_eq_true rfl⟩) hw rfl (Nat.le_of_ble_eq_true rfl) (Nat.le_of_ble_eq_true rfl) (fun H locs hw => ?_)
        refine W.eq (g2 := F0 m 91 ls [.int z5.1]) rfl ?_
        have hw : w_W G M z5.2 s H locs := hw
        refine cx_if_eq (tgt := 126) E dX12_townLine_91 (by decide) (fun _ => ?_) (fun _ => ?_)
        · refine lv_aload_n hx hb dX12_townLine_126 rfl (lv_at hl 1 rfl) ?_
          refine va_ldcS hx hb hown (hTT.2.2.1 65 _ rfl) dX12_townLine_127 ?_
          refine W_bind fun z6 hz => ?_
          refine w_after (cells1 := 0) (slots1 := 0) (w_runV E kV_R_101 kc_X12_has_ (t_R_has_ l hfl G on N 65 M z5.2 ((fun z => (.inl (some (.int z.1)), M, z.2)) z6) (by rw [hz]; rfl)) ⟨Nat.le_of_ble_eq_true rfl, Nat.le_of_ble_eq_true rfl⟩ hw (w_recvR E hw on) rfl hl.1 rfl (Nat.le_of_ble_eq_true rfl) dX12_townLine_129 ⟨Nat.le_of_ble_eq_true rfl, Nat.le_of_ble_eq_true rfl⟩) hw rfl (Nat.le_of_ble_eq_true rfl) (Nat.le_of_ble_eq_true rfl) (fun H locs hw => ?_)
          refine W.eq (g2 := F0 m 132 ls [.int z6.1]) rfl ?_
          have hw : w_W G M z6.2 s H locs := hw
          refine cx_if_eq (tgt := 143) E dX12_townLine_132 (by decide) (fun _ => ?_) (fun _ => ?_)
          · refine lv_aload_n hx hb dX12_townLine_143 rfl (lv_at hl 1 rfl) ?_
            refine va_ldcS hx hb hown (hTT.2.2.1 66 _ rfl) dX12_townLine_144 ?_
            refine W_bind fun z7 hz => ?_
            refine w_after (cells1 := 0) (slots1 := 0) (w_runV E kV_R_101 kc_X12_has_ (t_R_has_ l hfl G on N 66 M z6.2 ((fun z => (.inl (some (.int z.1)), M, z.2)) z7) (by rw [hz]; rfl)) ⟨Nat.le_of_ble_eq_true rfl, Nat.le_of_ble_eq_true rfl⟩ hw (w_recvR E hw on) rfl hl.1 rfl (Nat.le_of_ble_eq_true rfl) dX12_townLine_146 ⟨Nat.le_of_ble_eq_true rfl, Nat.le_of_ble_eq_true rfl⟩) hw rfl (Nat.le_of_ble_eq_true rfl) (Nat.le_of_ble_eq_true rfl) (fun H locs hw => ?_)
            refine W.eq (g2 := F0 m 149 ls [.int z7.1]) rfl ?_
            have hw : w_W G M z7.2 s H locs := hw
            refine cx_if_eq (tgt := 161) E dX12_townLine_149 (by decide) (fun _ => ?_) (fun _ => ?_)
            · refine lv_aload_n hx hb dX12_townLine_161 rfl (lv_at hl 1 rfl) ?_
              refine va_ldcS hx hb hown (hTT.2.2.1 67 _ rfl) dX12_townLine_162 ?_
              refine W_bind fun z8 hz => ?_
              refine w_after (cells1 := 0) (slots1 := 0) (w_runV E kV_R_101 kc_X12_has_ (t_R_has_ l hfl G on N 67 M z7.2 ((fun z => (.inl (some (.int z.1)), M, z.2)) z8) (by rw [hz]; rfl)) ⟨Nat.le_of_ble_eq_true rfl, Nat.le_of_ble_eq_true rfl⟩ hw (w_recvR E hw on) rfl hl.1 rfl (Nat.le_of_ble_eq_true rfl) dX12_townLine_164 ⟨Nat.le_of_ble_eq_true rfl, Nat.le_of_ble_eq_true rfl⟩) hw rfl (Nat.le_of_ble_eq_true rfl) (Nat.le_of_ble_eq_true rfl) (fun H locs hw => ?_)
              refine W.eq (g2 := F0 m 167 ls [.int z8.1]) rfl ?_
              have hw : w_W G M z8.2 s H locs := hw
              refine cx_if_eq (tgt := 179) E dX12_townLine_167 (by decide) (fun _ => ?_) (fun _ => ?_)
              · refine lv_aload_n hx hb dX12_townLine_179 rfl (lv_at hl 1 rfl) ?_
                refine va_ldcS hx hb hown (hTT.2.2.1 68 _ rfl) dX12_townLine_180 ?_
                refine W_bind fun z9 hz => ?_
                refine w_after (cells1 := 0) (slots1 := 0) (w_runV E kV_R_101 kc_X12_has_ (t_R_has_ l hfl G on N 68 M z8.2 ((fun z => (.inl (some (.int z.1)), M, z.2)) z9) (by rw [hz]; rfl)) ⟨Nat.le_of_ble_eq_true rfl, Nat.le_of_ble_eq_true rfl⟩ hw (w_recvR E hw on) rfl hl.1 rfl (Nat.le_of_ble_eq_true rfl) dX12_townLine_182 ⟨Nat.le_of_ble_eq_true rfl, Nat.le_of_ble_eq_true rfl⟩) hw rfl (Nat.le_of_ble_eq_true rfl) (Nat.le_of_ble_eq_true rfl) (fun H locs hw => ?_)
                refine W.eq (g2 := F0 m 185 ls [.int z9.1]) rfl ?_
                have hw : w_W G M z9.2 s H locs := hw
                refine cx_if_eq (tgt := 197) E dX12_townLine_185 (by decide) (fun _ => ?_) (fun _ => ?_)
                · refine lv_aload_n hx hb dX12_townLine_197 rfl (lv_at hl 1 rfl) ?_
                  refine lv_aload_n hx hb dX12_townLine_198 rfl (lv_at hl 1 rfl) ?_
                  refine rx_getI E hw on kF_R_79_11 (by decide) dX12_townLine_199 ?_
                  refine W_bind fun z10 hz => ?_
                  refine w_after (cells1 := 0) (slots1 := 0) (w_runV E kV_R_105 kc_X12_wrong (t_R_wrong l hfl G on (z9.2.1 11) M z9.2 ((fun z => (.inl none, M, z)) z10) (by rw [hz]; rfl)) ⟨Nat.le_of_ble_eq_true rfl, Nat.le_of_ble_eq_true rfl⟩ hw (w_recvR E hw on) rfl hl.1 rfl (Nat.le_of_ble_eq_true rfl) dX12_townLine_202 ⟨Nat.le_of_ble_eq_true rfl, Nat.le_of_ble_eq_true rfl⟩) hw rfl (Nat.le_of_ble_eq_true rfl) (Nat.le_of_ble_eq_true rfl) (fun H locs hw => ?_)
                  refine W.eq (g2 := F0 m 205 ls []) rfl ?_
                  have hw : w_W G M z10 s H locs := hw
                  exact p_vret E hw hr (Nat.le_of_ble_eq_true rfl) (Nat.le_of_ble_eq_true rfl) rfl dX12_townLine_205
                · refine lv_aload_n hx hb dX12_townLine_188 rfl (lv_at hl 1 rfl) ?_
                  refine lv_bipush (v := 15) hx hb dX12_townLine_189 (by decide) ?_
                  refine W_bind fun z11 hz => ?_
                  refine w_after (cells1 := 0) (slots1 := 0) (w_runV E kV_R_177 kc_X12_tells (t_R_tells l hfl G on N 15 M z9.2 ((fun z => (.inl none, M, z)) z11) (by rw [hz]; rfl)) ⟨Nat.le_of_ble_eq_true rfl, Nat.le_of_ble_eq_true rfl⟩ hw (w_recvR E hw on) rfl hl.1 rfl (Nat.le_of_ble_eq_true rfl) dX12_townLine_191 ⟨Nat.le_of_ble_eq_true rfl, Nat.le_of_ble_eq_true rfl⟩) hw rfl (Nat.le_of_ble_eq_true rfl) (Nat.le_of_ble_eq_true rfl) (fun H locs hw => ?_)
                  refine W.eq (g2 := F0 m 194 ls []) rfl ?_
                  have hw : w_W G M z11 s H locs := hw
                  refine lv_goto (tgt := 205) hx hb dX12_townLine_194 (by decide) ?_
                  exact p_vret E hw hr (Nat.le_of_ble_eq_true rfl) (Nat.le_of_ble_eq_true rfl) rfl dX12_townLine_205
              · refine lv_aload_n hx hb dX12_townLine_170 rfl (lv_at hl 1 rfl) ?_
                refine lv_bipush (v := 14) hx hb dX12_townLine_171 (by decide) ?_
                refine W_bind fun z12 hz => ?_
                refine w_after (cells1 := 0) (slots1 := 0) (w_runV E kV_R_177 kc_X12_tells (t_R_tells l hfl G on N 14 M z8.2 ((fun z => (.inl none, M, z)) z12) (by rw [hz]; rfl)) ⟨Nat.le_of_ble_eq_true rfl, Nat.le_of_ble_eq_true rfl⟩ hw (w_recvR E hw on) rfl hl.1 rfl (Nat.le_of_ble_eq_true rfl) dX12_townLine_173 ⟨Nat.le_of_ble_eq_true rfl, Nat.le_of_ble_eq_true rfl⟩) hw rfl (Nat.le_of_ble_eq_true rfl) (Nat.le_of_ble_eq_true rfl) (fun H locs hw => ?_)
                refine W.eq (g2 := F0 m 176 ls []) rfl ?_
                have hw : w_W G M z12 s H locs := hw
                refine lv_goto (tgt := 205) hx hb dX12_townLine_176 (by decide) ?_
                exact p_vret E hw hr (Nat.le_of_ble_eq_true rfl) (Nat.le_of_ble_eq_true rfl) rfl dX12_townLine_205
            · refine lv_aload_n hx hb dX12_townLine_152 rfl (lv_at hl 1 rfl) ?_
              refine lv_bipush (v := 13) hx hb dX12_townLine_153 (by decide) ?_
              refine W_bind fun z13 hz => ?_
              refine w_after (cells1 := 0) (slots1 := 0) (w_runV E kV_R_177 kc_X12_tells (t_R_tells l hfl G on N 13 M z7.2 ((fun z => (.inl none, M, z)) z13) (by rw [hz]; rfl)) ⟨Nat.le_of_ble_eq_true rfl, Nat.le_of_ble_eq_true rfl⟩ hw (w_recvR E hw on) rfl hl.1 rfl (Nat.le_of_ble_eq_true rfl) dX12_townLine_155 ⟨Nat.le_of_ble_eq_true rfl, Nat.le_of_ble_eq_true rfl⟩) hw rfl (Nat.le_of_ble_eq_true rfl) (Nat.le_of_ble_eq_true rfl) (fun H locs hw => ?_)
              refine W.eq (g2 := F0 m 158 ls []) rfl ?_
              have hw : w_W G M z13 s H locs := hw
              refine lv_goto (tgt := 205) hx hb dX12_townLine_158 (by decide) ?_
              exact p_vret E hw hr (Nat.le_of_ble_eq_true rfl) (Nat.le_of_ble_eq_true rfl) rfl dX12_townLine_205
          · refine lv_aload_n hx hb dX12_townLine_135 rfl (lv_at hl 1 rfl) ?_
            refine lv_iload_n hx hb dX12_townLine_136 rfl (lv_at hl 0 rfl) ?_
            refine W_bind fun z14 hz => ?_
            refine w_after (cells1 := 0) (slots1 := 0) (w_runV E kV_R_172 kc_X12_tieLine (t_R_tieLine l hfl G on N z1.1 M z6.2 ((fun z => (.inl none, M, z)) z14) (by rw [hz]; rfl)) ⟨Nat.le_of_ble_eq_true rfl, Nat.le_of_ble_eq_true rfl⟩ hw (w_recvR E hw on) rfl hl.1 rfl (Nat.le_of_ble_eq_true rfl) dX12_townLine_137 ⟨Nat.le_of_ble_eq_true rfl, Nat.le_of_ble_eq_true rfl⟩) hw rfl (Nat.le_of_ble_eq_true rfl) (Nat.le_of_ble_eq_true rfl) (fun H locs hw => ?_)
            refine W.eq (g2 := F0 m 140 ls []) rfl ?_
            have hw : w_W G M z14 s H locs := hw
            refine lv_goto (tgt := 205) hx hb dX12_townLine_140 (by decide) ?_
            exact p_vret E hw hr (Nat.le_of_ble_eq_true rfl) (Nat.le_of_ble_eq_true rfl) rfl dX12_townLine_205
        · refine lv_aload_n hx hb dX12_townLine_94 rfl (lv_at hl 1 rfl) ?_
          refine lv_iconst (v := 0) hx hb dX12_townLine_95 (by decide) ?_
          refine lv_aload_n hx hb dX12_townLine_96 rfl (lv_at hl 1 rfl) ?_
          refine rx_getA E hw on kF_R_7_11 (by decide) dX12_townLine_97 ?_
          refine lv_iconst (v := 5) hx hb dX12_townLine_100 (by decide) ?_
          refine rx_iald E hw on (by decide) dX12_townLine_101 (fun v15 => ?_)
          refine lv_iconst (v := 1) hx hb dX12_townLine_102 (by decide) ?_
          refine lv_isub hx hb dX12_townLine_103 ?_
          refine W_bind fun z16 hz => ?_
          refine w_after (cells1 := 0) (slots1 := 0) (w_runV E kV_R_124 kc_X12_figures (t_R_figures l hfl G on N 0 (v15 - 1) M z5.2 ((fun z => (.inl (some (.int z.1)), M, z.2)) z16) (by rw [hz]; rfl)) ⟨Nat.le_of_ble_eq_true rfl, Nat.le_of_ble_eq_true rfl⟩ hw (w_recvR E hw on) rfl hl.1 rfl (Nat.le_of_ble_eq_true rfl) dX12_townLine_104 ⟨Nat.le_of_ble_eq_true rfl, Nat.le_of_ble_eq_true rfl⟩) hw rfl (Nat.le_of_ble_eq_true rfl) (Nat.le_of_ble_eq_true rfl) (fun H locs hw => ?_)
          refine W.eq (g2 := F0 m 107 ls [.int z16.1]) rfl ?_
          have hw : w_W G M z16.2 s H locs := hw
          refine lv_istore_n (lv' := [(2, .int z16.1), (1, .int z1.1), (0, .ref (g_r G))]) hx hb dX12_townLine_107 rfl hl (by decide) rfl (fun ls hl => ?_)
          refine lv_aload_n hx hb dX12_townLine_108 rfl (lv_at hl 2 rfl) ?_
          refine rx_getI E hw on kF_R_25_11 (by decide) dX12_townLine_109 ?_
          refine lv_iconst (v := (-1)) hx hb dX12_townLine_112 (by decide) ?_
          refine cx_icmp_ne (tgt := 123) E dX12_townLine_113 (by decide) (fun _ => ?_) (fun _ => ?_)
          · refine lv_goto (tgt := 205) hx hb dX12_townLine_123 (by decide) ?_
            exact p_vret E hw hr (Nat.le_of_ble_eq_true rfl) (Nat.le_of_ble_eq_true rfl) rfl dX12_townLine_205
          · refine lv_aload_n hx hb dX12_townLine_116 rfl (lv_at hl 2 rfl) ?_
            refine lv_iload_n hx hb dX12_townLine_117 rfl (lv_at hl 0 rfl) ?_
            refine lv_iconst (v := 4) hx hb dX12_townLine_118 (by decide) ?_
            refine lv_iconst (v := 1) hx hb dX12_townLine_119 (by decide) ?_
            refine W_bind fun z17 hz => ?_
            refine w_after (cells1 := 0) (slots1 := 0) (w_runV E kV_R_141 kc_X12_has (t_R_has l hfl G on z16.1 4 1 M z16.2 ((fun z => (.inl none, M, z)) z17) (by rw [hz]; rfl)) ⟨Nat.le_of_ble_eq_true rfl, Nat.le_of_ble_eq_true rfl⟩ hw (w_recvR E hw on) rfl hl.1 rfl (Nat.le_of_ble_eq_true rfl) dX12_townLine_120 ⟨Nat.le_of_ble_eq_true rfl, Nat.le_of_ble_eq_true rfl⟩) hw rfl (Nat.le_of_ble_eq_true rfl) (Nat.le_of_ble_eq_true rfl) (fun H locs hw => ?_)
            refine W.eq (g2 := F0 m 123 ls []) rfl ?_
            have hw : w_W G M z17 s H locs := hw
            refine lv_goto (tgt := 205) hx hb dX12_townLine_123 (by decide) ?_
            exact p_vret E hw hr (Nat.le_of_ble_eq_true rfl) (Nat.le_of_ble_eq_true rfl) rfl dX12_townLine_205
      · refine lv_aload_n hx hb dX12_townLine_77 rfl (lv_at hl 1 rfl) ?_
        refine lv_iload_n hx hb dX12_townLine_78 rfl (lv_at hl 0 rfl) ?_
        refine W_bind fun z18 hz => ?_
        refine w_after (cells1 := 0) (slots1 := 0) (w_runV E kV_R_165 kc_X12_personLine (t_R_personLine l hfl G on N z1.1 M z4.2 ((fun z => (.inl none, M, z)) z18) (by rw [hz]; rfl)) ⟨Nat.le_of_ble_eq_true rfl, Nat.le_of_ble_eq_true rfl⟩ hw (w_recvR E hw on) rfl hl.1 rfl (Nat.le_of_ble_eq_true rfl) dX12_townLine_79 ⟨Nat.le_of_ble_eq_true rfl, Nat.le_of_ble_eq_true rfl⟩) hw rfl (Nat.le_of_ble_eq_true rfl) (Nat.le_of_ble_eq_true rfl) (fun H locs hw => ?_)
        refine W.eq (g2 := F0 m 82 ls []) rfl ?_
        have hw : w_W G M z18 s H locs := hw
        refine lv_goto (tgt := 205) hx hb dX12_townLine_82 (by decide) ?_
        exact p_vret E hw hr (Nat.le_of_ble_eq_true rfl) (Nat.le_of_ble_eq_true rfl) rfl dX12_townLine_205
    · refine lv_aload_n hx hb dX12_townLine_60 rfl (lv_at hl 1 rfl) ?_
      refine lv_iload_n hx hb dX12_townLine_61 rfl (lv_at hl 0 rfl) ?_
      refine W_bind fun z19 hz => ?_
      refine w_after (cells1 := 0) (slots1 := 0) (w_runV E kV_R_160 kc_X12_habitLine (t_R_habitLine l hfl G on N z1.1 M z3.2 ((fun z => (.inl none, M, z)) z19) (by rw [hz]; rfl)) ⟨Nat.le_of_ble_eq_true rfl, Nat.le_of_ble_eq_true rfl⟩ hw (w_recvR E hw on) rfl hl.1 rfl (Nat.le_of_ble_eq_true rfl) dX12_townLine_62 ⟨Nat.le_of_ble_eq_true rfl, Nat.le_of_ble_eq_true rfl⟩) hw rfl (Nat.le_of_ble_eq_true rfl) (Nat.le_of_ble_eq_true rfl) (fun H locs hw => ?_)
      refine W.eq (g2 := F0 m 65 ls []) rfl ?_
      have hw : w_W G M z19 s H locs := hw
      refine lv_goto (tgt := 205) hx hb dX12_townLine_65 (by decide) ?_
      exact p_vret E hw hr (Nat.le_of_ble_eq_true rfl) (Nat.le_of_ble_eq_true rfl) rfl dX12_townLine_205
  · refine lv_aload_n hx hb dX12_townLine_14 rfl (lv_at hl 1 rfl) ?_
    refine rx_getA E hw on kF_R_7_11 (by decide) dX12_townLine_15 ?_
    refine lv_iconst (v := 3) hx hb dX12_townLine_18 (by decide) ?_
    refine rx_iald E hw on (by decide) dX12_townLine_19 (fun v20 => ?_)
    refine lv_bipush (v := 6) hx hb dX12_townLine_20 (by decide) ?_
    refine cx_icmp_ne (tgt := 30) E dX12_townLine_22 (by decide) (fun _ => ?_) (fun _ => ?_)
    · exact w30  z2.2 _ _ _ hw (lv_sub hl [1] rfl)
    · refine lv_aload_n hx hb dX12_townLine_25 rfl (lv_at hl 1 rfl) ?_
      refine lv_iload_n hx hb dX12_townLine_26 rfl (lv_at hl 0 rfl) ?_
      refine W_bind fun z21 hz => ?_
      refine w_after (cells1 := 0) (slots1 := 0) (w_runV E kV_R_105 kc_X12_wrong (t_R_wrong l hfl G on z1.1 M z2.2 ((fun z => (.inl none, M, z)) z21) (by rw [hz]; rfl)) ⟨Nat.le_of_ble_eq_true rfl, Nat.le_of_ble_eq_true rfl⟩ hw (w_recvR E hw on) rfl hl.1 rfl (Nat.le_of_ble_eq_true rfl) dX12_townLine_27 ⟨Nat.le_of_ble_eq_true rfl, Nat.le_of_ble_eq_true rfl⟩) hw rfl (Nat.le_of_ble_eq_true rfl) (Nat.le_of_ble_eq_true rfl) (fun H locs hw => ?_)
      refine W.eq (g2 := F0 m 30 ls []) rfl ?_
      have hw : w_W G M z21 s H locs := hw
      exact w30  z21 _ _ _ hw (lv_sub hl [1] rfl)

