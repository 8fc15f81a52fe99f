set_option maxHeartbeats 4000000 in
set_option maxRecDepth 100000 in
theorem t_TxR_readGreeting_2 (l : Launch) (hfl : l.stackTraces = false) (G : wG) (N : Nat) (this : Nat) (M : Mem) (r : Rho) : Ctr l yX7_readGreeting (wWs yX7_readGreeting cX7_readGreeting 3 (some .int)) rm_TxR_readGreeting_2 rm_TxR_readGreeting_2.cells rm_TxR_readGreeting_2.slots G [.ref this] M r ((f_TxR_readGreeting_2 N this M).map (fun z => (.inl (some (.int z.1)), z.2, r))) := by
  refine Ctr.ofF (own := "CheekTown$TextReade\x72") (by decide +kernel) hfl rfl (Nat.le_of_ble_eq_true rfl) (fun p e s m args below meth c E hno hr hnm hw ls hl => ?_)
  obtain ⟨hx, hb, hts, hown, hml, hTT, -⟩ := id E
  have hl : lv_has ls 3 [(0, .ref this)] := hl
  obtain ⟨H, hH⟩ : ∃ H, H = s.heap := ⟨_, rfl⟩
  obtain ⟨locs, hlo⟩ : ∃ L : List Loc, L = [] := ⟨_, rfl⟩
  rw [← hH, ← hlo]
  rw [← hlo] at hw
  replace hw : w_W G M r s H locs := by rw [hH]; exact hw
  have w101 : ∀ (y0 : Int32) (y1 : Int32) (y2 : Int32) (M : Mem) (H : Heap) (locs : List Loc) (ls : Array Slot), w_W G M r s H locs → lv_has ls 3 [] → W p l e rm_TxR_readGreeting_2 s m args below meth c H locs 0 0 (PQ G below args s rm_TxR_readGreeting_2.cells rm_TxR_readGreeting_2.slots (fun z => (.inl (some (.int z.1)), z.2, r)) (f_TxR_readGreeting_2_101 N this y0 y1 y2 M)) (F0 m 101 ls [.int y2, .int y1, .int y0]) := by
    intro y0 y1 y2 M H locs ls hw hl
    unfold f_TxR_readGreeting_2_101
    refine W_bind fun z12 hz => ?_
    refine w_after (cells1 := 0) (slots1 := 0) (w_runS E kS_TxR_75 kc_X4_codeOf (t_Manners_codeOf l hfl G y0 y1 y2 M r ((fun z => (.inl (some (.int z)), M, r)) z12) (by rw [hz]; rfl)) ⟨Nat.le_of_ble_eq_true rfl, Nat.le_of_ble_eq_true rfl⟩ hw rfl hl.1 rfl (Nat.le_of_ble_eq_true rfl) dX7_readGreeting_101 ⟨Nat.le_of_ble_eq_true rfl, Nat.le_of_ble_eq_true rfl⟩) hw rfl (Nat.le_of_ble_eq_true rfl) (Nat.le_of_ble_eq_true rfl) (fun H locs hw => ?_)
    refine W.eq (g2 := F0 m 104 ls [.int z12]) rfl ?_
    have hw : w_W G M r s H locs := hw
    exact p_iret E hw hr (Nat.le_of_ble_eq_true rfl) (Nat.le_of_ble_eq_true rfl) rfl dX7_readGreeting_104
  have w78 : ∀ (x1 : Int32) (x2 : Int32) (M : Mem) (H : Heap) (locs : List Loc) (ls : Array Slot), w_W G M r s H locs → lv_has ls 3 [(0, .ref this), (1, .int x1), (2, .int x2)] → W p l e rm_TxR_readGreeting_2 s m args below meth c H locs 0 0 (PQ G below args s rm_TxR_readGreeting_2.cells rm_TxR_readGreeting_2.slots (fun z => (.inl (some (.int z.1)), z.2, r)) (f_TxR_readGreeting_2_78 N this x1 x2 M)) (F0 m 78 ls []) := by
    intro x1 x2 M H locs ls hw hl
    unfold f_TxR_readGreeting_2_78
    refine lv_aload_n hx hb dX7_readGreeting_78 rfl (lv_at hl 0 rfl) ?_
    refine gx_getI E hw kF_TxR_9_2 (by decide) dX7_readGreeting_79 (fun v11 _ => ?_)
    refine lv_iconst (v := (-1)) hx hb dX7_readGreeting_82 (by decide) ?_
    refine cx_icmp_eq (tgt := 90) E dX7_readGreeting_83 (by decide) (fun _ => ?_) (fun _ => ?_)
    · refine lv_iconst (v := 2) hx hb dX7_readGreeting_90 (by decide) ?_
      refine lv_iload_n hx hb dX7_readGreeting_91 rfl (lv_at hl 1 rfl) ?_
      refine lv_iload_n hx hb dX7_readGreeting_92 rfl (lv_at hl 2 rfl) ?_
      refine cx_if_eq (tgt := 100) E dX7_readGreeting_93 (by decide) (fun _ => ?_) (fun _ => ?_)
      · refine lv_iconst (v := 1) hx hb dX7_readGreeting_100 (by decide) ?_
        exact w101  2 x1 1 M _ _ _ hw (lv_sub hl [] rfl)
      · refine lv_iconst (v := 0) hx hb dX7_readGreeting_96 (by decide) ?_
        refine lv_goto (tgt := 101) hx hb dX7_readGreeting_97 (by decide) ?_
        exact w101  2 x1 0 M _ _ _ hw (lv_sub hl [] rfl)
    · refine lv_iconst (v := (-1)) hx hb dX7_readGreeting_86 (by decide) ?_
      refine lv_goto (tgt := 104) hx hb dX7_readGreeting_87 (by decide) ?_
      exact p_iret E hw hr (Nat.le_of_ble_eq_true rfl) (Nat.le_of_ble_eq_true rfl) rfl dX7_readGreeting_104
  unfold f_TxR_readGreeting_2
  refine lv_aload_n hx hb dX7_readGreeting_0 rfl (lv_at hl 0 rfl) ?_
  refine va_ldcS hx hb hown (hTT.2.2.1 0 _ rfl) dX7_readGreeting_1 ?_
  refine W_bind fun _ hck => ?_
  refine W_bind fun z1 hz => ?_
  refine w_after (cells1 := 0) (slots1 := 0) (w_runU E kU_TxR_59_LR kc_X7_takeWord (t_TxR_takeWord_2 l hfl G N this 0 M r ((fun z => (.inl (some (.int z.1)), z.2, r)) z1) (by rw [hz]; rfl)) ⟨Nat.le_of_ble_eq_true rfl, Nat.le_of_ble_eq_true rfl⟩ hw (w_recv E hw (by decide) ⟨_, _, rfl⟩ (ck_ok hck)) rfl hl.1 rfl (Nat.le_of_ble_eq_true rfl) dX7_readGreeting_3 ⟨Nat.le_of_ble_eq_true rfl, Nat.le_of_ble_eq_true rfl⟩) hw rfl (Nat.le_of_ble_eq_true rfl) (Nat.le_of_ble_eq_true rfl) (fun H locs hw => ?_)
  refine W.eq (g2 := F0 m 6 ls [.int z1.1]) rfl ?_
  have hw : w_W G z1.2 r s H locs := hw
  refine cx_if_eq (tgt := 16) E dX7_readGreeting_6 (by decide) (fun _ => ?_) (fun _ => ?_)
  · refine lv_aload_n hx hb dX7_readGreeting_16 rfl (lv_at hl 0 rfl) ?_
    refine va_ldcS hx hb hown (hTT.2.2.1 1 _ rfl) dX7_readGreeting_17 ?_
    refine W_bind fun _ hck => ?_
    refine W_bind fun z2 hz => ?_
    refine w_after (cells1 := 0) (slots1 := 0) (w_runU E kU_TxR_59_LR kc_X7_takeWord (t_TxR_takeWord_2 l hfl G N this 1 z1.2 r ((fun z => (.inl (some (.int z.1)), z.2, r)) z2) (by rw [hz]; rfl)) ⟨Nat.le_of_ble_eq_true rfl, Nat.le_of_ble_eq_true rfl⟩ hw (w_recv E hw (by decide) ⟨_, _, rfl⟩ (ck_ok hck)) rfl hl.1 rfl (Nat.le_of_ble_eq_true rfl) dX7_readGreeting_19 ⟨Nat.le_of_ble_eq_true rfl, Nat.le_of_ble_eq_true rfl⟩) hw rfl (Nat.le_of_ble_eq_true rfl) (Nat.le_of_ble_eq_true rfl) (fun H locs hw => ?_)
    refine W.eq (g2 := F0 m 22 ls [.int z2.1]) rfl ?_
    have hw : w_W G z2.2 r s H locs := hw
    refine cx_if_eq (tgt := 32) E dX7_readGreeting_22 (by decide) (fun _ => ?_) (fun _ => ?_)
    · refine lv_aload_n hx hb dX7_readGreeting_32 rfl (lv_at hl 0 rfl) ?_
      refine va_ldcS hx hb hown (hTT.2.2.1 2 _ rfl) dX7_readGreeting_33 ?_
      refine W_bind fun _ hck => ?_
      refine W_bind fun z3 hz => ?_
      refine w_after (cells1 := 0) (slots1 := 0) (w_runU E kU_TxR_59_LR kc_X7_takeWord (t_TxR_takeWord_2 l hfl G N this 2 z2.2 r ((fun z => (.inl (some (.int z.1)), z.2, r)) z3) (by rw [hz]; rfl)) ⟨Nat.le_of_ble_eq_true rfl, Nat.le_of_ble_eq_true rfl⟩ hw (w_recv E hw (by decide) ⟨_, _, rfl⟩ (ck_ok hck)) rfl hl.1 rfl (Nat.le_of_ble_eq_true rfl) dX7_readGreeting_35 ⟨Nat.le_of_ble_eq_true rfl, Nat.le_of_ble_eq_true rfl⟩) hw rfl (Nat.le_of_ble_eq_true rfl) (Nat.le_of_ble_eq_true rfl) (fun H locs hw => ?_)
      refine W.eq (g2 := F0 m 38 ls [.int z3.1]) rfl ?_
      have hw : w_W G z3.2 r s H locs := hw
      refine cx_if_eq (tgt := 48) E dX7_readGreeting_38 (by decide) (fun _ => ?_) (fun _ => ?_)
      · refine lv_aload_n hx hb dX7_readGreeting_48 rfl (lv_at hl 0 rfl) ?_
        refine va_ldcS hx hb hown (hTT.2.2.1 3 _ rfl) dX7_readGreeting_49 ?_
        refine W_bind fun _ hck => ?_
        refine W_bind fun z4 hz => ?_
        refine w_after (cells1 := 0) (slots1 := 0) (w_runU E kU_TxR_85_LR kc_X7_readWord (t_TxR_readWord_2 l hfl G N this 3 z3.2 r ((fun z => (.inl none, z, r)) z4) (by rw [hz]; rfl)) ⟨Nat.le_of_ble_eq_true rfl, Nat.le_of_ble_eq_true rfl⟩ hw (w_recv E hw (by decide) ⟨_, _, rfl⟩ (ck_ok hck)) rfl hl.1 rfl (Nat.le_of_ble_eq_true rfl) dX7_readGreeting_51 ⟨Nat.le_of_ble_eq_true rfl, Nat.le_of_ble_eq_true rfl⟩) hw rfl (Nat.le_of_ble_eq_true rfl) (Nat.le_of_ble_eq_true rfl) (fun H locs hw => ?_)
        refine W.eq (g2 := F0 m 54 ls []) rfl ?_
        have hw : w_W G z4 r s H locs := hw
        refine lv_aload_n hx hb dX7_readGreeting_54 rfl (lv_at hl 0 rfl) ?_
        refine lv_iconst (v := 1) hx hb dX7_readGreeting_55 (by decide) ?_
        refine lv_iconst (v := 4) hx hb dX7_readGreeting_56 (by decide) ?_
        refine W_bind fun _ hck => ?_
        refine W_bind fun z5 hz => ?_
        refine w_after (cells1 := 0) (slots1 := 0) (w_runU E kU_TxR_89_LR kc_X7_readNumber (t_TxR_readNumber_2 l hfl G N this 1 4 z4 r ((fun z => (.inl (some (.int z.1)), z.2, r)) z5) (by rw [hz]; rfl)) ⟨Nat.le_of_ble_eq_true rfl, Nat.le_of_ble_eq_true rfl⟩ hw (w_recv E hw (by decide) ⟨_, _, rfl⟩ (ck_ok hck)) rfl hl.1 rfl (Nat.le_of_ble_eq_true rfl) dX7_readGreeting_57 ⟨Nat.le_of_ble_eq_true rfl, Nat.le_of_ble_eq_true rfl⟩) hw rfl (Nat.le_of_ble_eq_true rfl) (Nat.le_of_ble_eq_true rfl) (fun H locs hw => ?_)
        refine W.eq (g2 := F0 m 60 ls [.int z5.1]) rfl ?_
        have hw : w_W G z5.2 r s H locs := hw
        refine lv_istore_n (lv' := [(1, .int z5.1), (0, .ref this)]) hx hb dX7_readGreeting_60 rfl hl (by decide) rfl (fun ls hl => ?_)
        refine lv_aload_n hx hb dX7_readGreeting_61 rfl (lv_at hl 1 rfl) ?_
        refine va_ldcS hx hb hown (hTT.2.2.1 4 _ rfl) dX7_readGreeting_62 ?_
        refine W_bind fun _ hck => ?_
        refine W_bind fun z6 hz => ?_
        refine w_after (cells1 := 0) (slots1 := 0) (w_runU E kU_TxR_59_LR kc_X7_takeWord (t_TxR_takeWord_2 l hfl G N this 4 z5.2 r ((fun z => (.inl (some (.int z.1)), z.2, r)) z6) (by rw [hz]; rfl)) ⟨Nat.le_of_ble_eq_true rfl, Nat.le_of_ble_eq_true rfl⟩ hw (w_recv E hw (by decide) ⟨_, _, rfl⟩ (ck_ok hck)) rfl hl.1 rfl (Nat.le_of_ble_eq_true rfl) dX7_readGreeting_64 ⟨Nat.le_of_ble_eq_true rfl, Nat.le_of_ble_eq_true rfl⟩) hw rfl (Nat.le_of_ble_eq_true rfl) (Nat.le_of_ble_eq_true rfl) (fun H locs hw => ?_)
        refine W.eq (g2 := F0 m 67 ls [.int z6.1]) rfl ?_
        have hw : w_W G z6.2 r s H locs := hw
        refine lv_istore_n (lv' := [(2, .int z6.1), (1, .int z5.1), (0, .ref this)]) hx hb dX7_readGreeting_67 rfl hl (by decide) rfl (fun ls hl => ?_)
        refine lv_iload_n hx hb dX7_readGreeting_68 rfl (lv_at hl 0 rfl) ?_
        refine cx_if_ne (tgt := 78) E dX7_readGreeting_69 (by decide) (fun _ => ?_) (fun _ => ?_)
        · exact w78  z5.1 z6.1 z6.2 _ _ _ hw (lv_sub hl [2, 1, 0] rfl)
        · refine lv_aload_n hx hb dX7_readGreeting_72 rfl (lv_at hl 2 rfl) ?_
          refine va_ldcS hx hb hown (hTT.2.2.1 5 _ rfl) dX7_readGreeting_73 ?_
          refine W_bind fun _ hck => ?_
          refine W_bind fun z7 hz => ?_
          refine w_after (cells1 := 0) (slots1 := 0) (w_runU E kU_TxR_85_LR kc_X7_readWord (t_TxR_readWord_2 l hfl G N this 5 z6.2 r ((fun z => (.inl none, z, r)) z7) (by rw [hz]; rfl)) ⟨Nat.le_of_ble_eq_true rfl, Nat.le_of_ble_eq_true rfl⟩ hw (w_recv E hw (by decide) ⟨_, _, rfl⟩ (ck_ok hck)) rfl hl.1 rfl (Nat.le_of_ble_eq_true rfl) dX7_readGreeting_75 ⟨Nat.le_of_ble_eq_true rfl, Nat.le_of_ble_eq_true rfl⟩) hw rfl (Nat.le_of_ble_eq_true rfl) (Nat.le_of_ble_eq_true rfl) (fun H locs hw => ?_)
          refine W.eq (g2 := F0 m 78 ls []) rfl ?_
          have hw : w_W G z7 r s H locs := hw
          exact w78  z5.1 z6.1 z7 _ _ _ hw (lv_sub hl [2, 1, 0] rfl)
      · refine lv_iconst (v := 3) hx hb dX7_readGreeting_41 (by decide) ?_
        refine lv_iconst (v := 1) hx hb dX7_readGreeting_42 (by decide) ?_
        refine lv_iconst (v := 0) hx hb dX7_readGreeting_43 (by decide) ?_
        refine W_bind fun z8 hz => ?_
        refine w_after (cells1 := 0) (slots1 := 0) (w_runS E kS_TxR_75 kc_X4_codeOf (t_Manners_codeOf l hfl G 3 1 0 z3.2 r ((fun z => (.inl (some (.int z)), z3.2, r)) z8) (by rw [hz]; rfl)) ⟨Nat.le_of_ble_eq_true rfl, Nat.le_of_ble_eq_true rfl⟩ hw rfl hl.1 rfl (Nat.le_of_ble_eq_true rfl) dX7_readGreeting_44 ⟨Nat.le_of_ble_eq_true rfl, Nat.le_of_ble_eq_true rfl⟩) hw rfl (Nat.le_of_ble_eq_true rfl) (Nat.le_of_ble_eq_true rfl) (fun H locs hw => ?_)
        refine W.eq (g2 := F0 m 47 ls [.int z8]) rfl ?_
        have hw : w_W G z3.2 r s H locs := hw
        exact p_iret E hw hr (Nat.le_of_ble_eq_true rfl) (Nat.le_of_ble_eq_true rfl) rfl dX7_readGreeting_47
    · refine lv_iconst (v := 1) hx hb dX7_readGreeting_25 (by decide) ?_
      refine lv_iconst (v := 1) hx hb dX7_readGreeting_26 (by decide) ?_
      refine lv_iconst (v := 0) hx hb dX7_readGreeting_27 (by decide) ?_
      refine W_bind fun z9 hz => ?_
      refine w_after (cells1 := 0) (slots1 := 0) (w_runS E kS_TxR_75 kc_X4_codeOf (t_Manners_codeOf l hfl G 1 1 0 z2.2 r ((fun z => (.inl (some (.int z)), z2.2, r)) z9) (by rw [hz]; rfl)) ⟨Nat.le_of_ble_eq_true rfl, Nat.le_of_ble_eq_true rfl⟩ hw rfl hl.1 rfl (Nat.le_of_ble_eq_true rfl) dX7_readGreeting_28 ⟨Nat.le_of_ble_eq_true rfl, Nat.le_of_ble_eq_true rfl⟩) hw rfl (Nat.le_of_ble_eq_true rfl) (Nat.le_of_ble_eq_true rfl) (fun H locs hw => ?_)
      refine W.eq (g2 := F0 m 31 ls [.int z9]) rfl ?_
      have hw : w_W G z2.2 r s H locs := hw
      exact p_iret E hw hr (Nat.le_of_ble_eq_true rfl) (Nat.le_of_ble_eq_true rfl) rfl dX7_readGreeting_31
  · refine lv_iconst (v := 0) hx hb dX7_readGreeting_9 (by decide) ?_
    refine lv_iconst (v := 1) hx hb dX7_readGreeting_10 (by decide) ?_
    refine lv_iconst (v := 0) hx hb dX7_readGreeting_11 (by decide) ?_
    refine W_bind fun z10 hz => ?_
    refine w_after (cells1 := 0) (slots1 := 0) (w_runS E kS_TxR_75 kc_X4_codeOf (t_Manners_codeOf l hfl G 0 1 0 z1.2 r ((fun z => (.inl (some (.int z)), z1.2, r)) z10) (by rw [hz]; rfl)) ⟨Nat.le_of_ble_eq_true rfl, Nat.le_of_ble_eq_true rfl⟩ hw rfl hl.1 rfl (Nat.le_of_ble_eq_true rfl) dX7_readGreeting_12 ⟨Nat.le_of_ble_eq_true rfl, Nat.le_of_ble_eq_true rfl⟩) hw rfl (Nat.le_of_ble_eq_true rfl) (Nat.le_of_ble_eq_true rfl) (fun H locs hw => ?_)
    refine W.eq (g2 := F0 m 15 ls [.int z10]) rfl ?_
    have hw : w_W G z1.2 r s H locs := hw
    exact p_iret E hw hr (Nat.le_of_ble_eq_true rfl) (Nat.le_of_ble_eq_true rfl) rfl dX7_readGreeting_15
set_option maxHeartbeats 4000000 in
set_option maxRecDepth 100000 in
theorem t_TxR_takeSign_2 (l : Launch) (hfl : l.stackTraces = false) (G : wG) (N : Nat) (this : Nat) (a0 : Int32) (M : Mem) (r : Rho) : Ctr l yX7_takeSign (wWs yX7_takeSign cX7_takeSign 3 (some .boolean)) rm_TxR_takeSign_2 rm_TxR_takeSign_2.cells rm_TxR_takeSign_2.slots G [.ref this, .int a0] M r ((f_TxR_takeSign_2 N this a0 M).map (fun z => (.inl (some (.int z.1)), z.2, r))) := by
  refine Ctr.ofF (own := "CheekTown$TextReade\x72") (by decide +kernel) hfl rfl (Nat.le_of_ble_eq_true rfl) (fun p e s m args below meth c E hno hr hnm hw ls hl => ?_)
  obtain ⟨hx, hb, hts, hown, hml, hTT, -⟩ := id E
  have hl : lv_has ls 3 [(0, .ref this), (1, .int a0)] := hl
  obtain ⟨H, hH⟩ : ∃ H, H = s.heap := ⟨_, rfl⟩
  obtain ⟨locs, hlo⟩ : ∃ L : List Loc, L = [] := ⟨_, rfl⟩
  rw [← hH, ← hlo]
  rw [← hlo] at hw
  replace hw : w_W G M r s H locs := by rw [hH]; exact hw
  have w37 : ∀ (y0 : Int32) (M : Mem) (H : Heap) (locs : List Loc) (ls : Array Slot), w_W G M r s H locs → lv_has ls 3 [(0, .ref this)] → W p l e rm_TxR_takeSign_2 s m args below meth c H locs 0 0 (PQ G below args s rm_TxR_takeSign_2.cells rm_TxR_takeSign_2.slots (fun z => (.inl (some (.int z.1)), z.2, r)) (f_TxR_takeSign_2_37 N this a0 y0 M)) (F0 m 37 ls [.int y0]) := by
    intro y0 M H locs ls hw hl
    unfold f_TxR_takeSign_2_37
    refine lv_istore_n (lv' := [(2, .int y0), (0, .ref this)]) hx hb dX7_takeSign_37 rfl hl (by decide) rfl (fun ls hl => ?_)
    refine lv_iload_n hx hb dX7_takeSign_38 rfl (lv_at hl 0 rfl) ?_
    refine cx_if_eq (tgt := 46) E dX7_takeSign_39 (by decide) (fun _ => ?_) (fun _ => ?_)
    · refine lv_iload_n hx hb dX7_takeSign_46 rfl (lv_at hl 0 rfl) ?_
      refine W_bind fun z7 hz => ?_
      obtain ⟨rfl, hz0⟩ := zg_ok hz
      exact p_zret E hw hr hz0 (Nat.le_of_ble_eq_true rfl) (Nat.le_of_ble_eq_true rfl) rfl dX7_takeSign_47
    · refine lv_aload_n hx hb dX7_takeSign_42 rfl (lv_at hl 1 rfl) ?_
      refine W_bind fun _ hck => ?_
      refine W_bind fun z8 hz => ?_
      refine w_after (cells1 := 0) (slots1 := 0) (w_runU E kU_TxR_28_LR kc_X7_goOn (t_TxR_goOn_2 l hfl G N this M r ((fun z => (.inl none, z, r)) z8) (by rw [hz]; rfl)) ⟨Nat.le_of_ble_eq_true rfl, Nat.le_of_ble_eq_true rfl⟩ hw (w_recv E hw (by decide) ⟨_, _, rfl⟩ (ck_ok hck)) rfl hl.1 rfl (Nat.le_of_ble_eq_true rfl) dX7_takeSign_43 ⟨Nat.le_of_ble_eq_true rfl, Nat.le_of_ble_eq_true rfl⟩) hw rfl (Nat.le_of_ble_eq_true rfl) (Nat.le_of_ble_eq_true rfl) (fun H locs hw => ?_)
      refine W.eq (g2 := F0 m 46 ls []) rfl ?_
      have hw : w_W G z8 r s H locs := hw
      refine lv_iload_n hx hb dX7_takeSign_46 rfl (lv_at hl 0 rfl) ?_
      refine W_bind fun z9 hz => ?_
      obtain ⟨rfl, hz0⟩ := zg_ok hz
      exact p_zret E hw hr hz0 (Nat.le_of_ble_eq_true rfl) (Nat.le_of_ble_eq_true rfl) rfl dX7_takeSign_47
  have w36 : ∀ (M : Mem) (H : Heap) (locs : List Loc) (ls : Array Slot), w_W G M r s H locs → lv_has ls 3 [(0, .ref this)] → W p l e rm_TxR_takeSign_2 s m args below meth c H locs 0 0 (PQ G below args s rm_TxR_takeSign_2.cells rm_TxR_takeSign_2.slots (fun z => (.inl (some (.int z.1)), z.2, r)) (f_TxR_takeSign_2_36 N this a0 M)) (F0 m 36 ls []) := by
    intro M H locs ls hw hl
    unfold f_TxR_takeSign_2_36
    refine lv_iconst (v := 0) hx hb dX7_takeSign_36 (by decide) ?_
    exact w37  0 M _ _ _ hw (lv_sub hl [0] rfl)
  unfold f_TxR_takeSign_2
  refine lv_aload_n hx hb dX7_takeSign_0 rfl (lv_at hl 0 rfl) ?_
  refine gx_getI E hw kF_TxR_9_2 (by decide) dX7_takeSign_1 (fun v1 _ => ?_)
  refine lv_iconst (v := (-1)) hx hb dX7_takeSign_4 (by decide) ?_
  refine cx_icmp_ne (tgt := 36) E dX7_takeSign_5 (by decide) (fun _ => ?_) (fun _ => ?_)
  · exact w36  M _ _ _ hw (lv_sub hl [0] rfl)
  · refine lv_aload_n hx hb dX7_takeSign_8 rfl (lv_at hl 0 rfl) ?_
    refine gx_getI E hw kF_TxR_31_2 (by decide) dX7_takeSign_9 (fun v2 _ => ?_)
    refine lv_aload_n hx hb dX7_takeSign_12 rfl (lv_at hl 0 rfl) ?_
    refine gx_getI E hw kF_TxR_25_2 (by decide) dX7_takeSign_13 (fun v3 _ => ?_)
    refine cx_icmp_ge (tgt := 36) E dX7_takeSign_16 (by decide) (fun _ => ?_) (fun _ => ?_)
    · exact w36  M _ _ _ hw (lv_sub hl [0] rfl)
    · refine lv_aload_n hx hb dX7_takeSign_19 rfl (lv_at hl 0 rfl) ?_
      refine gx_getR E hw kF_TxR_15_2 (by decide) dX7_takeSign_20 (fun v4 _ => ?_)
      refine lv_aload_n hx hb dX7_takeSign_23 rfl (lv_at hl 0 rfl) ?_
      refine gx_getI E hw kF_TxR_31_2 (by decide) dX7_takeSign_24 (fun v5 _ => ?_)
      refine gx_iald E hw dX7_takeSign_27 (fun v6 _ => ?_)
      refine lv_iload_n hx hb dX7_takeSign_28 rfl (lv_at hl 1 rfl) ?_
      refine cx_icmp_ne (tgt := 36) E dX7_takeSign_29 (by decide) (fun _ => ?_) (fun _ => ?_)
      · exact w36  M _ _ _ hw (lv_sub hl [0] rfl)
      · refine lv_iconst (v := 1) hx hb dX7_takeSign_32 (by decide) ?_
        refine lv_goto (tgt := 37) hx hb dX7_takeSign_33 (by decide) ?_
        exact w37  1 M _ _ _ hw (lv_sub hl [0] rfl)
set_option maxHeartbeats 4000000 in
set_option maxRecDepth 100000 in
theorem t_Law_addStep (l : Launch) (hfl : l.stackTraces = false) (G : wG) (this : Nat) (a0 : Int32) (a1 : Int32) (M : Mem) (r : Rho) : Ctr l yX1_addStep (wWs yX1_addStep cX1_addStep 3 none) rm_Law_addStep rm_Law_addStep.cells rm_Law_addStep.slots G [.ref this, .int a0, .int a1] M r ((f_Law_addStep this a0 a1 M).map (fun z => (.inl none, z, r))) := by
  refine Ctr.ofF (own := "CheekTown$Law") (by decide +kernel) hfl rfl (Nat.le_of_ble_eq_true rfl) (fun p e s m args below meth c E hno hr hnm hw ls hl => ?_)
  obtain ⟨hx, hb, hts, hown, hml, hTT, -⟩ := id E
  have hl : lv_has ls 3 [(0, .ref this), (1, .int a0), (2, .int a1)] := hl
  obtain ⟨H, hH⟩ : ∃ H, H = s.heap := ⟨_, rfl⟩
  obtain ⟨locs, hlo⟩ : ∃ L : List Loc, L = [] := ⟨_, rfl⟩
  rw [← hH, ← hlo]
  rw [← hlo] at hw
  replace hw : w_W G M r s H locs := by rw [hH]; exact hw
  unfold f_Law_addStep
  refine lv_aload_n hx hb dX1_addStep_0 rfl (lv_at hl 0 rfl) ?_
  refine gx_getI E hw kF_Law_33_1 (by decide) dX1_addStep_1 (fun v1 _ => ?_)
  refine lv_aload_n hx hb dX1_addStep_4 rfl (lv_at hl 0 rfl) ?_
  refine gx_getR E hw kF_Law_27_1 (by decide) dX1_addStep_5 (fun v2 _ => ?_)
  refine gx_alen E hw dX1_addStep_8 (fun v3 _ => ?_)
  refine cx_icmp_ge (tgt := 54) E dX1_addStep_9 (by decide) (fun _ => ?_) (fun _ => ?_)
  · exact p_vret E hw hr (Nat.le_of_ble_eq_true rfl) (Nat.le_of_ble_eq_true rfl) rfl dX1_addStep_54
  · refine lv_aload_n hx hb dX1_addStep_12 rfl (lv_at hl 0 rfl) ?_
    refine gx_getI E hw kF_Law_33_1 (by decide) dX1_addStep_13 (fun v4 _ => ?_)
    refine lv_aload_n hx hb dX1_addStep_16 rfl (lv_at hl 0 rfl) ?_
    refine gx_getR E hw kF_Law_30_1 (by decide) dX1_addStep_17 (fun v5 _ => ?_)
    refine gx_alen E hw dX1_addStep_20 (fun v6 _ => ?_)
    refine cx_icmp_ge (tgt := 54) E dX1_addStep_21 (by decide) (fun _ => ?_) (fun _ => ?_)
    · exact p_vret E hw hr (Nat.le_of_ble_eq_true rfl) (Nat.le_of_ble_eq_true rfl) rfl dX1_addStep_54
    · refine lv_aload_n hx hb dX1_addStep_24 rfl (lv_at hl 0 rfl) ?_
      refine gx_getR E hw kF_Law_27_1 (by decide) dX1_addStep_25 (fun v7 _ => ?_)
      refine lv_aload_n hx hb dX1_addStep_28 rfl (lv_at hl 0 rfl) ?_
      refine gx_getI E hw kF_Law_33_1 (by decide) dX1_addStep_29 (fun v8 _ => ?_)
      refine lv_iload_n hx hb dX1_addStep_32 rfl (lv_at hl 1 rfl) ?_
      refine gx_iast E hw dX1_addStep_33 (fun M9 H locs _ hw => ?_)
      refine lv_aload_n hx hb dX1_addStep_34 rfl (lv_at hl 0 rfl) ?_
      refine gx_getR E hw kF_Law_30_1 (by decide) dX1_addStep_35 (fun v10 _ => ?_)
      refine lv_aload_n hx hb dX1_addStep_38 rfl (lv_at hl 0 rfl) ?_
      refine gx_getI E hw kF_Law_33_1 (by decide) dX1_addStep_39 (fun v11 _ => ?_)
      refine lv_iload_n hx hb dX1_addStep_42 rfl (lv_at hl 2 rfl) ?_
      refine gx_iast E hw dX1_addStep_43 (fun M12 H locs _ hw => ?_)
      refine lv_aload_n hx hb dX1_addStep_44 rfl (lv_at hl 0 rfl) ?_
      refine lv_dup hx hb dX1_addStep_45 rfl ?_
      refine gx_getI E hw kF_Law_33_1 (by decide) dX1_addStep_46 (fun v13 _ => ?_)
      refine lv_iconst (v := 1) hx hb dX1_addStep_49 (by decide) ?_
      refine lv_iadd hx hb dX1_addStep_50 ?_
      refine gx_putI E hw kF_Law_33_1 kT_1_5 (by decide) dX1_addStep_51 (fun M14 H locs _ hw => ?_)
      exact p_vret E hw hr (Nat.le_of_ble_eq_true rfl) (Nat.le_of_ble_eq_true rfl) rfl dX1_addStep_54
set_option maxHeartbeats 4000000 in
set_option maxRecDepth 100000 in
theorem t_LR_readPart (l : Launch) (hfl : l.stackTraces = false) (G : wG) (N : Nat) (this : Nat) (M : Mem) (r : Rho) : Ctr l yX2_readPart (wWs yX2_readPart cX2_readPart 2 none) rm_LR_readPart rm_LR_readPart.cells rm_LR_readPart.slots G [.ref this] M r ((f_LR_readPart N this M).map (fun z => (.inl none, z, r))) := by
  refine Ctr.ofF (own := "CheekTown$LawReade\x72") (by decide +kernel) hfl rfl (Nat.le_of_ble_eq_true rfl) (fun p e s m args below meth c E hno hr hnm hw ls hl => ?_)
  obtain ⟨hx, hb, hts, hown, hml, hTT, -⟩ := id E
  have hl : lv_has ls 2 [(0, .ref this)] := hl
  obtain ⟨H, hH⟩ : ∃ H, H = s.heap := ⟨_, rfl⟩
  obtain ⟨locs, hlo⟩ : ∃ L : List Loc, L = [] := ⟨_, rfl⟩
  rw [← hH, ← hlo]
  rw [← hlo] at hw
  replace hw : w_W G M r s H locs := by rw [hH]; exact hw
  have w102 : ∀ (y0 : Nat) (y1 : Int32) (y2 : Int32) (M : Mem) (H : Heap) (locs : List Loc) (ls : Array Slot), w_W G M r s H locs → lv_has ls 2 [] → W p l e rm_LR_readPart s m args below meth c H locs 0 0 (PQ G below args s rm_LR_readPart.cells rm_LR_readPart.slots (fun z => (.inl none, z, r)) (f_LR_readPart_102 N this y0 y1 y2 M)) (F0 m 102 ls [.int y2, .int y1, .ref y0]) := by
    intro y0 y1 y2 M H locs ls hw hl
    unfold f_LR_readPart_102
    refine W_bind fun _ hck => ?_
    refine W_bind fun z9 hz => ?_
    refine w_after (cells1 := 0) (slots1 := 0) (w_runV E kV_LR_40 kc_X1_addStep (t_Law_addStep l hfl G y0 y1 y2 M r ((fun z => (.inl none, z, r)) z9) (by rw [hz]; rfl)) ⟨Nat.le_of_ble_eq_true rfl, Nat.le_of_ble_eq_true rfl⟩ hw (w_recv E hw (by decide) ⟨_, _, rfl⟩ (ck_ok hck)) rfl hl.1 rfl (Nat.le_of_ble_eq_true rfl) dX2_readPart_102 ⟨Nat.le_of_ble_eq_true rfl, Nat.le_of_ble_eq_true rfl⟩) hw rfl (Nat.le_of_ble_eq_true rfl) (Nat.le_of_ble_eq_true rfl) (fun H locs hw => ?_)
    refine W.eq (g2 := F0 m 105 ls []) rfl ?_
    have hw : w_W G z9 r s H locs := hw
    exact p_vret E hw hr (Nat.le_of_ble_eq_true rfl) (Nat.le_of_ble_eq_true rfl) rfl dX2_readPart_105
  have w80 : ∀ (y0 : Int32) (M : Mem) (H : Heap) (locs : List Loc) (ls : Array Slot), w_W G M r s H locs → lv_has ls 2 [(0, .ref this)] → W p l e rm_LR_readPart s m args below meth c H locs 0 0 (PQ G below args s rm_LR_readPart.cells rm_LR_readPart.slots (fun z => (.inl none, z, r)) (f_LR_readPart_80 N this y0 M)) (F0 m 80 ls [.int y0]) := by
    intro y0 M H locs ls hw hl
    unfold f_LR_readPart_80
    refine lv_istore_n (lv' := [(1, .int y0), (0, .ref this)]) hx hb dX2_readPart_80 rfl hl (by decide) rfl (fun ls hl => ?_)
    refine lv_aload_n hx hb dX2_readPart_81 rfl (lv_at hl 1 rfl) ?_
    refine gx_getR E hw kF_LR_7_2 (by decide) dX2_readPart_82 (fun v7 _ => ?_)
    refine lv_iload_n hx hb dX2_readPart_85 rfl (lv_at hl 0 rfl) ?_
    refine lv_iload_n hx hb dX2_readPart_86 rfl (lv_at hl 0 rfl) ?_
    refine cx_if_ne (tgt := 101) E dX2_readPart_87 (by decide) (fun _ => ?_) (fun _ => ?_)
    · refine lv_iconst (v := 0) hx hb dX2_readPart_101 (by decide) ?_
      exact w102  v7 y0 0 M _ _ _ hw (lv_sub hl [] rfl)
    · refine lv_aload_n hx hb dX2_readPart_90 rfl (lv_at hl 1 rfl) ?_
      refine lv_iconst (v := 0) hx hb dX2_readPart_91 (by decide) ?_
      refine lv_sipush (v := 999) hx hb dX2_readPart_92 (by decide) ?_
      refine W_bind fun _ hck => ?_
      refine W_bind fun z8 hz => ?_
      refine w_after (cells1 := 0) (slots1 := 0) (w_runU E kU_LR_89_LR kc_X7_readNumber (t_TxR_readNumber_2 l hfl G N this 0 999 M r ((fun z => (.inl (some (.int z.1)), z.2, r)) z8) (by rw [hz]; rfl)) ⟨Nat.le_of_ble_eq_true rfl, Nat.le_of_ble_eq_true rfl⟩ hw (w_recv E hw (by decide) ⟨_, _, rfl⟩ (ck_ok hck)) rfl hl.1 rfl (Nat.le_of_ble_eq_true rfl) dX2_readPart_95 ⟨Nat.le_of_ble_eq_true rfl, Nat.le_of_ble_eq_true rfl⟩) hw rfl (Nat.le_of_ble_eq_true rfl) (Nat.le_of_ble_eq_true rfl) (fun H locs hw => ?_)
      refine W.eq (g2 := F0 m 98 ls [.int z8.1, .int y0, .ref v7]) rfl ?_
      have hw : w_W G z8.2 r s H locs := hw
      refine lv_goto (tgt := 102) hx hb dX2_readPart_98 (by decide) ?_
      exact w102  v7 y0 z8.1 z8.2 _ _ _ hw (lv_sub hl [] rfl)
  unfold f_LR_readPart
  refine lv_aload_n hx hb dX2_readPart_0 rfl (lv_at hl 0 rfl) ?_
  refine va_ldcS hx hb hown (hTT.2.2.1 10 _ rfl) dX2_readPart_1 ?_
  refine W_bind fun _ hck => ?_
  refine W_bind fun z1 hz => ?_
  refine w_after (cells1 := 0) (slots1 := 0) (w_runU E kU_LR_19_LR kc_X7_takeWord (t_TxR_takeWord_2 l hfl G N this 10 M r ((fun z => (.inl (some (.int z.1)), z.2, r)) z1) (by rw [hz]; rfl)) ⟨Nat.le_of_ble_eq_true rfl, Nat.le_of_ble_eq_true rfl⟩ hw (w_recv E hw (by decide) ⟨_, _, rfl⟩ (ck_ok hck)) rfl hl.1 rfl (Nat.le_of_ble_eq_true rfl) dX2_readPart_3 ⟨Nat.le_of_ble_eq_true rfl, Nat.le_of_ble_eq_true rfl⟩) hw rfl (Nat.le_of_ble_eq_true rfl) (Nat.le_of_ble_eq_true rfl) (fun H locs hw => ?_)
  refine W.eq (g2 := F0 m 6 ls [.int z1.1]) rfl ?_
  have hw : w_W G z1.2 r s H locs := hw
  refine cx_if_eq (tgt := 13) E dX2_readPart_6 (by decide) (fun _ => ?_) (fun _ => ?_)
  · refine lv_aload_n hx hb dX2_readPart_13 rfl (lv_at hl 0 rfl) ?_
    refine va_ldcS hx hb hown (hTT.2.2.1 11 _ rfl) dX2_readPart_14 ?_
    refine W_bind fun _ hck => ?_
    refine W_bind fun z2 hz => ?_
    refine w_after (cells1 := 0) (slots1 := 0) (w_runU E kU_LR_19_LR kc_X7_takeWord (t_TxR_takeWord_2 l hfl G N this 11 z1.2 r ((fun z => (.inl (some (.int z.1)), z.2, r)) z2) (by rw [hz]; rfl)) ⟨Nat.le_of_ble_eq_true rfl, Nat.le_of_ble_eq_true rfl⟩ hw (w_recv E hw (by decide) ⟨_, _, rfl⟩ (ck_ok hck)) rfl hl.1 rfl (Nat.le_of_ble_eq_true rfl) dX2_readPart_16 ⟨Nat.le_of_ble_eq_true rfl, Nat.le_of_ble_eq_true rfl⟩) hw rfl (Nat.le_of_ble_eq_true rfl) (Nat.le_of_ble_eq_true rfl) (fun H locs hw => ?_)
    refine W.eq (g2 := F0 m 19 ls [.int z2.1]) rfl ?_
    have hw : w_W G z2.2 r s H locs := hw
    refine cx_if_eq (tgt := 26) E dX2_readPart_19 (by decide) (fun _ => ?_) (fun _ => ?_)
    · refine lv_aload_n hx hb dX2_readPart_26 rfl (lv_at hl 0 rfl) ?_
      refine va_ldcS hx hb hown (hTT.2.2.1 12 _ rfl) dX2_readPart_27 ?_
      refine W_bind fun _ hck => ?_
      refine W_bind fun z3 hz => ?_
      refine w_after (cells1 := 0) (slots1 := 0) (w_runU E kU_LR_19_LR kc_X7_takeWord (t_TxR_takeWord_2 l hfl G N this 12 z2.2 r ((fun z => (.inl (some (.int z.1)), z.2, r)) z3) (by rw [hz]; rfl)) ⟨Nat.le_of_ble_eq_true rfl, Nat.le_of_ble_eq_true rfl⟩ hw (w_recv E hw (by decide) ⟨_, _, rfl⟩ (ck_ok hck)) rfl hl.1 rfl (Nat.le_of_ble_eq_true rfl) dX2_readPart_29 ⟨Nat.le_of_ble_eq_true rfl, Nat.le_of_ble_eq_true rfl⟩) hw rfl (Nat.le_of_ble_eq_true rfl) (Nat.le_of_ble_eq_true rfl) (fun H locs hw => ?_)
      refine W.eq (g2 := F0 m 32 ls [.int z3.1]) rfl ?_
      have hw : w_W G z3.2 r s H locs := hw
      refine cx_if_eq (tgt := 39) E dX2_readPart_32 (by decide) (fun _ => ?_) (fun _ => ?_)
      · refine lv_aload_n hx hb dX2_readPart_39 rfl (lv_at hl 0 rfl) ?_
        refine va_ldcS hx hb hown (hTT.2.2.1 13 _ rfl) dX2_readPart_40 ?_
        refine W_bind fun _ hck => ?_
        refine W_bind fun z4 hz => ?_
        refine w_after (cells1 := 0) (slots1 := 0) (w_runU E kU_LR_19_LR kc_X7_takeWord (t_TxR_takeWord_2 l hfl G N this 13 z3.2 r ((fun z => (.inl (some (.int z.1)), z.2, r)) z4) (by rw [hz]; rfl)) ⟨Nat.le_of_ble_eq_true rfl, Nat.le_of_ble_eq_true rfl⟩ hw (w_recv E hw (by decide) ⟨_, _, rfl⟩ (ck_ok hck)) rfl hl.1 rfl (Nat.le_of_ble_eq_true rfl) dX2_readPart_42 ⟨Nat.le_of_ble_eq_true rfl, Nat.le_of_ble_eq_true rfl⟩) hw rfl (Nat.le_of_ble_eq_true rfl) (Nat.le_of_ble_eq_true rfl) (fun H locs hw => ?_)
        refine W.eq (g2 := F0 m 45 ls [.int z4.1]) rfl ?_
        have hw : w_W G z4.2 r s H locs := hw
        refine cx_if_eq (tgt := 52) E dX2_readPart_45 (by decide) (fun _ => ?_) (fun _ => ?_)
        · refine lv_aload_n hx hb dX2_readPart_52 rfl (lv_at hl 0 rfl) ?_
          refine va_ldcS hx hb hown (hTT.2.2.1 14 _ rfl) dX2_readPart_53 ?_
          refine W_bind fun _ hck => ?_
          refine W_bind fun z5 hz => ?_
          refine w_after (cells1 := 0) (slots1 := 0) (w_runU E kU_LR_19_LR kc_X7_takeWord (t_TxR_takeWord_2 l hfl G N this 14 z4.2 r ((fun z => (.inl (some (.int z.1)), z.2, r)) z5) (by rw [hz]; rfl)) ⟨Nat.le_of_ble_eq_true rfl, Nat.le_of_ble_eq_true rfl⟩ hw (w_recv E hw (by decide) ⟨_, _, rfl⟩ (ck_ok hck)) rfl hl.1 rfl (Nat.le_of_ble_eq_true rfl) dX2_readPart_55 ⟨Nat.le_of_ble_eq_true rfl, Nat.le_of_ble_eq_true rfl⟩) hw rfl (Nat.le_of_ble_eq_true rfl) (Nat.le_of_ble_eq_true rfl) (fun H locs hw => ?_)
          refine W.eq (g2 := F0 m 58 ls [.int z5.1]) rfl ?_
          have hw : w_W G z5.2 r s H locs := hw
          refine cx_if_eq (tgt := 65) E dX2_readPart_58 (by decide) (fun _ => ?_) (fun _ => ?_)
          · refine lv_aload_n hx hb dX2_readPart_65 rfl (lv_at hl 0 rfl) ?_
            refine va_ldcS hx hb hown (hTT.2.2.1 15 _ rfl) dX2_readPart_66 ?_
            refine W_bind fun _ hck => ?_
            refine W_bind fun z6 hz => ?_
            refine w_after (cells1 := 0) (slots1 := 0) (w_runU E kU_LR_19_LR kc_X7_takeWord (t_TxR_takeWord_2 l hfl G N this 15 z5.2 r ((fun z => (.inl (some (.int z.1)), z.2, r)) z6) (by rw [hz]; rfl)) ⟨Nat.le_of_ble_eq_true rfl, Nat.le_of_ble_eq_true rfl⟩ hw (w_recv E hw (by decide) ⟨_, _, rfl⟩ (ck_ok hck)) rfl hl.1 rfl (Nat.le_of_ble_eq_true rfl) dX2_readPart_68 ⟨Nat.le_of_ble_eq_true rfl, Nat.le_of_ble_eq_true rfl⟩) hw rfl (Nat.le_of_ble_eq_true rfl) (Nat.le_of_ble_eq_true rfl) (fun H locs hw => ?_)
            refine W.eq (g2 := F0 m 71 ls [.int z6.1]) rfl ?_
            have hw : w_W G z6.2 r s H locs := hw
            refine cx_if_eq (tgt := 79) E dX2_readPart_71 (by decide) (fun _ => ?_) (fun _ => ?_)
            · refine lv_iconst (v := 0) hx hb dX2_readPart_79 (by decide) ?_
              exact w80  0 z6.2 _ _ _ hw (lv_sub hl [0] rfl)
            · refine lv_bipush (v := 6) hx hb dX2_readPart_74 (by decide) ?_
              refine lv_goto (tgt := 80) hx hb dX2_readPart_76 (by decide) ?_
              exact w80  6 z6.2 _ _ _ hw (lv_sub hl [0] rfl)
          · refine lv_iconst (v := 5) hx hb dX2_readPart_61 (by decide) ?_
            refine lv_goto (tgt := 80) hx hb dX2_readPart_62 (by decide) ?_
            exact w80  5 z5.2 _ _ _ hw (lv_sub hl [0] rfl)
        · refine lv_iconst (v := 4) hx hb dX2_readPart_48 (by decide) ?_
          refine lv_goto (tgt := 80) hx hb dX2_readPart_49 (by decide) ?_
          exact w80  4 z4.2 _ _ _ hw (lv_sub hl [0] rfl)
      · refine lv_iconst (v := 3) hx hb dX2_readPart_35 (by decide) ?_
        refine lv_goto (tgt := 80) hx hb dX2_readPart_36 (by decide) ?_
        exact w80  3 z3.2 _ _ _ hw (lv_sub hl [0] rfl)
    · refine lv_iconst (v := 2) hx hb dX2_readPart_22 (by decide) ?_
      refine lv_goto (tgt := 80) hx hb dX2_readPart_23 (by decide) ?_
      exact w80  2 z2.2 _ _ _ hw (lv_sub hl [0] rfl)
  · refine lv_iconst (v := 1) hx hb dX2_readPart_9 (by decide) ?_
    refine lv_goto (tgt := 80) hx hb dX2_readPart_10 (by decide) ?_
    exact w80  1 z1.2 _ _ _ hw (lv_sub hl [0] rfl)
set_option maxHeartbeats 4000000 in
set_option maxRecDepth 100000 in
theorem t_TxR_bytesLeft_2 (l : Launch) (hfl : l.stackTraces = false) (G : wG) (this : Nat) (M : Mem) (r : Rho) : Ctr l yX7_bytesLeft (wWs yX7_bytesLeft cX7_bytesLeft 1 (some .int)) rm_TxR_bytesLeft_2 rm_TxR_bytesLeft_2.cells rm_TxR_bytesLeft_2.slots G [.ref this] M r ((f_TxR_bytesLeft_2 this M).map (fun z => (.inl (some (.int z)), M, r))) := by
  refine Ctr.ofF (own := "CheekTown$TextReade\x72") (by decide +kernel) hfl rfl (Nat.le_of_ble_eq_true rfl) (fun p e s m args below meth c E hno hr hnm hw ls hl => ?_)
  obtain ⟨hx, hb, hts, hown, hml, hTT, -⟩ := id E
  have hl : lv_has ls 1 [(0, .ref this)] := hl
  obtain ⟨H, hH⟩ : ∃ H, H = s.heap := ⟨_, rfl⟩
  obtain ⟨locs, hlo⟩ : ∃ L : List Loc, L = [] := ⟨_, rfl⟩
  rw [← hH, ← hlo]
  rw [← hlo] at hw
  replace hw : w_W G M r s H locs := by rw [hH]; exact hw
  unfold f_TxR_bytesLeft_2
  refine lv_aload_n hx hb dX7_bytesLeft_0 rfl (lv_at hl 0 rfl) ?_
  refine gx_getI E hw kF_TxR_25_2 (by decide) dX7_bytesLeft_1 (fun v1 _ => ?_)
  refine lv_aload_n hx hb dX7_bytesLeft_4 rfl (lv_at hl 0 rfl) ?_
  refine gx_getI E hw kF_TxR_31_2 (by decide) dX7_bytesLeft_5 (fun v2 _ => ?_)
  refine lv_isub hx hb dX7_bytesLeft_8 ?_
  exact p_iret E hw hr (Nat.le_of_ble_eq_true rfl) (Nat.le_of_ble_eq_true rfl) rfl dX7_bytesLeft_9
set_option maxHeartbeats 4000000 in
set_option maxRecDepth 100000 in
theorem t_LR_readSum (l : Launch) (hfl : l.stackTraces = false) (G : wG) (N : Nat) (this : Nat) (M : Mem) (r : Rho) : Ctr l yX2_readSum (wWs yX2_readSum cX2_readSum 2 none) rm_LR_readSum rm_LR_readSum.cells rm_LR_readSum.slots G [.ref this] M r ((f_LR_readSum N this M).map (fun z => (.inl none, z, r))) := by
  refine Ctr.ofF (own := "CheekTown$LawReade\x72") (by decide +kernel) hfl rfl (Nat.le_of_ble_eq_true rfl) (fun p e s m args below meth c E hno hr hnm hw ls hl => ?_)
  obtain ⟨hx, hb, hts, hown, hml, hTT, -⟩ := id E
  have hl : lv_has ls 2 [(0, .ref this)] := hl
  obtain ⟨H, hH⟩ : ∃ H, H = s.heap := ⟨_, rfl⟩
  obtain ⟨locs, hlo⟩ : ∃ L : List Loc, L = [] := ⟨_, rfl⟩
  rw [← hH, ← hlo]
  rw [← hlo] at hw
  replace hw : w_W G M r s H locs := by rw [hH]; exact hw
  have w9 : ∀ (n : Nat) (x1 : Int32) (M : Mem) (H : Heap) (locs : List Loc) (ls : Array Slot), w_W G M r s H locs → lv_has ls 2 [(0, .ref this), (1, .int x1)] → W p l e rm_LR_readSum s m args below meth c H locs 0 0 (PQ G below args s rm_LR_readSum.cells rm_LR_readSum.slots (fun z => (.inl none, z, r)) (f_LR_readSum_9 N this n x1 M)) (F0 m 9 ls []) := by
    intro n
    induction n with
    | zero => intros; exact W_none
    | succ n ih =>
      intro x1 M H locs ls hw hl
      rw [f_LR_readSum_9]
      refine lv_iload_n hx hb dX2_readSum_9 rfl (lv_at hl 1 rfl) ?_
      refine cx_if_le (tgt := 42) E dX2_readSum_10 (by decide) (fun _ => ?_) (fun _ => ?_)
      · exact p_vret E hw hr (Nat.le_of_ble_eq_true rfl) (Nat.le_of_ble_eq_true rfl) rfl dX2_readSum_42
      · refine lv_aload_n hx hb dX2_readSum_13 rfl (lv_at hl 0 rfl) ?_
        refine lv_bipush (v := 43) hx hb dX2_readSum_14 (by decide) ?_
        refine W_bind fun _ hck => ?_
        refine W_bind fun z3 hz => ?_
        refine w_after (cells1 := 0) (slots1 := 0) (w_runU E kU_LR_51_LR kc_X7_takeSign (t_TxR_takeSign_2 l hfl G N this 43 M r ((fun z => (.inl (some (.int z.1)), z.2, r)) z3) (by rw [hz]; rfl)) ⟨Nat.le_of_ble_eq_true rfl, Nat.le_of_ble_eq_true rfl⟩ hw (w_recv E hw (by decide) ⟨_, _, rfl⟩ (ck_ok hck)) rfl hl.1 rfl (Nat.le_of_ble_eq_true rfl) dX2_readSum_16 ⟨Nat.le_of_ble_eq_true rfl, Nat.le_of_ble_eq_true rfl⟩) hw rfl (Nat.le_of_ble_eq_true rfl) (Nat.le_of_ble_eq_true rfl) (fun H locs hw => ?_)
        refine W.eq (g2 := F0 m 19 ls [.int z3.1]) rfl ?_
        have hw : w_W G z3.2 r s H locs := hw
        refine cx_if_eq (tgt := 42) E dX2_readSum_19 (by decide) (fun _ => ?_) (fun _ => ?_)
        · exact p_vret E hw hr (Nat.le_of_ble_eq_true rfl) (Nat.le_of_ble_eq_true rfl) rfl dX2_readSum_42
        · refine lv_aload_n hx hb dX2_readSum_22 rfl (lv_at hl 0 rfl) ?_
          refine W_bind fun _ hck => ?_
          refine W_bind fun z4 hz => ?_
          refine w_after (cells1 := 0) (slots1 := 0) (w_runV E kV_LR_74 kc_X2_readPart (t_LR_readPart l hfl G N this z3.2 r ((fun z => (.inl none, z, r)) z4) (by rw [hz]; rfl)) ⟨Nat.le_of_ble_eq_true rfl, Nat.le_of_ble_eq_true rfl⟩ hw (w_recv E hw (by decide) ⟨_, _, rfl⟩ (ck_ok hck)) rfl hl.1 rfl (Nat.le_of_ble_eq_true rfl) dX2_readSum_23 ⟨Nat.le_of_ble_eq_true rfl, Nat.le_of_ble_eq_true rfl⟩) hw rfl (Nat.le_of_ble_eq_true rfl) (Nat.le_of_ble_eq_true rfl) (fun H locs hw => ?_)
          refine W.eq (g2 := F0 m 26 ls []) rfl ?_
          have hw : w_W G z4 r s H locs := hw
          refine lv_aload_n hx hb dX2_readSum_26 rfl (lv_at hl 0 rfl) ?_
          refine gx_getR E hw kF_LR_7_2 (by decide) dX2_readSum_27 (fun v5 _ => ?_)
          refine lv_bipush (v := 10) hx hb dX2_readSum_30 (by decide) ?_
          refine lv_iconst (v := 0) hx hb dX2_readSum_32 (by decide) ?_
          refine W_bind fun _ hck => ?_
          refine W_bind fun z6 hz => ?_
          refine w_after (cells1 := 0) (slots1 := 0) (w_runV E kV_LR_40 kc_X1_addStep (t_Law_addStep l hfl G v5 10 0 z4 r ((fun z => (.inl none, z, r)) z6) (by rw [hz]; rfl)) ⟨Nat.le_of_ble_eq_true rfl, Nat.le_of_ble_eq_true rfl⟩ hw (w_recv E hw (by decide) ⟨_, _, rfl⟩ (ck_ok hck)) rfl hl.1 rfl (Nat.le_of_ble_eq_true rfl) dX2_readSum_33 ⟨Nat.le_of_ble_eq_true rfl, Nat.le_of_ble_eq_true rfl⟩) hw rfl (Nat.le_of_ble_eq_true rfl) (Nat.le_of_ble_eq_true rfl) (fun H locs hw => ?_)
          refine W.eq (g2 := F0 m 36 ls []) rfl ?_
          have hw : w_W G z6 r s H locs := hw
          refine lv_iinc (v := x1 + (-1)) (lv' := [(1, .int (x1 + (-1))), (0, .ref this)]) hx hb dX2_readSum_36 hl (k := 1) rfl rfl (by decide) rfl (fun ls hl => ?_)
          refine lv_goto (tgt := 9) hx hb dX2_readSum_39 (by decide) ?_
          exact ih (x1 + (-1)) z6 _ _ _ hw (lv_sub hl [1, 0] rfl)
  unfold f_LR_readSum
  refine lv_aload_n hx hb dX2_readSum_0 rfl (lv_at hl 0 rfl) ?_
  refine W_bind fun _ hck => ?_
  refine W_bind fun z1 hz => ?_
  refine w_after (cells1 := 0) (slots1 := 0) (w_runV E kV_LR_74 kc_X2_readPart (t_LR_readPart l hfl G N this M r ((fun z => (.inl none, z, r)) z1) (by rw [hz]; rfl)) ⟨Nat.le_of_ble_eq_true rfl, Nat.le_of_ble_eq_true rfl⟩ hw (w_recv E hw (by decide) ⟨_, _, rfl⟩ (ck_ok hck)) rfl hl.1 rfl (Nat.le_of_ble_eq_true rfl) dX2_readSum_1 ⟨Nat.le_of_ble_eq_true rfl, Nat.le_of_ble_eq_true rfl⟩) hw rfl (Nat.le_of_ble_eq_true rfl) (Nat.le_of_ble_eq_true rfl) (fun H locs hw => ?_)
  refine W.eq (g2 := F0 m 4 ls []) rfl ?_
  have hw : w_W G z1 r s H locs := hw
  refine lv_aload_n hx hb dX2_readSum_4 rfl (lv_at hl 0 rfl) ?_
  refine W_bind fun _ hck => ?_
  refine W_bind fun z2 hz => ?_
  refine w_after (cells1 := 0) (slots1 := 0) (w_runU E kU_LR_35_LR kc_X7_bytesLeft (t_TxR_bytesLeft_2 l hfl G this z1 r ((fun z => (.inl (some (.int z)), z1, r)) z2) (by rw [hz]; rfl)) ⟨Nat.le_of_ble_eq_true rfl, Nat.le_of_ble_eq_true rfl⟩ hw (w_recv E hw (by decide) ⟨_, _, rfl⟩ (ck_ok hck)) rfl hl.1 rfl (Nat.le_of_ble_eq_true rfl) dX2_readSum_5 ⟨Nat.le_of_ble_eq_true rfl, Nat.le_of_ble_eq_true rfl⟩) hw rfl (Nat.le_of_ble_eq_true rfl) (Nat.le_of_ble_eq_true rfl) (fun H locs hw => ?_)
  refine W.eq (g2 := F0 m 8 ls [.int z2]) rfl ?_
  have hw : w_W G z1 r s H locs := hw
  refine lv_istore_n (lv' := [(1, .int z2), (0, .ref this)]) hx hb dX2_readSum_8 rfl hl (by decide) rfl (fun ls hl => ?_)
  exact w9  N z2 z1 _ _ _ hw (lv_sub hl [1, 0] rfl)
set_option maxHeartbeats 4000000 in
set_option maxRecDepth 100000 in
theorem t_TxR_readSign_2 (l : Launch) (hfl : l.stackTraces = false) (G : wG) (N : Nat) (this : Nat) (a0 : Int32) (M : Mem) (r : Rho) : Ctr l yX7_readSign (wWs yX7_readSign cX7_readSign 2 none) rm_TxR_readSign_2 rm_TxR_readSign_2.cells rm_TxR_readSign_2.slots G [.ref this, .int a0] M r ((f_TxR_readSign_2 N this a0 M).map (fun z => (.inl none, z, r))) := by
  refine Ctr.ofF (own := "CheekTown$TextReade\x72") (by decide +kernel) hfl rfl (Nat.le_of_ble_eq_true rfl) (fun p e s m args below meth c E hno hr hnm hw ls hl => ?_)
  obtain ⟨hx, hb, hts, hown, hml, hTT, -⟩ := id E
  have hl : lv_has ls 2 [(0, .ref this), (1, .int a0)] := hl
  obtain ⟨H, hH⟩ : ∃ H, H = s.heap := ⟨_, rfl⟩
  obtain ⟨locs, hlo⟩ : ∃ L : List Loc, L = [] := ⟨_, rfl⟩
  rw [← hH, ← hlo]
  rw [← hlo] at hw
  replace hw : w_W G M r s H locs := by rw [hH]; exact hw
  unfold f_TxR_readSign_2
  refine lv_aload_n hx hb dX7_readSign_0 rfl (lv_at hl 0 rfl) ?_
  refine lv_iload_n hx hb dX7_readSign_1 rfl (lv_at hl 1 rfl) ?_
  refine W_bind fun _ hck => ?_
  refine W_bind fun z1 hz => ?_
  refine w_after (cells1 := 0) (slots1 := 0) (w_runU E kU_TxR_63_LR kc_X7_takeSign (t_TxR_takeSign_2 l hfl G N this a0 M r ((fun z => (.inl (some (.int z.1)), z.2, r)) z1) (by rw [hz]; rfl)) ⟨Nat.le_of_ble_eq_true rfl, Nat.le_of_ble_eq_true rfl⟩ hw (w_recv E hw (by decide) ⟨_, _, rfl⟩ (ck_ok hck)) rfl hl.1 rfl (Nat.le_of_ble_eq_true rfl) dX7_readSign_2 ⟨Nat.le_of_ble_eq_true rfl, Nat.le_of_ble_eq_true rfl⟩) hw rfl (Nat.le_of_ble_eq_true rfl) (Nat.le_of_ble_eq_true rfl) (fun H locs hw => ?_)
  refine W.eq (g2 := F0 m 5 ls [.int z1.1]) rfl ?_
  have hw : w_W G z1.2 r s H locs := hw
  refine cx_if_ne (tgt := 12) E dX7_readSign_5 (by decide) (fun _ => ?_) (fun _ => ?_)
  · exact p_vret E hw hr (Nat.le_of_ble_eq_true rfl) (Nat.le_of_ble_eq_true rfl) rfl dX7_readSign_12
  · refine lv_aload_n hx hb dX7_readSign_8 rfl (lv_at hl 0 rfl) ?_
    refine W_bind fun _ hck => ?_
    refine W_bind fun z2 hz => ?_
    refine w_after (cells1 := 0) (slots1 := 0) (w_runU E kU_TxR_41_LR kc_X7_nextIsWrong (t_TxR_nextIsWrong_2 l hfl G this z1.2 r ((fun z => (.inl none, z, r)) z2) (by rw [hz]; rfl)) ⟨Nat.le_of_ble_eq_true rfl, Nat.le_of_ble_eq_true rfl⟩ hw (w_recv E hw (by decide) ⟨_, _, rfl⟩ (ck_ok hck)) rfl hl.1 rfl (Nat.le_of_ble_eq_true rfl) dX7_readSign_9 ⟨Nat.le_of_ble_eq_true rfl, Nat.le_of_ble_eq_true rfl⟩) hw rfl (Nat.le_of_ble_eq_true rfl) (Nat.le_of_ble_eq_true rfl) (fun H locs hw => ?_)
    refine W.eq (g2 := F0 m 12 ls []) rfl ?_
    have hw : w_W G z2 r s H locs := hw
    exact p_vret E hw hr (Nat.le_of_ble_eq_true rfl) (Nat.le_of_ble_eq_true rfl) rfl dX7_readSign_12
set_option maxHeartbeats 4000000 in
set_option maxRecDepth 100000 in
theorem t_LR_readAtom (l : Launch) (hfl : l.stackTraces = false) (G : wG) (N : Nat) (dp : Nat → Int32 → Int32 → Mem → Option (Mem)) (d : Nat) (hdp : ∀ (this : Nat) (a0 : Int32) (a1 : Int32) (M : Mem) (r : Rho), Ctr l yX2_readDeeper (wWs yX2_readDeeper cX2_readDeeper 3 none) (rm_LR_readDeeper d) 0 0 G [.ref this, .int a0, .int a1] M r ((dp this a0 a1 M).map (fun z => (.inl none, z, r)))) (this : Nat) (a0 : Int32) (M : Mem) (r : Rho) : Ctr l yX2_readAtom (wWs yX2_readAtom cX2_readAtom 4 none) (rm_LR_readAtom d) (rm_LR_readAtom d).cells (rm_LR_readAtom d).slots G [.ref this, .int a0] M r ((f_LR_readAtom N dp this a0 M).map (fun z => (.inl none, z, r))) := by
  refine Ctr.ofF (own := "CheekTown$LawReade\x72") (by decide +kernel) hfl rfl (Nat.le_of_ble_eq_true rfl) (fun p e s m args below meth c E hno hr hnm hw ls hl => ?_)
  obtain ⟨hx, hb, hts, hown, hml, hTT, -⟩ := id E
  have hl : lv_has ls 4 [(0, .ref this), (1, .int a0)] := hl
  obtain ⟨H, hH⟩ : ∃ H, H = s.heap := ⟨_, rfl⟩
  obtain ⟨locs, hlo⟩ : ∃ L : List Loc, L = [] := ⟨_, rfl⟩
  rw [← hH, ← hlo]
  rw [← hlo] at hw
  replace hw : w_W G M r s H locs := by rw [hH]; exact hw
  have w20 : ∀ (x2 : Int32) (M : Mem) (H : Heap) (locs : List Loc) (ls : Array Slot), w_W G M r s H locs → lv_has ls 4 [(0, .ref this), (1, .int a0), (2, .int x2)] → W p l e (rm_LR_readAtom d) s m args below meth c H locs 0 0 (PQ G below args s (rm_LR_readAtom d).cells (rm_LR_readAtom d).slots (fun z => (.inl none, z, r)) (f_LR_readAtom_20 N dp this a0 x2 M)) (F0 m 20 ls []) := by
    intro x2 M H locs ls hw hl
    unfold f_LR_readAtom_20
    refine lv_aload_n hx hb dX2_readAtom_20 rfl (lv_at hl 0 rfl) ?_
    refine lv_iload_n hx hb dX2_readAtom_21 rfl (lv_at hl 2 rfl) ?_
    refine lv_iload_n hx hb dX2_readAtom_22 rfl (lv_at hl 1 rfl) ?_
    refine lv_iconst (v := 1) hx hb dX2_readAtom_23 (by decide) ?_
    refine lv_iadd hx hb dX2_readAtom_24 ?_
    refine W_bind fun _ hck => ?_
    refine W_bind fun z12 hz => ?_
    refine w_after (cells1 := 0) (slots1 := 0) (w_runV E kV_LR_55 kc_X2_readDeeper (hdp this x2 (a0 + 1) M r ((fun z => (.inl none, z, r)) z12) (by rw [hz]; rfl)) ⟨by show 60 + 12 * d + 0 + 1 ≤ 60 + 12 * d + 1; omega, by show 8 + (3 + 11) + (3000 + 400 * d + 0) ≤ 3000 + 400 * d + 60; omega⟩ hw (w_recv E hw (by decide) ⟨_, _, rfl⟩ (ck_ok hck)) rfl hl.1 rfl (Nat.le_of_ble_eq_true rfl) dX2_readAtom_25 ⟨Nat.le_refl _, Nat.le_refl _⟩) hw rfl (Nat.le_refl _) (Nat.le_refl _) (fun H locs hw => ?_)
    refine W.eq (g2 := F0 m 28 ls []) rfl ?_
    have hw : w_W G z12 r s H locs := hw
    refine lv_goto (tgt := 119) hx hb dX2_readAtom_28 (by decide) ?_
    exact p_vret E hw hr (Nat.le_of_ble_eq_true rfl) (Nat.le_of_ble_eq_true rfl) rfl dX2_readAtom_119
  have w115 : ∀ (y0 : Nat) (y1 : Int32) (M : Mem) (H : Heap) (locs : List Loc) (ls : Array Slot), w_W G M r s H locs → lv_has ls 4 [] → W p l e (rm_LR_readAtom d) s m args below meth c H locs 0 0 (PQ G below args s (rm_LR_readAtom d).cells (rm_LR_readAtom d).slots (fun z => (.inl none, z, r)) (f_LR_readAtom_115 N dp this a0 y0 y1 M)) (F0 m 115 ls [.int y1, .ref y0]) := by
    intro y0 y1 M H locs ls hw hl
    unfold f_LR_readAtom_115
    refine lv_iconst (v := 0) hx hb dX2_readAtom_115 (by decide) ?_
    refine W_bind fun _ hck => ?_
    refine W_bind fun z15 hz => ?_
    refine w_after (cells1 := 0) (slots1 := 0) (w_runV E kV_LR_40 kc_X1_addStep (t_Law_addStep l hfl G y0 y1 0 M r ((fun z => (.inl none, z, r)) z15) (by rw [hz]; rfl)) ⟨by show 0 + 1 ≤ 60 + 12 * d + 1; omega, by show 8 + (3 + 11) + (0) ≤ 3000 + 400 * d + 60; omega⟩ hw (w_recv E hw (by decide) ⟨_, _, rfl⟩ (ck_ok hck)) rfl hl.1 rfl (Nat.le_of_ble_eq_true rfl) dX2_readAtom_116 ⟨Nat.le_refl _, Nat.le_refl _⟩) hw rfl (Nat.le_refl _) (Nat.le_refl _) (fun H locs hw => ?_)
    refine W.eq (g2 := F0 m 119 ls []) rfl ?_
    have hw : w_W G z15 r s H locs := hw
    exact p_vret E hw hr (Nat.le_of_ble_eq_true rfl) (Nat.le_of_ble_eq_true rfl) rfl dX2_readAtom_119
  have w96 : ∀ (x3 : Int32) (M : Mem) (H : Heap) (locs : List Loc) (ls : Array Slot), w_W G M r s H locs → lv_has ls 4 [(0, .ref this), (3, .int x3)] → W p l e (rm_LR_readAtom d) s m args below meth c H locs 0 0 (PQ G below args s (rm_LR_readAtom d).cells (rm_LR_readAtom d).slots (fun z => (.inl none, z, r)) (f_LR_readAtom_96 N dp this a0 x3 M)) (F0 m 96 ls []) := by
    intro x3 M H locs ls hw hl
    unfold f_LR_readAtom_96
    refine lv_aload_n hx hb dX2_readAtom_96 rfl (lv_at hl 0 rfl) ?_
    refine W_bind fun _ hck => ?_
    refine W_bind fun z13 hz => ?_
    refine w_after (cells1 := 0) (slots1 := 0) (w_runV E kV_LR_63 kc_X2_readSum (t_LR_readSum l hfl G N this M r ((fun z => (.inl none, z, r)) z13) (by rw [hz]; rfl)) ⟨by show 10 + 1 ≤ 60 + 12 * d + 1; omega, by show 8 + (2 + 11) + (443) ≤ 3000 + 400 * d + 60; omega⟩ hw (w_recv E hw (by decide) ⟨_, _, rfl⟩ (ck_ok hck)) rfl hl.1 rfl (Nat.le_of_ble_eq_true rfl) dX2_readAtom_97 ⟨Nat.le_refl _, Nat.le_refl _⟩) hw rfl (Nat.le_refl _) (Nat.le_refl _) (fun H locs hw => ?_)
    refine W.eq (g2 := F0 m 100 ls []) rfl ?_
    have hw : w_W G z13 r s H locs := hw
    refine lv_aload_n hx hb dX2_readAtom_100 rfl (lv_at hl 0 rfl) ?_
    refine gx_getR E hw kF_LR_7_2 (by decide) dX2_readAtom_101 (fun v14 _ => ?_)
    refine lv_iload_n hx hb dX2_readAtom_104 rfl (lv_at hl 1 rfl) ?_
    refine cx_if_eq (tgt := 113) E dX2_readAtom_105 (by decide) (fun _ => ?_) (fun _ => ?_)
    · refine lv_bipush (v := 12) hx hb dX2_readAtom_113 (by decide) ?_
      exact w115  v14 12 z13 _ _ _ hw (lv_sub hl [] rfl)
    · refine lv_bipush (v := 11) hx hb dX2_readAtom_108 (by decide) ?_
      refine lv_goto (tgt := 115) hx hb dX2_readAtom_110 (by decide) ?_
      exact w115  v14 11 z13 _ _ _ hw (lv_sub hl [] rfl)
  unfold f_LR_readAtom
  refine lv_aload_n hx hb dX2_readAtom_0 rfl (lv_at hl 0 rfl) ?_
  refine va_ldcS hx hb hown (hTT.2.2.1 7 _ rfl) dX2_readAtom_1 ?_
  refine W_bind fun _ hck => ?_
  refine W_bind fun z1 hz => ?_
  refine w_after (cells1 := 0) (slots1 := 0) (w_runU E kU_LR_19_LR kc_X7_takeWord (t_TxR_takeWord_2 l hfl G N this 7 M r ((fun z => (.inl (some (.int z.1)), z.2, r)) z1) (by rw [hz]; rfl)) ⟨by show 8 + 1 ≤ 60 + 12 * d + 1; omega, by show 8 + (3 + 11) + (400) ≤ 3000 + 400 * d + 60; omega⟩ hw (w_recv E hw (by decide) ⟨_, _, rfl⟩ (ck_ok hck)) rfl hl.1 rfl (Nat.le_of_ble_eq_true rfl) dX2_readAtom_3 ⟨Nat.le_refl _, Nat.le_refl _⟩) hw rfl (Nat.le_refl _) (Nat.le_refl _) (fun H locs hw => ?_)
  refine W.eq (g2 := F0 m 6 ls [.int z1.1]) rfl ?_
  have hw : w_W G z1.2 r s H locs := hw
  refine lv_istore_n (lv' := [(2, .int z1.1), (0, .ref this), (1, .int a0)]) hx hb dX2_readAtom_6 rfl hl (by decide) rfl (fun ls hl => ?_)
  refine lv_iload_n hx hb dX2_readAtom_7 rfl (lv_at hl 0 rfl) ?_
  refine cx_if_ne (tgt := 20) E dX2_readAtom_8 (by decide) (fun _ => ?_) (fun _ => ?_)
  · exact w20  z1.1 z1.2 _ _ _ hw (lv_sub hl [1, 2, 0] rfl)
  · refine lv_aload_n hx hb dX2_readAtom_11 rfl (lv_at hl 1 rfl) ?_
    refine lv_bipush (v := 40) hx hb dX2_readAtom_12 (by decide) ?_
    refine W_bind fun _ hck => ?_
    refine W_bind fun z2 hz => ?_
    refine w_after (cells1 := 0) (slots1 := 0) (w_runU E kU_LR_51_LR kc_X7_takeSign (t_TxR_takeSign_2 l hfl G N this 40 z1.2 r ((fun z => (.inl (some (.int z.1)), z.2, r)) z2) (by rw [hz]; rfl)) ⟨by show 1 + 1 ≤ 60 + 12 * d + 1; omega, by show 8 + (3 + 11) + (20) ≤ 3000 + 400 * d + 60; omega⟩ hw (w_recv E hw (by decide) ⟨_, _, rfl⟩ (ck_ok hck)) rfl hl.1 rfl (Nat.le_of_ble_eq_true rfl) dX2_readAtom_14 ⟨Nat.le_refl _, Nat.le_refl _⟩) hw rfl (Nat.le_refl _) (Nat.le_refl _) (fun H locs hw => ?_)
    refine W.eq (g2 := F0 m 17 ls [.int z2.1]) rfl ?_
    have hw : w_W G z2.2 r s H locs := hw
    refine cx_if_eq (tgt := 31) E dX2_readAtom_17 (by decide) (fun _ => ?_) (fun _ => ?_)
    · refine lv_aload_n hx hb dX2_readAtom_31 rfl (lv_at hl 1 rfl) ?_
      refine va_ldcS hx hb hown (hTT.2.2.1 8 _ rfl) dX2_readAtom_32 ?_
      refine W_bind fun _ hck => ?_
      refine W_bind fun z3 hz => ?_
      refine w_after (cells1 := 0) (slots1 := 0) (w_runU E kU_LR_19_LR kc_X7_takeWord (t_TxR_takeWord_2 l hfl G N this 8 z2.2 r ((fun z => (.inl (some (.int z.1)), z.2, r)) z3) (by rw [hz]; rfl)) ⟨by show 8 + 1 ≤ 60 + 12 * d + 1; omega, by show 8 + (3 + 11) + (400) ≤ 3000 + 400 * d + 60; omega⟩ hw (w_recv E hw (by decide) ⟨_, _, rfl⟩ (ck_ok hck)) rfl hl.1 rfl (Nat.le_of_ble_eq_true rfl) dX2_readAtom_34 ⟨Nat.le_refl _, Nat.le_refl _⟩) hw rfl (Nat.le_refl _) (Nat.le_refl _) (fun H locs hw => ?_)
      refine W.eq (g2 := F0 m 37 ls [.int z3.1]) rfl ?_
      have hw : w_W G z3.2 r s H locs := hw
      refine cx_if_eq (tgt := 53) E dX2_readAtom_37 (by decide) (fun _ => ?_) (fun _ => ?_)
      · refine lv_aload_n hx hb dX2_readAtom_53 rfl (lv_at hl 1 rfl) ?_
        refine va_ldcS hx hb hown (hTT.2.2.1 9 _ rfl) dX2_readAtom_54 ?_
        refine W_bind fun _ hck => ?_
        refine W_bind fun z4 hz => ?_
        refine w_after (cells1 := 0) (slots1 := 0) (w_runU E kU_LR_19_LR kc_X7_takeWord (t_TxR_takeWord_2 l hfl G N this 9 z3.2 r ((fun z => (.inl (some (.int z.1)), z.2, r)) z4) (by rw [hz]; rfl)) ⟨by show 8 + 1 ≤ 60 + 12 * d + 1; omega, by show 8 + (3 + 11) + (400) ≤ 3000 + 400 * d + 60; omega⟩ hw (w_recv E hw (by decide) ⟨_, _, rfl⟩ (ck_ok hck)) rfl hl.1 rfl (Nat.le_of_ble_eq_true rfl) dX2_readAtom_56 ⟨Nat.le_refl _, Nat.le_refl _⟩) hw rfl (Nat.le_refl _) (Nat.le_refl _) (fun H locs hw => ?_)
        refine W.eq (g2 := F0 m 59 ls [.int z4.1]) rfl ?_
        have hw : w_W G z4.2 r s H locs := hw
        refine cx_if_eq (tgt := 75) E dX2_readAtom_59 (by decide) (fun _ => ?_) (fun _ => ?_)
        · refine lv_aload_n hx hb dX2_readAtom_75 rfl (lv_at hl 1 rfl) ?_
          refine W_bind fun _ hck => ?_
          refine W_bind fun z5 hz => ?_
          refine w_after (cells1 := 0) (slots1 := 0) (w_runV E kV_LR_63 kc_X2_readSum (t_LR_readSum l hfl G N this z4.2 r ((fun z => (.inl none, z, r)) z5) (by rw [hz]; rfl)) ⟨by show 10 + 1 ≤ 60 + 12 * d + 1; omega, by show 8 + (2 + 11) + (443) ≤ 3000 + 400 * d + 60; omega⟩ hw (w_recv E hw (by decide) ⟨_, _, rfl⟩ (ck_ok hck)) rfl hl.1 rfl (Nat.le_of_ble_eq_true rfl) dX2_readAtom_76 ⟨Nat.le_refl _, Nat.le_refl _⟩) hw rfl (Nat.le_refl _) (Nat.le_refl _) (fun H locs hw => ?_)
          refine W.eq (g2 := F0 m 79 ls []) rfl ?_
          have hw : w_W G z5 r s H locs := hw
          refine lv_aload_n hx hb dX2_readAtom_79 rfl (lv_at hl 1 rfl) ?_
          refine lv_bipush (v := 60) hx hb dX2_readAtom_80 (by decide) ?_
          refine W_bind fun _ hck => ?_
          refine W_bind fun z6 hz => ?_
          refine w_after (cells1 := 0) (slots1 := 0) (w_runU E kU_LR_51_LR kc_X7_takeSign (t_TxR_takeSign_2 l hfl G N this 60 z5 r ((fun z => (.inl (some (.int z.1)), z.2, r)) z6) (by rw [hz]; rfl)) ⟨by show 1 + 1 ≤ 60 + 12 * d + 1; omega, by show 8 + (3 + 11) + (20) ≤ 3000 + 400 * d + 60; omega⟩ hw (w_recv E hw (by decide) ⟨_, _, rfl⟩ (ck_ok hck)) rfl hl.1 rfl (Nat.le_of_ble_eq_true rfl) dX2_readAtom_82 ⟨Nat.le_refl _, Nat.le_refl _⟩) hw rfl (Nat.le_refl _) (Nat.le_refl _) (fun H locs hw => ?_)
          refine W.eq (g2 := F0 m 85 ls [.int z6.1]) rfl ?_
          have hw : w_W G z6.2 r s H locs := hw
          refine lv_istore_n (lv' := [(3, .int z6.1), (2, .int z1.1), (0, .ref this), (1, .int a0)]) hx hb dX2_readAtom_85 rfl hl (by decide) rfl (fun ls hl => ?_)
          refine lv_iload_n hx hb dX2_readAtom_86 rfl (lv_at hl 0 rfl) ?_
          refine cx_if_ne (tgt := 96) E dX2_readAtom_87 (by decide) (fun _ => ?_) (fun _ => ?_)
          · exact w96  z6.1 z6.2 _ _ _ hw (lv_sub hl [2, 0] rfl)
          · refine lv_aload_n hx hb dX2_readAtom_90 rfl (lv_at hl 2 rfl) ?_
            refine lv_bipush (v := 62) hx hb dX2_readAtom_91 (by decide) ?_
            refine W_bind fun _ hck => ?_
            refine W_bind fun z7 hz => ?_
            refine w_after (cells1 := 0) (slots1 := 0) (w_runU E kU_LR_67_LR kc_X7_readSign (t_TxR_readSign_2 l hfl G N this 62 z6.2 r ((fun z => (.inl none, z, r)) z7) (by rw [hz]; rfl)) ⟨by show 2 + 1 ≤ 60 + 12 * d + 1; omega, by show 8 + (2 + 11) + (42) ≤ 3000 + 400 * d + 60; omega⟩ hw (w_recv E hw (by decide) ⟨_, _, rfl⟩ (ck_ok hck)) rfl hl.1 rfl (Nat.le_of_ble_eq_true rfl) dX2_readAtom_93 ⟨Nat.le_refl _, Nat.le_refl _⟩) hw rfl (Nat.le_refl _) (Nat.le_refl _) (fun H locs hw => ?_)
            refine W.eq (g2 := F0 m 96 ls []) rfl ?_
            have hw : w_W G z7 r s H locs := hw
            exact w96  z6.1 z7 _ _ _ hw (lv_sub hl [2, 0] rfl)
        · refine lv_aload_n hx hb dX2_readAtom_62 rfl (lv_at hl 1 rfl) ?_
          refine gx_getR E hw kF_LR_7_2 (by decide) dX2_readAtom_63 (fun v8 _ => ?_)
          refine lv_bipush (v := 8) hx hb dX2_readAtom_66 (by decide) ?_
          refine lv_iconst (v := 0) hx hb dX2_readAtom_68 (by decide) ?_
          refine W_bind fun _ hck => ?_
          refine W_bind fun z9 hz => ?_
          refine w_after (cells1 := 0) (slots1 := 0) (w_runV E kV_LR_40 kc_X1_addStep (t_Law_addStep l hfl G v8 8 0 z4.2 r ((fun z => (.inl none, z, r)) z9) (by rw [hz]; rfl)) ⟨by show 0 + 1 ≤ 60 + 12 * d + 1; omega, by show 8 + (3 + 11) + (0) ≤ 3000 + 400 * d + 60; omega⟩ hw (w_recv E hw (by decide) ⟨_, _, rfl⟩ (ck_ok hck)) rfl hl.1 rfl (Nat.le_of_ble_eq_true rfl) dX2_readAtom_69 ⟨Nat.le_refl _, Nat.le_refl _⟩) hw rfl (Nat.le_refl _) (Nat.le_refl _) (fun H locs hw => ?_)
          refine W.eq (g2 := F0 m 72 ls []) rfl ?_
          have hw : w_W G z9 r s H locs := hw
          refine lv_goto (tgt := 119) hx hb dX2_readAtom_72 (by decide) ?_
          exact p_vret E hw hr (Nat.le_of_ble_eq_true rfl) (Nat.le_of_ble_eq_true rfl) rfl dX2_readAtom_119
      · refine lv_aload_n hx hb dX2_readAtom_40 rfl (lv_at hl 1 rfl) ?_
        refine gx_getR E hw kF_LR_7_2 (by decide) dX2_readAtom_41 (fun v10 _ => ?_)
        refine lv_bipush (v := 7) hx hb dX2_readAtom_44 (by decide) ?_
        refine lv_iconst (v := 0) hx hb dX2_readAtom_46 (by decide) ?_
        refine W_bind fun _ hck => ?_
        refine W_bind fun z11 hz => ?_
        refine w_after (cells1 := 0) (slots1 := 0) (w_runV E kV_LR_40 kc_X1_addStep (t_Law_addStep l hfl G v10 7 0 z3.2 r ((fun z => (.inl none, z, r)) z11) (by rw [hz]; rfl)) ⟨by show 0 + 1 ≤ 60 + 12 * d + 1; omega, by show 8 + (3 + 11) + (0) ≤ 3000 + 400 * d + 60; omega⟩ hw (w_recv E hw (by decide) ⟨_, _, rfl⟩ (ck_ok hck)) rfl hl.1 rfl (Nat.le_of_ble_eq_true rfl) dX2_readAtom_47 ⟨Nat.le_refl _, Nat.le_refl _⟩) hw rfl (Nat.le_refl _) (Nat.le_refl _) (fun H locs hw => ?_)
        refine W.eq (g2 := F0 m 50 ls []) rfl ?_
        have hw : w_W G z11 r s H locs := hw
        refine lv_goto (tgt := 119) hx hb dX2_readAtom_50 (by decide) ?_
        exact p_vret E hw hr (Nat.le_of_ble_eq_true rfl) (Nat.le_of_ble_eq_true rfl) rfl dX2_readAtom_119
    · exact w20  z1.1 z2.2 _ _ _ hw (lv_sub hl [1, 2, 0] rfl)
set_option maxHeartbeats 4000000 in
set_option maxRecDepth 100000 in
theorem t_LR_readAll (l : Launch) (hfl : l.stackTraces = false) (G : wG) (N : Nat) (dp : Nat → Int32 → Int32 → Mem → Option (Mem)) (d : Nat) (hdp : ∀ (this : Nat) (a0 : Int32) (a1 : Int32) (M : Mem) (r : Rho), Ctr l yX2_readDeeper (wWs yX2_readDeeper cX2_readDeeper 3 none) (rm_LR_readDeeper d) 0 0 G [.ref this, .int a0, .int a1] M r ((dp this a0 a1 M).map (fun z => (.inl none, z, r)))) (this : Nat) (a0 : Int32) (M : Mem) (r : Rho) : Ctr l yX2_readAll (wWs yX2_readAll cX2_readAll 3 none) (rm_LR_readAll d) (rm_LR_readAll d).cells (rm_LR_readAll d).slots G [.ref this, .int a0] M r ((f_LR_readAll N dp this a0 M).map (fun z => (.inl none, z, r))) := by
  refine Ctr.ofF (own := "CheekTown$LawReade\x72") (by decide +kernel) hfl rfl (Nat.le_of_ble_eq_true rfl) (fun p e s m args below meth c E hno hr hnm hw ls hl => ?_)
  obtain ⟨hx, hb, hts, hown, hml, hTT, -⟩ := id E
  have hl : lv_has ls 3 [(0, .ref this), (1, .int a0)] := hl
  obtain ⟨H, hH⟩ : ∃ H, H = s.heap := ⟨_, rfl⟩
  obtain ⟨locs, hlo⟩ : ∃ L : List Loc, L = [] := ⟨_, rfl⟩
  rw [← hH, ← hlo]
  rw [← hlo] at hw
  replace hw : w_W G M r s H locs := by rw [hH]; exact hw
  have w10 : ∀ (n : Nat) (x2 : Int32) (M : Mem) (H : Heap) (locs : List Loc) (ls : Array Slot), w_W G M r s H locs → lv_has ls 3 [(0, .ref this), (1, .int a0), (2, .int x2)] → W p l e (rm_LR_readAll d) s m args below meth c H locs 0 0 (PQ G below args s (rm_LR_readAll d).cells (rm_LR_readAll d).slots (fun z => (.inl none, z, r)) (f_LR_readAll_10 N dp this a0 n x2 M)) (F0 m 10 ls []) := by
    intro n
    induction n with
    | zero => intros; exact W_none
    | succ n ih =>
      intro x2 M H locs ls hw hl
      rw [f_LR_readAll_10]
      refine lv_iload_n hx hb dX2_readAll_10 rfl (lv_at hl 2 rfl) ?_
      refine cx_if_le (tgt := 44) E dX2_readAll_11 (by decide) (fun _ => ?_) (fun _ => ?_)
      · exact p_vret E hw hr (Nat.le_of_ble_eq_true rfl) (Nat.le_of_ble_eq_true rfl) rfl dX2_readAll_44
      · refine lv_aload_n hx hb dX2_readAll_14 rfl (lv_at hl 0 rfl) ?_
        refine va_ldcS hx hb hown (hTT.2.2.1 16 _ rfl) dX2_readAll_15 ?_
        refine W_bind fun _ hck => ?_
        refine W_bind fun z3 hz => ?_
        refine w_after (cells1 := 0) (slots1 := 0) (w_runU E kU_LR_19_LR kc_X7_takeWord (t_TxR_takeWord_2 l hfl G N this 16 M r ((fun z => (.inl (some (.int z.1)), z.2, r)) z3) (by rw [hz]; rfl)) ⟨by show 8 + 1 ≤ 60 + 12 * d + 2; omega, by show 8 + (3 + 11) + (400) ≤ 3000 + 400 * d + 120; omega⟩ hw (w_recv E hw (by decide) ⟨_, _, rfl⟩ (ck_ok hck)) rfl hl.1 rfl (Nat.le_of_ble_eq_true rfl) dX2_readAll_17 ⟨Nat.le_refl _, Nat.le_refl _⟩) hw rfl (Nat.le_refl _) (Nat.le_refl _) (fun H locs hw => ?_)
        refine W.eq (g2 := F0 m 20 ls [.int z3.1]) rfl ?_
        have hw : w_W G z3.2 r s H locs := hw
        refine cx_if_eq (tgt := 44) E dX2_readAll_20 (by decide) (fun _ => ?_) (fun _ => ?_)
        · exact p_vret E hw hr (Nat.le_of_ble_eq_true rfl) (Nat.le_of_ble_eq_true rfl) rfl dX2_readAll_44
        · refine lv_aload_n hx hb dX2_readAll_23 rfl (lv_at hl 0 rfl) ?_
          refine lv_iload_n hx hb dX2_readAll_24 rfl (lv_at hl 1 rfl) ?_
          refine W_bind fun _ hck => ?_
          refine W_bind fun z4 hz => ?_
          refine w_after (cells1 := 0) (slots1 := 0) (w_runV E kV_LR_44 kc_X2_readAtom (t_LR_readAtom l hfl G N dp d hdp this a0 z3.2 r ((fun z => (.inl none, z, r)) z4) (by rw [hz]; rfl)) ⟨by show 60 + 12 * d + 1 + 1 ≤ 60 + 12 * d + 2; omega, by show 8 + (4 + 11) + (3000 + 400 * d + 60) ≤ 3000 + 400 * d + 120; omega⟩ hw (w_recv E hw (by decide) ⟨_, _, rfl⟩ (ck_ok hck)) rfl hl.1 rfl (Nat.le_of_ble_eq_true rfl) dX2_readAll_25 ⟨Nat.le_refl _, Nat.le_refl _⟩) hw rfl (Nat.le_refl _) (Nat.le_refl _) (fun H locs hw => ?_)
          refine W.eq (g2 := F0 m 28 ls []) rfl ?_
          have hw : w_W G z4 r s H locs := hw
          refine lv_aload_n hx hb dX2_readAll_28 rfl (lv_at hl 0 rfl) ?_
          refine gx_getR E hw kF_LR_7_2 (by decide) dX2_readAll_29 (fun v5 _ => ?_)
          refine lv_bipush (v := 13) hx hb dX2_readAll_32 (by decide) ?_
          refine lv_iconst (v := 0) hx hb dX2_readAll_34 (by decide) ?_
          refine W_bind fun _ hck => ?_
          refine W_bind fun z6 hz => ?_
          refine w_after (cells1 := 0) (slots1 := 0) (w_runV E kV_LR_40 kc_X1_addStep (t_Law_addStep l hfl G v5 13 0 z4 r ((fun z => (.inl none, z, r)) z6) (by rw [hz]; rfl)) ⟨by show 0 + 1 ≤ 60 + 12 * d + 2; omega, by show 8 + (3 + 11) + (0) ≤ 3000 + 400 * d + 120; omega⟩ hw (w_recv E hw (by decide) ⟨_, _, rfl⟩ (ck_ok hck)) rfl hl.1 rfl (Nat.le_of_ble_eq_true rfl) dX2_readAll_35 ⟨Nat.le_refl _, Nat.le_refl _⟩) hw rfl (Nat.le_refl _) (Nat.le_refl _) (fun H locs hw => ?_)
          refine W.eq (g2 := F0 m 38 ls []) rfl ?_
          have hw : w_W G z6 r s H locs := hw
          refine lv_iinc (v := x2 + (-1)) (lv' := [(2, .int (x2 + (-1))), (0, .ref this), (1, .int a0)]) hx hb dX2_readAll_38 hl (k := 2) rfl rfl (by decide) rfl (fun ls hl => ?_)
          refine lv_goto (tgt := 10) hx hb dX2_readAll_41 (by decide) ?_
          exact ih (x2 + (-1)) z6 _ _ _ hw (lv_sub hl [1, 2, 0] rfl)
  unfold f_LR_readAll
  refine lv_aload_n hx hb dX2_readAll_0 rfl (lv_at hl 0 rfl) ?_
  refine lv_iload_n hx hb dX2_readAll_1 rfl (lv_at hl 1 rfl) ?_
  refine W_bind fun _ hck => ?_
  refine W_bind fun z1 hz => ?_
  refine w_after (cells1 := 0) (slots1 := 0) (w_runV E kV_LR_44 kc_X2_readAtom (t_LR_readAtom l hfl G N dp d hdp this a0 M r ((fun z => (.inl none, z, r)) z1) (by rw [hz]; rfl)) ⟨by show 60 + 12 * d + 1 + 1 ≤ 60 + 12 * d + 2; omega, by show 8 + (4 + 11) + (3000 + 400 * d + 60) ≤ 3000 + 400 * d + 120; omega⟩ hw (w_recv E hw (by decide) ⟨_, _, rfl⟩ (ck_ok hck)) rfl hl.1 rfl (Nat.le_of_ble_eq_true rfl) dX2_readAll_2 ⟨Nat.le_refl _, Nat.le_refl _⟩) hw rfl (Nat.le_refl _) (Nat.le_refl _) (fun H locs hw => ?_)
  refine W.eq (g2 := F0 m 5 ls []) rfl ?_
  have hw : w_W G z1 r s H locs := hw
  refine lv_aload_n hx hb dX2_readAll_5 rfl (lv_at hl 0 rfl) ?_
  refine W_bind fun _ hck => ?_
  refine W_bind fun z2 hz => ?_
  refine w_after (cells1 := 0) (slots1 := 0) (w_runU E kU_LR_35_LR kc_X7_bytesLeft (t_TxR_bytesLeft_2 l hfl G this z1 r ((fun z => (.inl (some (.int z)), z1, r)) z2) (by rw [hz]; rfl)) ⟨by show 0 + 1 ≤ 60 + 12 * d + 2; omega, by show 8 + (1 + 11) + (0) ≤ 3000 + 400 * d + 120; omega⟩ hw (w_recv E hw (by decide) ⟨_, _, rfl⟩ (ck_ok hck)) rfl hl.1 rfl (Nat.le_of_ble_eq_true rfl) dX2_readAll_6 ⟨Nat.le_refl _, Nat.le_refl _⟩) hw rfl (Nat.le_refl _) (Nat.le_refl _) (fun H locs hw => ?_)
  refine W.eq (g2 := F0 m 9 ls [.int z2]) rfl ?_
  have hw : w_W G z1 r s H locs := hw
  refine lv_istore_n (lv' := [(2, .int z2), (0, .ref this), (1, .int a0)]) hx hb dX2_readAll_9 rfl hl (by decide) rfl (fun ls hl => ?_)
  exact w10  N z2 z1 _ _ _ hw (lv_sub hl [1, 2, 0] rfl)
set_option maxHeartbeats 4000000 in
set_option maxRecDepth 100000 in
theorem t_LR_readAny (l : Launch) (hfl : l.stackTraces = false) (G : wG) (N : Nat) (dp : Nat → Int32 → Int32 → Mem → Option (Mem)) (d : Nat) (hdp : ∀ (this : Nat) (a0 : Int32) (a1 : Int32) (M : Mem) (r : Rho), Ctr l yX2_readDeeper (wWs yX2_readDeeper cX2_readDeeper 3 none) (rm_LR_readDeeper d) 0 0 G [.ref this, .int a0, .int a1] M r ((dp this a0 a1 M).map (fun z => (.inl none, z, r)))) (this : Nat) (a0 : Int32) (M : Mem) (r : Rho) : Ctr l yX2_readAny (wWs yX2_readAny cX2_readAny 3 none) (rm_LR_readAny d) (rm_LR_readAny d).cells (rm_LR_readAny d).slots G [.ref this, .int a0] M r ((f_LR_readAny N dp this a0 M).map (fun z => (.inl none, z, r))) := by
  refine Ctr.ofF (own := "CheekTown$LawReade\x72") (by decide +kernel) hfl rfl (Nat.le_of_ble_eq_true rfl) (fun p e s m args below meth c E hno hr hnm hw ls hl => ?_)
  obtain ⟨hx, hb, hts, hown, hml, hTT, -⟩ := id E
  have hl : lv_has ls 3 [(0, .ref this), (1, .int a0)] := hl
  obtain ⟨H, hH⟩ : ∃ H, H = s.heap := ⟨_, rfl⟩
  obtain ⟨locs, hlo⟩ : ∃ L : List Loc, L = [] := ⟨_, rfl⟩
  rw [← hH, ← hlo]
  rw [← hlo] at hw
  replace hw : w_W G M r s H locs := by rw [hH]; exact hw
  have w10 : ∀ (n : Nat) (x2 : Int32) (M : Mem) (H : Heap) (locs : List Loc) (ls : Array Slot), w_W G M r s H locs → lv_has ls 3 [(0, .ref this), (1, .int a0), (2, .int x2)] → W p l e (rm_LR_readAny d) s m args below meth c H locs 0 0 (PQ G below args s (rm_LR_readAny d).cells (rm_LR_readAny d).slots (fun z => (.inl none, z, r)) (f_LR_readAny_10 N dp this a0 n x2 M)) (F0 m 10 ls []) := by
    intro n
    induction n with
    | zero => intros; exact W_none
    | succ n ih =>
      intro x2 M H locs ls hw hl
      rw [f_LR_readAny_10]
      refine lv_iload_n hx hb dX2_readAny_10 rfl (lv_at hl 2 rfl) ?_
      refine cx_if_le (tgt := 44) E dX2_readAny_11 (by decide) (fun _ => ?_) (fun _ => ?_)
      · exact p_vret E hw hr (Nat.le_of_ble_eq_true rfl) (Nat.le_of_ble_eq_true rfl) rfl dX2_readAny_44
      · refine lv_aload_n hx hb dX2_readAny_14 rfl (lv_at hl 0 rfl) ?_
        refine va_ldcS hx hb hown (hTT.2.2.1 17 _ rfl) dX2_readAny_15 ?_
        refine W_bind fun _ hck => ?_
        refine W_bind fun z3 hz => ?_
        refine w_after (cells1 := 0) (slots1 := 0) (w_runU E kU_LR_19_LR kc_X7_takeWord (t_TxR_takeWord_2 l hfl G N this 17 M r ((fun z => (.inl (some (.int z.1)), z.2, r)) z3) (by rw [hz]; rfl)) ⟨by show 8 + 1 ≤ 60 + 12 * d + 3; omega, by show 8 + (3 + 11) + (400) ≤ 3000 + 400 * d + 180; omega⟩ hw (w_recv E hw (by decide) ⟨_, _, rfl⟩ (ck_ok hck)) rfl hl.1 rfl (Nat.le_of_ble_eq_true rfl) dX2_readAny_17 ⟨Nat.le_refl _, Nat.le_refl _⟩) hw rfl (Nat.le_refl _) (Nat.le_refl _) (fun H locs hw => ?_)
        refine W.eq (g2 := F0 m 20 ls [.int z3.1]) rfl ?_
        have hw : w_W G z3.2 r s H locs := hw
        refine cx_if_eq (tgt := 44) E dX2_readAny_20 (by decide) (fun _ => ?_) (fun _ => ?_)
        · exact p_vret E hw hr (Nat.le_of_ble_eq_true rfl) (Nat.le_of_ble_eq_true rfl) rfl dX2_readAny_44
        · refine lv_aload_n hx hb dX2_readAny_23 rfl (lv_at hl 0 rfl) ?_
          refine lv_iload_n hx hb dX2_readAny_24 rfl (lv_at hl 1 rfl) ?_
          refine W_bind fun _ hck => ?_
          refine W_bind fun z4 hz => ?_
          refine w_after (cells1 := 0) (slots1 := 0) (w_runV E kV_LR_32 kc_X2_readAll (t_LR_readAll l hfl G N dp d hdp this a0 z3.2 r ((fun z => (.inl none, z, r)) z4) (by rw [hz]; rfl)) ⟨by show 60 + 12 * d + 2 + 1 ≤ 60 + 12 * d + 3; omega, by show 8 + (3 + 11) + (3000 + 400 * d + 120) ≤ 3000 + 400 * d + 180; omega⟩ hw (w_recv E hw (by decide) ⟨_, _, rfl⟩ (ck_ok hck)) rfl hl.1 rfl (Nat.le_of_ble_eq_true rfl) dX2_readAny_25 ⟨Nat.le_refl _, Nat.le_refl _⟩) hw rfl (Nat.le_refl _) (Nat.le_refl _) (fun H locs hw => ?_)
          refine W.eq (g2 := F0 m 28 ls []) rfl ?_
          have hw : w_W G z4 r s H locs := hw
          refine lv_aload_n hx hb dX2_readAny_28 rfl (lv_at hl 0 rfl) ?_
          refine gx_getR E hw kF_LR_7_2 (by decide) dX2_readAny_29 (fun v5 _ => ?_)
          refine lv_bipush (v := 14) hx hb dX2_readAny_32 (by decide) ?_
          refine lv_iconst (v := 0) hx hb dX2_readAny_34 (by decide) ?_
          refine W_bind fun _ hck => ?_
          refine W_bind fun z6 hz => ?_
          refine w_after (cells1 := 0) (slots1 := 0) (w_runV E kV_LR_40 kc_X1_addStep (t_Law_addStep l hfl G v5 14 0 z4 r ((fun z => (.inl none, z, r)) z6) (by rw [hz]; rfl)) ⟨by show 0 + 1 ≤ 60 + 12 * d + 3; omega, by show 8 + (3 + 11) + (0) ≤ 3000 + 400 * d + 180; omega⟩ hw (w_recv E hw (by decide) ⟨_, _, rfl⟩ (ck_ok hck)) rfl hl.1 rfl (Nat.le_of_ble_eq_true rfl) dX2_readAny_35 ⟨Nat.le_refl _, Nat.le_refl _⟩) hw rfl (Nat.le_refl _) (Nat.le_refl _) (fun H locs hw => ?_)
          refine W.eq (g2 := F0 m 38 ls []) rfl ?_
          have hw : w_W G z6 r s H locs := hw
          refine lv_iinc (v := x2 + (-1)) (lv' := [(2, .int (x2 + (-1))), (0, .ref this), (1, .int a0)]) hx hb dX2_readAny_38 hl (k := 2) rfl rfl (by decide) rfl (fun ls hl => ?_)
          refine lv_goto (tgt := 10) hx hb dX2_readAny_41 (by decide) ?_
          exact ih (x2 + (-1)) z6 _ _ _ hw (lv_sub hl [1, 2, 0] rfl)
  unfold f_LR_readAny
  refine lv_aload_n hx hb dX2_readAny_0 rfl (lv_at hl 0 rfl) ?_
  refine lv_iload_n hx hb dX2_readAny_1 rfl (lv_at hl 1 rfl) ?_
  refine W_bind fun _ hck => ?_
  refine W_bind fun z1 hz => ?_
  refine w_after (cells1 := 0) (slots1 := 0) (w_runV E kV_LR_32 kc_X2_readAll (t_LR_readAll l hfl G N dp d hdp this a0 M r ((fun z => (.inl none, z, r)) z1) (by rw [hz]; rfl)) ⟨by show 60 + 12 * d + 2 + 1 ≤ 60 + 12 * d + 3; omega, by show 8 + (3 + 11) + (3000 + 400 * d + 120) ≤ 3000 + 400 * d + 180; omega⟩ hw (w_recv E hw (by decide) ⟨_, _, rfl⟩ (ck_ok hck)) rfl hl.1 rfl (Nat.le_of_ble_eq_true rfl) dX2_readAny_2 ⟨Nat.le_refl _, Nat.le_refl _⟩) hw rfl (Nat.le_refl _) (Nat.le_refl _) (fun H locs hw => ?_)
  refine W.eq (g2 := F0 m 5 ls []) rfl ?_
  have hw : w_W G z1 r s H locs := hw
  refine lv_aload_n hx hb dX2_readAny_5 rfl (lv_at hl 0 rfl) ?_
  refine W_bind fun _ hck => ?_
  refine W_bind fun z2 hz => ?_
  refine w_after (cells1 := 0) (slots1 := 0) (w_runU E kU_LR_35_LR kc_X7_bytesLeft (t_TxR_bytesLeft_2 l hfl G this z1 r ((fun z => (.inl (some (.int z)), z1, r)) z2) (by rw [hz]; rfl)) ⟨by show 0 + 1 ≤ 60 + 12 * d + 3; omega, by show 8 + (1 + 11) + (0) ≤ 3000 + 400 * d + 180; omega⟩ hw (w_recv E hw (by decide) ⟨_, _, rfl⟩ (ck_ok hck)) rfl hl.1 rfl (Nat.le_of_ble_eq_true rfl) dX2_readAny_6 ⟨Nat.le_refl _, Nat.le_refl _⟩) hw rfl (Nat.le_refl _) (Nat.le_refl _) (fun H locs hw => ?_)
  refine W.eq (g2 := F0 m 9 ls [.int z2]) rfl ?_
  have hw : w_W G z1 r s H locs := hw
  refine lv_istore_n (lv' := [(2, .int z2), (0, .ref this), (1, .int a0)]) hx hb dX2_readAny_9 rfl hl (by decide) rfl (fun ls hl => ?_)
  exact w10  N z2 z1 _ _ _ hw (lv_sub hl [1, 2, 0] rfl)
set_option maxHeartbeats 4000000 in
set_option maxRecDepth 100000 in
theorem t_TxR_takenIsWrong_2 (l : Launch) (hfl : l.stackTraces = false) (G : wG) (this : Nat) (M : Mem) (r : Rho) : Ctr l yX7_takenIsWrong (wWs yX7_takenIsWrong cX7_takenIsWrong 1 none) rm_TxR_takenIsWrong_2 rm_TxR_takenIsWrong_2.cells rm_TxR_takenIsWrong_2.slots G [.ref this] M r ((f_TxR_takenIsWrong_2 this M).map (fun z => (.inl none, z, r))) := by
  refine Ctr.ofF (own := "CheekTown$TextReade\x72") (by decide +kernel) hfl rfl (Nat.le_of_ble_eq_true rfl) (fun p e s m args below meth c E hno hr hnm hw ls hl => ?_)
  obtain ⟨hx, hb, hts, hown, hml, hTT, -⟩ := id E
  have hl : lv_has ls 1 [(0, .ref this)] := hl
  obtain ⟨H, hH⟩ : ∃ H, H = s.heap := ⟨_, rfl⟩
  obtain ⟨locs, hlo⟩ : ∃ L : List Loc, L = [] := ⟨_, rfl⟩
  rw [← hH, ← hlo]
  rw [← hlo] at hw
  replace hw : w_W G M r s H locs := by rw [hH]; exact hw
  unfold f_TxR_takenIsWrong_2
  refine lv_aload_n hx hb dX7_takenIsWrong_0 rfl (lv_at hl 0 rfl) ?_
  refine gx_getI E hw kF_TxR_9_2 (by decide) dX7_takenIsWrong_1 (fun v1 _ => ?_)
  refine lv_iconst (v := (-1)) hx hb dX7_takenIsWrong_4 (by decide) ?_
  refine cx_icmp_ne (tgt := 16) E dX7_takenIsWrong_5 (by decide) (fun _ => ?_) (fun _ => ?_)
  · exact p_vret E hw hr (Nat.le_of_ble_eq_true rfl) (Nat.le_of_ble_eq_true rfl) rfl dX7_takenIsWrong_16
  · refine lv_aload_n hx hb dX7_takenIsWrong_8 rfl (lv_at hl 0 rfl) ?_
    refine lv_aload_n hx hb dX7_takenIsWrong_9 rfl (lv_at hl 0 rfl) ?_
    refine gx_getI E hw kF_TxR_44_2 (by decide) dX7_takenIsWrong_10 (fun v2 _ => ?_)
    refine gx_putI E hw kF_TxR_9_2 kT_2_0 (by decide) dX7_takenIsWrong_13 (fun M3 H locs _ hw => ?_)
    exact p_vret E hw hr (Nat.le_of_ble_eq_true rfl) (Nat.le_of_ble_eq_true rfl) rfl dX7_takenIsWrong_16
set_option maxHeartbeats 4000000 in
set_option maxRecDepth 100000 in
theorem t_LR_readDeeper (l : Launch) (hfl : l.stackTraces = false) (G : wG) (N : Nat) : ∀ (d : Nat) (this : Nat) (a0 : Int32) (a1 : Int32) (M : Mem) (r : Rho), Ctr l yX2_readDeeper (wWs yX2_readDeeper cX2_readDeeper 3 none) (rm_LR_readDeeper d) (rm_LR_readDeeper d).cells (rm_LR_readDeeper d).slots G [.ref this, .int a0, .int a1] M r ((f_LR_readDeeper N d this a0 a1 M).map (fun z => (.inl none, z, r))) := by
  intro d
  induction d with
  | zero => intros; intro x hx; cases hx
  | succ d ihd =>
    intro this a0 a1 M r
    refine Ctr.ofF (own := "CheekTown$LawReade\x72") (by decide +kernel) hfl rfl (Nat.le_of_ble_eq_true rfl) (fun p e s m args below meth c E hno hr hnm hw ls hl => ?_)
    obtain ⟨hx, hb, hts, hown, hml, hTT, -⟩ := id E
    have hl : lv_has ls 3 [(0, .ref this), (1, .int a0), (2, .int a1)] := hl
    obtain ⟨H, hH⟩ : ∃ H, H = s.heap := ⟨_, rfl⟩
    obtain ⟨locs, hlo⟩ : ∃ L : List Loc, L = [] := ⟨_, rfl⟩
    rw [← hH, ← hlo]
    rw [← hlo] at hw
    replace hw : w_W G M r s H locs := by rw [hH]; exact hw
    rw [f_LR_readDeeper]
    refine lv_iload_n hx hb dX2_readDeeper_0 rfl (lv_at hl 2 rfl) ?_
    refine lv_bipush (v := 6) hx hb dX2_readDeeper_1 (by decide) ?_
    refine cx_icmp_le (tgt := 13) E dX2_readDeeper_3 (by decide) (fun _ => ?_) (fun _ => ?_)
    · refine lv_iload_n hx hb dX2_readDeeper_13 rfl (lv_at hl 1 rfl) ?_
      refine cx_if_eq (tgt := 35) E dX2_readDeeper_14 (by decide) (fun _ => ?_) (fun _ => ?_)
      · refine lv_aload_n hx hb dX2_readDeeper_35 rfl (lv_at hl 0 rfl) ?_
        refine lv_iload_n hx hb dX2_readDeeper_36 rfl (lv_at hl 2 rfl) ?_
        refine W_bind fun _ hck => ?_
        refine W_bind fun z1 hz => ?_
        refine w_after (cells1 := 0) (slots1 := 0) (w_runV E kV_LR_23 kc_X2_readAny (t_LR_readAny l hfl G N (f_LR_readDeeper N d) d ihd this a1 M r ((fun z => (.inl none, z, r)) z1) (by rw [hz]; rfl)) ⟨by show 60 + 12 * d + 3 + 1 ≤ 60 + 12 * (d + 1) + 0; omega, by show 8 + (3 + 11) + (3000 + 400 * d + 180) ≤ 3000 + 400 * (d + 1) + 0; omega⟩ hw (w_recv E hw (by decide) ⟨_, _, rfl⟩ (ck_ok hck)) rfl hl.1 rfl (Nat.le_of_ble_eq_true rfl) dX2_readDeeper_37 ⟨Nat.le_refl _, Nat.le_refl _⟩) hw rfl (Nat.le_refl _) (Nat.le_refl _) (fun H locs hw => ?_)
        refine W.eq (g2 := F0 m 40 ls []) rfl ?_
        have hw : w_W G z1 r s H locs := hw
        refine lv_aload_n hx hb dX2_readDeeper_40 rfl (lv_at hl 0 rfl) ?_
        refine lv_bipush (v := 41) hx hb dX2_readDeeper_41 (by decide) ?_
        refine W_bind fun _ hck => ?_
        refine W_bind fun z2 hz => ?_
        refine w_after (cells1 := 0) (slots1 := 0) (w_runU E kU_LR_67_LR kc_X7_readSign (t_TxR_readSign_2 l hfl G N this 41 z1 r ((fun z => (.inl none, z, r)) z2) (by rw [hz]; rfl)) ⟨by show 2 + 1 ≤ 60 + 12 * (d + 1) + 0; omega, by show 8 + (2 + 11) + (42) ≤ 3000 + 400 * (d + 1) + 0; omega⟩ hw (w_recv E hw (by decide) ⟨_, _, rfl⟩ (ck_ok hck)) rfl hl.1 rfl (Nat.le_of_ble_eq_true rfl) dX2_readDeeper_43 ⟨Nat.le_refl _, Nat.le_refl _⟩) hw rfl (Nat.le_refl _) (Nat.le_refl _) (fun H locs hw => ?_)
        refine W.eq (g2 := F0 m 46 ls []) rfl ?_
        have hw : w_W G z2 r s H locs := hw
        exact p_vret E hw hr (Nat.le_of_ble_eq_true rfl) (Nat.le_of_ble_eq_true rfl) rfl dX2_readDeeper_46
      · refine lv_aload_n hx hb dX2_readDeeper_17 rfl (lv_at hl 0 rfl) ?_
        refine lv_iload_n hx hb dX2_readDeeper_18 rfl (lv_at hl 2 rfl) ?_
        refine W_bind fun _ hck => ?_
        refine W_bind fun z3 hz => ?_
        refine w_after (cells1 := 0) (slots1 := 0) (w_runV E kV_LR_44 kc_X2_readAtom (t_LR_readAtom l hfl G N (f_LR_readDeeper N d) d ihd this a1 M r ((fun z => (.inl none, z, r)) z3) (by rw [hz]; rfl)) ⟨by show 60 + 12 * d + 1 + 1 ≤ 60 + 12 * (d + 1) + 0; omega, by show 8 + (4 + 11) + (3000 + 400 * d + 60) ≤ 3000 + 400 * (d + 1) + 0; omega⟩ hw (w_recv E hw (by decide) ⟨_, _, rfl⟩ (ck_ok hck)) rfl hl.1 rfl (Nat.le_of_ble_eq_true rfl) dX2_readDeeper_19 ⟨Nat.le_refl _, Nat.le_refl _⟩) hw rfl (Nat.le_refl _) (Nat.le_refl _) (fun H locs hw => ?_)
        refine W.eq (g2 := F0 m 22 ls []) rfl ?_
        have hw : w_W G z3 r s H locs := hw
        refine lv_aload_n hx hb dX2_readDeeper_22 rfl (lv_at hl 0 rfl) ?_
        refine gx_getR E hw kF_LR_7_2 (by decide) dX2_readDeeper_23 (fun v4 _ => ?_)
        refine lv_bipush (v := 9) hx hb dX2_readDeeper_26 (by decide) ?_
        refine lv_iconst (v := 0) hx hb dX2_readDeeper_28 (by decide) ?_
        refine W_bind fun _ hck => ?_
        refine W_bind fun z5 hz => ?_
        refine w_after (cells1 := 0) (slots1 := 0) (w_runV E kV_LR_40 kc_X1_addStep (t_Law_addStep l hfl G v4 9 0 z3 r ((fun z => (.inl none, z, r)) z5) (by rw [hz]; rfl)) ⟨by show 0 + 1 ≤ 60 + 12 * (d + 1) + 0; omega, by show 8 + (3 + 11) + (0) ≤ 3000 + 400 * (d + 1) + 0; omega⟩ hw (w_recv E hw (by decide) ⟨_, _, rfl⟩ (ck_ok hck)) rfl hl.1 rfl (Nat.le_of_ble_eq_true rfl) dX2_readDeeper_29 ⟨Nat.le_refl _, Nat.le_refl _⟩) hw rfl (Nat.le_refl _) (Nat.le_refl _) (fun H locs hw => ?_)
        refine W.eq (g2 := F0 m 32 ls []) rfl ?_
        have hw : w_W G z5 r s H locs := hw
        refine lv_goto (tgt := 46) hx hb dX2_readDeeper_32 (by decide) ?_
        exact p_vret E hw hr (Nat.le_of_ble_eq_true rfl) (Nat.le_of_ble_eq_true rfl) rfl dX2_readDeeper_46
    · refine lv_aload_n hx hb dX2_readDeeper_6 rfl (lv_at hl 0 rfl) ?_
      refine W_bind fun _ hck => ?_
      refine W_bind fun z6 hz => ?_
      refine w_after (cells1 := 0) (slots1 := 0) (w_runU E kU_LR_71_LR kc_X7_takenIsWrong (t_TxR_takenIsWrong_2 l hfl G this M r ((fun z => (.inl none, z, r)) z6) (by rw [hz]; rfl)) ⟨by show 0 + 1 ≤ 60 + 12 * (d + 1) + 0; omega, by show 8 + (1 + 11) + (0) ≤ 3000 + 400 * (d + 1) + 0; omega⟩ hw (w_recv E hw (by decide) ⟨_, _, rfl⟩ (ck_ok hck)) rfl hl.1 rfl (Nat.le_of_ble_eq_true rfl) dX2_readDeeper_7 ⟨Nat.le_refl _, Nat.le_refl _⟩) hw rfl (Nat.le_refl _) (Nat.le_refl _) (fun H locs hw => ?_)
      refine W.eq (g2 := F0 m 10 ls []) rfl ?_
      have hw : w_W G z6 r s H locs := hw
      refine lv_goto (tgt := 46) hx hb dX2_readDeeper_10 (by decide) ?_
      exact p_vret E hw hr (Nat.le_of_ble_eq_true rfl) (Nat.le_of_ble_eq_true rfl) rfl dX2_readDeeper_46
set_option maxHeartbeats 4000000 in
set_option maxRecDepth 100000 in
theorem t_Law_addLine (l : Launch) (hfl : l.stackTraces = false) (G : wG) (this : Nat) (a0 : Int32) (M : Mem) (r : Rho) : Ctr l yX1_addLine (wWs yX1_addLine cX1_addLine 2 none) rm_Law_addLine rm_Law_addLine.cells rm_Law_addLine.slots G [.ref this, .int a0] M r ((f_Law_addLine this a0 M).map (fun z => (.inl none, z, r))) := by
  refine Ctr.ofF (own := "CheekTown$Law") (by decide +kernel) hfl rfl (Nat.le_of_ble_eq_true rfl) (fun p e s m args below meth c E hno hr hnm hw ls hl => ?_)
  obtain ⟨hx, hb, hts, hown, hml, hTT, -⟩ := id E
  have hl : lv_has ls 2 [(0, .ref this), (1, .int a0)] := hl
  obtain ⟨H, hH⟩ : ∃ H, H = s.heap := ⟨_, rfl⟩
  obtain ⟨locs, hlo⟩ : ∃ L : List Loc, L = [] := ⟨_, rfl⟩
  rw [← hH, ← hlo]
  rw [← hlo] at hw
  replace hw : w_W G M r s H locs := by rw [hH]; exact hw
  unfold f_Law_addLine
  refine lv_aload_n hx hb dX1_addLine_0 rfl (lv_at hl 0 rfl) ?_
  refine gx_getI E hw kF_Law_37_1 (by decide) dX1_addLine_1 (fun v1 _ => ?_)
  refine lv_bipush (v := 12) hx hb dX1_addLine_4 (by decide) ?_
  refine cx_icmp_ge (tgt := 42) E dX1_addLine_6 (by decide) (fun _ => ?_) (fun _ => ?_)
  · exact p_vret E hw hr (Nat.le_of_ble_eq_true rfl) (Nat.le_of_ble_eq_true rfl) rfl dX1_addLine_42
  · refine lv_aload_n hx hb dX1_addLine_9 rfl (lv_at hl 0 rfl) ?_
    refine gx_getR E hw kF_Law_11_1 (by decide) dX1_addLine_10 (fun v2 _ => ?_)
    refine lv_aload_n hx hb dX1_addLine_13 rfl (lv_at hl 0 rfl) ?_
    refine gx_getI E hw kF_Law_37_1 (by decide) dX1_addLine_14 (fun v3 _ => ?_)
    refine lv_iload_n hx hb dX1_addLine_17 rfl (lv_at hl 1 rfl) ?_
    refine gx_iast E hw dX1_addLine_18 (fun M4 H locs _ hw => ?_)
    refine lv_aload_n hx hb dX1_addLine_19 rfl (lv_at hl 0 rfl) ?_
    refine gx_getR E hw kF_Law_15_1 (by decide) dX1_addLine_20 (fun v5 _ => ?_)
    refine lv_aload_n hx hb dX1_addLine_23 rfl (lv_at hl 0 rfl) ?_
    refine gx_getI E hw kF_Law_37_1 (by decide) dX1_addLine_24 (fun v6 _ => ?_)
    refine lv_aload_n hx hb dX1_addLine_27 rfl (lv_at hl 0 rfl) ?_
    refine gx_getI E hw kF_Law_33_1 (by decide) dX1_addLine_28 (fun v7 _ => ?_)
    refine gx_iast E hw dX1_addLine_31 (fun M8 H locs _ hw => ?_)
    refine lv_aload_n hx hb dX1_addLine_32 rfl (lv_at hl 0 rfl) ?_
    refine lv_dup hx hb dX1_addLine_33 rfl ?_
    refine gx_getI E hw kF_Law_37_1 (by decide) dX1_addLine_34 (fun v9 _ => ?_)
    refine lv_iconst (v := 1) hx hb dX1_addLine_37 (by decide) ?_
    refine lv_iadd hx hb dX1_addLine_38 ?_
    refine gx_putI E hw kF_Law_37_1 kT_1_0 (by decide) dX1_addLine_39 (fun M10 H locs _ hw => ?_)
    exact p_vret E hw hr (Nat.le_of_ble_eq_true rfl) (Nat.le_of_ble_eq_true rfl) rfl dX1_addLine_42
set_option maxHeartbeats 4000000 in
set_option maxRecDepth 100000 in
theorem t_LR_readLine (l : Launch) (hfl : l.stackTraces = false) (G : wG) (N : Nat) (this : Nat) (M : Mem) (r : Rho) : Ctr l yX2_readLine (wWs yX2_readLine cX2_readLine 2 none) rm_LR_readLine rm_LR_readLine.cells rm_LR_readLine.slots G [.ref this] M r ((f_LR_readLine N this M).map (fun z => (.inl none, z, r))) := by
  refine Ctr.ofF (own := "CheekTown$LawReade\x72") (by decide +kernel) hfl rfl (Nat.le_of_ble_eq_true rfl) (fun p e s m args below meth c E hno hr hnm hw ls hl => ?_)
  obtain ⟨hx, hb, hts, hown, hml, hTT, -⟩ := id E
  have hl : lv_has ls 2 [(0, .ref this)] := hl
  obtain ⟨H, hH⟩ : ∃ H, H = s.heap := ⟨_, rfl⟩
  obtain ⟨locs, hlo⟩ : ∃ L : List Loc, L = [] := ⟨_, rfl⟩
  rw [← hH, ← hlo]
  rw [← hlo] at hw
  replace hw : w_W G M r s H locs := by rw [hH]; exact hw
  have w19 : ∀ (x1 : Int32) (M : Mem) (H : Heap) (locs : List Loc) (ls : Array Slot), w_W G M r s H locs → lv_has ls 2 [(0, .ref this), (1, .int x1)] → W p l e rm_LR_readLine s m args below meth c H locs 0 0 (PQ G below args s rm_LR_readLine.cells rm_LR_readLine.slots (fun z => (.inl none, z, r)) (f_LR_readLine_19 N this x1 M)) (F0 m 19 ls []) := by
    intro x1 M H locs ls hw hl
    unfold f_LR_readLine_19
    refine lv_aload_n hx hb dX2_readLine_19 rfl (lv_at hl 0 rfl) ?_
    refine gx_getR E hw kF_LR_7_2 (by decide) dX2_readLine_20 (fun v4 _ => ?_)
    refine lv_iload_n hx hb dX2_readLine_23 rfl (lv_at hl 1 rfl) ?_
    refine W_bind fun _ hck => ?_
    refine W_bind fun z5 hz => ?_
    refine w_after (cells1 := 0) (slots1 := 0) (w_runV E kV_LR_27 kc_X1_addLine (t_Law_addLine l hfl G v4 x1 M r ((fun z => (.inl none, z, r)) z5) (by rw [hz]; rfl)) ⟨Nat.le_of_ble_eq_true rfl, Nat.le_of_ble_eq_true rfl⟩ hw (w_recv E hw (by decide) ⟨_, _, rfl⟩ (ck_ok hck)) rfl hl.1 rfl (Nat.le_of_ble_eq_true rfl) dX2_readLine_24 ⟨Nat.le_of_ble_eq_true rfl, Nat.le_of_ble_eq_true rfl⟩) hw rfl (Nat.le_of_ble_eq_true rfl) (Nat.le_of_ble_eq_true rfl) (fun H locs hw => ?_)
    refine W.eq (g2 := F0 m 27 ls []) rfl ?_
    have hw : w_W G z5 r s H locs := hw
    exact p_vret E hw hr (Nat.le_of_ble_eq_true rfl) (Nat.le_of_ble_eq_true rfl) rfl dX2_readLine_27
  unfold f_LR_readLine
  refine lv_aload_n hx hb dX2_readLine_0 rfl (lv_at hl 0 rfl) ?_
  refine W_bind fun _ hck => ?_
  refine W_bind fun z1 hz => ?_
  refine w_after (cells1 := 0) (slots1 := 0) (w_runU E kU_LR_13_LR kc_X7_readGreeting (t_TxR_readGreeting_2 l hfl G N this M r ((fun z => (.inl (some (.int z.1)), z.2, r)) z1) (by rw [hz]; rfl)) ⟨Nat.le_of_ble_eq_true rfl, Nat.le_of_ble_eq_true rfl⟩ hw (w_recv E hw (by decide) ⟨_, _, rfl⟩ (ck_ok hck)) rfl hl.1 rfl (Nat.le_of_ble_eq_true rfl) dX2_readLine_1 ⟨Nat.le_of_ble_eq_true rfl, Nat.le_of_ble_eq_true rfl⟩) hw rfl (Nat.le_of_ble_eq_true rfl) (Nat.le_of_ble_eq_true rfl) (fun H locs hw => ?_)
  refine W.eq (g2 := F0 m 4 ls [.int z1.1]) rfl ?_
  have hw : w_W G z1.2 r s H locs := hw
  refine lv_istore_n (lv' := [(1, .int z1.1), (0, .ref this)]) hx hb dX2_readLine_4 rfl hl (by decide) rfl (fun ls hl => ?_)
  refine lv_aload_n hx hb dX2_readLine_5 rfl (lv_at hl 1 rfl) ?_
  refine va_ldcS hx hb hown (hTT.2.2.1 6 _ rfl) dX2_readLine_6 ?_
  refine W_bind fun _ hck => ?_
  refine W_bind fun z2 hz => ?_
  refine w_after (cells1 := 0) (slots1 := 0) (w_runU E kU_LR_19_LR kc_X7_takeWord (t_TxR_takeWord_2 l hfl G N this 6 z1.2 r ((fun z => (.inl (some (.int z.1)), z.2, r)) z2) (by rw [hz]; rfl)) ⟨Nat.le_of_ble_eq_true rfl, Nat.le_of_ble_eq_true rfl⟩ hw (w_recv E hw (by decide) ⟨_, _, rfl⟩ (ck_ok hck)) rfl hl.1 rfl (Nat.le_of_ble_eq_true rfl) dX2_readLine_8 ⟨Nat.le_of_ble_eq_true rfl, Nat.le_of_ble_eq_true rfl⟩) hw rfl (Nat.le_of_ble_eq_true rfl) (Nat.le_of_ble_eq_true rfl) (fun H locs hw => ?_)
  refine W.eq (g2 := F0 m 11 ls [.int z2.1]) rfl ?_
  have hw : w_W G z2.2 r s H locs := hw
  refine cx_if_eq (tgt := 19) E dX2_readLine_11 (by decide) (fun _ => ?_) (fun _ => ?_)
  · exact w19  z1.1 z2.2 _ _ _ hw (lv_sub hl [1, 0] rfl)
  · refine lv_aload_n hx hb dX2_readLine_14 rfl (lv_at hl 1 rfl) ?_
    refine lv_iconst (v := 0) hx hb dX2_readLine_15 (by decide) ?_
    refine W_bind fun _ hck => ?_
    refine W_bind fun z3 hz => ?_
    refine w_after (cells1 := 0) (slots1 := 0) (w_runV E kV_LR_23 kc_X2_readAny (t_LR_readAny l hfl G N (f_LR_readDeeper N 10) 10 (t_LR_readDeeper l hfl G N 10) this 0 z2.2 r ((fun z => (.inl none, z, r)) z3) (by rw [hz]; rfl)) ⟨Nat.le_of_ble_eq_true rfl, Nat.le_of_ble_eq_true rfl⟩ hw (w_recv E hw (by decide) ⟨_, _, rfl⟩ (ck_ok hck)) rfl hl.1 rfl (Nat.le_of_ble_eq_true rfl) dX2_readLine_16 ⟨Nat.le_of_ble_eq_true rfl, Nat.le_of_ble_eq_true rfl⟩) hw rfl (Nat.le_of_ble_eq_true rfl) (Nat.le_of_ble_eq_true rfl) (fun H locs hw => ?_)
    refine W.eq (g2 := F0 m 19 ls []) rfl ?_
    have hw : w_W G z3 r s H locs := hw
    exact w19  z1.1 z3 _ _ _ hw (lv_sub hl [1, 0] rfl)
set_option maxHeartbeats 4000000 in
set_option maxRecDepth 100000 in
theorem t_TxR_readLines_2 (l : Launch) (hfl : l.stackTraces = false) (G : wG) (N : Nat) (this : Nat) (a0 : Int32) (M : Mem) (r : Rho) : Ctr l yX7_readLines (wWs yX7_readLines cX7_readLines 4 (some .boolean)) rm_TxR_readLines_2 rm_TxR_readLines_2.cells rm_TxR_readLines_2.slots G [.ref this, .int a0] M r ((f_TxR_readLines_2 N this a0 M).map (fun z => (.inl (some (.int z.1)), z.2, r))) := by
  refine Ctr.ofF (own := "CheekTown$TextReade\x72") (by decide +kernel) hfl rfl (Nat.le_of_ble_eq_true rfl) (fun p e s m args below meth c E hno hr hnm hw ls hl => ?_)
  obtain ⟨hx, hb, hts, hown, hml, hTT, -⟩ := id E
  have hl : lv_has ls 4 [(0, .ref this), (1, .int a0)] := hl
  obtain ⟨H, hH⟩ : ∃ H, H = s.heap := ⟨_, rfl⟩
  obtain ⟨locs, hlo⟩ : ∃ L : List Loc, L = [] := ⟨_, rfl⟩
  rw [← hH, ← hlo]
  rw [← hlo] at hw
  replace hw : w_W G M r s H locs := by rw [hH]; exact hw
  have w85 : ∀ (M : Mem) (H : Heap) (locs : List Loc) (ls : Array Slot), w_W G M r s H locs → lv_has ls 4 [(0, .ref this)] → W p l e rm_TxR_readLines_2 s m args below meth c H locs 0 0 (PQ G below args s rm_TxR_readLines_2.cells rm_TxR_readLines_2.slots (fun z => (.inl (some (.int z.1)), z.2, r)) (f_TxR_readLines_2_85 N this a0 M)) (F0 m 85 ls []) := by
    intro M H locs ls hw hl
    unfold f_TxR_readLines_2_85
    refine lv_aload_n hx hb dX7_readLines_85 rfl (lv_at hl 0 rfl) ?_
    refine gx_getI E hw kF_TxR_9_2 (by decide) dX7_readLines_86 (fun v10 _ => ?_)
    refine lv_iconst (v := (-1)) hx hb dX7_readLines_89 (by decide) ?_
    refine cx_icmp_ne (tgt := 97) E dX7_readLines_90 (by decide) (fun _ => ?_) (fun _ => ?_)
    · refine lv_iconst (v := 0) hx hb dX7_readLines_97 (by decide) ?_
      exact p_zret E hw hr (by decide) (Nat.le_of_ble_eq_true rfl) (Nat.le_of_ble_eq_true rfl) rfl dX7_readLines_98
    · refine lv_iconst (v := 1) hx hb dX7_readLines_93 (by decide) ?_
      refine lv_goto (tgt := 98) hx hb dX7_readLines_94 (by decide) ?_
      exact p_zret E hw hr (by decide) (Nat.le_of_ble_eq_true rfl) (Nat.le_of_ble_eq_true rfl) rfl dX7_readLines_98
  have w77 : ∀ (x2 : Int32) (M : Mem) (H : Heap) (locs : List Loc) (ls : Array Slot), w_W G M r s H locs → lv_has ls 4 [(0, .ref this), (2, .int x2)] → W p l e rm_TxR_readLines_2 s m args below meth c H locs 0 0 (PQ G below args s rm_TxR_readLines_2.cells rm_TxR_readLines_2.slots (fun z => (.inl (some (.int z.1)), z.2, r)) (f_TxR_readLines_2_77 N this a0 x2 M)) (F0 m 77 ls []) := by
    intro x2 M H locs ls hw hl
    unfold f_TxR_readLines_2_77
    refine lv_iload_n hx hb dX7_readLines_77 rfl (lv_at hl 1 rfl) ?_
    refine cx_if_eq (tgt := 85) E dX7_readLines_78 (by decide) (fun _ => ?_) (fun _ => ?_)
    · exact w85  M _ _ _ hw (lv_sub hl [0] rfl)
    · refine lv_aload_n hx hb dX7_readLines_81 rfl (lv_at hl 0 rfl) ?_
      refine W_bind fun _ hck => ?_
      refine W_bind fun z8 hz => ?_
      refine w_after (cells1 := 0) (slots1 := 0) (w_runU E kU_TxR_41_LR kc_X7_nextIsWrong (t_TxR_nextIsWrong_2 l hfl G this M r ((fun z => (.inl none, z, r)) z8) (by rw [hz]; rfl)) ⟨Nat.le_of_ble_eq_true rfl, Nat.le_of_ble_eq_true rfl⟩ hw (w_recv E hw (by decide) ⟨_, _, rfl⟩ (ck_ok hck)) rfl hl.1 rfl (Nat.le_of_ble_eq_true rfl) dX7_readLines_82 ⟨Nat.le_of_ble_eq_true rfl, Nat.le_of_ble_eq_true rfl⟩) hw rfl (Nat.le_of_ble_eq_true rfl) (Nat.le_of_ble_eq_true rfl) (fun H locs hw => ?_)
      refine W.eq (g2 := F0 m 85 ls []) rfl ?_
      have hw : w_W G z8 r s H locs := hw
      exact w85  z8 _ _ _ hw (lv_sub hl [0] rfl)
  have w60 : ∀ (k23 : Int32 → Int32 → Mem → Option (Int32 × Mem)) (hk23 : ∀ (x2 : Int32) (x3 : Int32) (M : Mem) (H : Heap) (locs : List Loc) (ls : Array Slot), w_W G M r s H locs → lv_has ls 4 [(0, .ref this), (1, .int a0), (2, .int x2), (3, .int x3)] → W p l e rm_TxR_readLines_2 s m args below meth c H locs 0 0 (PQ G below args s rm_TxR_readLines_2.cells rm_TxR_readLines_2.slots (fun z => (.inl (some (.int z.1)), z.2, r)) (k23 x2 x3 M)) (F0 m 23 ls [])) (x3 : Int32) (y0 : Int32) (M : Mem) (H : Heap) (locs : List Loc) (ls : Array Slot), w_W G M r s H locs → lv_has ls 4 [(0, .ref this), (1, .int a0), (3, .int x3)] → W p l e rm_TxR_readLines_2 s m args below meth c H locs 0 0 (PQ G below args s rm_TxR_readLines_2.cells rm_TxR_readLines_2.slots (fun z => (.inl (some (.int z.1)), z.2, r)) (f_TxR_readLines_2_60 N this a0 k23 x3 y0 M)) (F0 m 60 ls [.int y0]) := by
    intro k23 hk23 x3 y0 M H locs ls hw hl
    unfold f_TxR_readLines_2_60
    refine lv_istore_n (lv' := [(2, .int y0), (0, .ref this), (1, .int a0), (3, .int x3)]) hx hb dX7_readLines_60 rfl hl (by decide) rfl (fun ls hl => ?_)
    refine lv_iload_n hx hb dX7_readLines_61 rfl (lv_at hl 0 rfl) ?_
    refine cx_if_eq (tgt := 71) E dX7_readLines_62 (by decide) (fun _ => ?_) (fun _ => ?_)
    · refine lv_iinc (v := x3 + 1) (lv' := [(3, .int (x3 + 1)), (2, .int y0), (0, .ref this), (1, .int a0)]) hx hb dX7_readLines_71 hl (k := 3) rfl rfl (by decide) rfl (fun ls hl => ?_)
      refine lv_goto (tgt := 23) hx hb dX7_readLines_74 (by decide) ?_
      exact hk23 y0 (x3 + 1) M _ _ _ hw (lv_sub hl [2, 3, 1, 0] rfl)
    · refine lv_aload_n hx hb dX7_readLines_65 rfl (lv_at hl 1 rfl) ?_
      refine lv_bipush (v := 59) hx hb dX7_readLines_66 (by decide) ?_
      refine W_bind fun _ hck => ?_
      refine W_bind fun z9 hz => ?_
      refine w_after (cells1 := 0) (slots1 := 0) (w_runU E kU_TxR_37_LR kc_X7_readSign (t_TxR_readSign_2 l hfl G N this 59 M r ((fun z => (.inl none, z, r)) z9) (by rw [hz]; rfl)) ⟨Nat.le_of_ble_eq_true rfl, Nat.le_of_ble_eq_true rfl⟩ hw (w_recv E hw (by decide) ⟨_, _, rfl⟩ (ck_ok hck)) rfl hl.1 rfl (Nat.le_of_ble_eq_true rfl) dX7_readLines_68 ⟨Nat.le_of_ble_eq_true rfl, Nat.le_of_ble_eq_true rfl⟩) hw rfl (Nat.le_of_ble_eq_true rfl) (Nat.le_of_ble_eq_true rfl) (fun H locs hw => ?_)
      refine W.eq (g2 := F0 m 71 ls []) rfl ?_
      have hw : w_W G z9 r s H locs := hw
      refine lv_iinc (v := x3 + 1) (lv' := [(3, .int (x3 + 1)), (2, .int y0), (0, .ref this), (1, .int a0)]) hx hb dX7_readLines_71 hl (k := 3) rfl rfl (by decide) rfl (fun ls hl => ?_)
      refine lv_goto (tgt := 23) hx hb dX7_readLines_74 (by decide) ?_
      exact hk23 y0 (x3 + 1) z9 _ _ _ hw (lv_sub hl [2, 3, 1, 0] rfl)
  have w23 : ∀ (n : Nat) (x2 : Int32) (x3 : Int32) (M : Mem) (H : Heap) (locs : List Loc) (ls : Array Slot), w_W G M r s H locs → lv_has ls 4 [(0, .ref this), (1, .int a0), (2, .int x2), (3, .int x3)] → W p l e rm_TxR_readLines_2 s m args below meth c H locs 0 0 (PQ G below args s rm_TxR_readLines_2.cells rm_TxR_readLines_2.slots (fun z => (.inl (some (.int z.1)), z.2, r)) (f_TxR_readLines_2_23 N this a0 n x2 x3 M)) (F0 m 23 ls []) := by
    intro n
    induction n with
    | zero => intros; exact W_none
    | succ n ih =>
      intro x2 x3 M H locs ls hw hl
      rw [f_TxR_readLines_2_23]
      refine lv_iload_n hx hb dX7_readLines_23 rfl (lv_at hl 3 rfl) ?_
      refine lv_iload_n hx hb dX7_readLines_24 rfl (lv_at hl 1 rfl) ?_
      refine cx_icmp_ge (tgt := 77) E dX7_readLines_25 (by decide) (fun _ => ?_) (fun _ => ?_)
      · exact w77  x2 M _ _ _ hw (lv_sub hl [0, 2] rfl)
      · refine lv_iload_n hx hb dX7_readLines_28 rfl (lv_at hl 2 rfl) ?_
        refine cx_if_eq (tgt := 77) E dX7_readLines_29 (by decide) (fun _ => ?_) (fun _ => ?_)
        · exact w77  x2 M _ _ _ hw (lv_sub hl [0, 2] rfl)
        · refine lv_aload_n hx hb dX7_readLines_32 rfl (lv_at hl 0 rfl) ?_
          refine gx_getI E hw kF_TxR_9_2 (by decide) dX7_readLines_33 (fun v4 _ => ?_)
          refine lv_iconst (v := (-1)) hx hb dX7_readLines_36 (by decide) ?_
          refine cx_icmp_ne (tgt := 77) E dX7_readLines_37 (by decide) (fun _ => ?_) (fun _ => ?_)
          · exact w77  x2 M _ _ _ hw (lv_sub hl [0, 2] rfl)
          · refine lv_aload_n hx hb dX7_readLines_40 rfl (lv_at hl 0 rfl) ?_
            refine W_bind fun _ hck => ?_
            refine W_bind fun z5 hz => ?_
            refine w_after (cells1 := 0) (slots1 := 0) (w_runU E kU_TxR_34_LR kc_X2_readLine (t_LR_readLine l hfl G N this M r ((fun z => (.inl none, z, r)) z5) (by rw [hz]; rfl)) ⟨Nat.le_of_ble_eq_true rfl, Nat.le_of_ble_eq_true rfl⟩ hw (w_recv E hw (by decide) ⟨_, _, rfl⟩ (ck_ok hck)) rfl hl.1 rfl (Nat.le_of_ble_eq_true rfl) dX7_readLines_41 ⟨Nat.le_of_ble_eq_true rfl, Nat.le_of_ble_eq_true rfl⟩) hw rfl (Nat.le_of_ble_eq_true rfl) (Nat.le_of_ble_eq_true rfl) (fun H locs hw => ?_)
            refine W.eq (g2 := F0 m 44 ls []) rfl ?_
            have hw : w_W G z5 r s H locs := hw
            refine lv_aload_n hx hb dX7_readLines_44 rfl (lv_at hl 0 rfl) ?_
            refine gx_getI E hw kF_TxR_31_2 (by decide) dX7_readLines_45 (fun v6 _ => ?_)
            refine lv_aload_n hx hb dX7_readLines_48 rfl (lv_at hl 0 rfl) ?_
            refine gx_getI E hw kF_TxR_25_2 (by decide) dX7_readLines_49 (fun v7 _ => ?_)
            refine cx_icmp_ge (tgt := 59) E dX7_readLines_52 (by decide) (fun _ => ?_) (fun _ => ?_)
            · refine lv_iconst (v := 0) hx hb dX7_readLines_59 (by decide) ?_
              exact w60 (f_TxR_readLines_2_23 N this a0 n) ih x3 0 z5 _ _ _ hw (lv_sub hl [0, 1, 3] rfl)
            · refine lv_iconst (v := 1) hx hb dX7_readLines_55 (by decide) ?_
              refine lv_goto (tgt := 60) hx hb dX7_readLines_56 (by decide) ?_
              exact w60 (f_TxR_readLines_2_23 N this a0 n) ih x3 1 z5 _ _ _ hw (lv_sub hl [0, 1, 3] rfl)
  have w20 : ∀ (y0 : Int32) (M : Mem) (H : Heap) (locs : List Loc) (ls : Array Slot), w_W G M r s H locs → lv_has ls 4 [(0, .ref this), (1, .int a0)] → W p l e rm_TxR_readLines_2 s m args below meth c H locs 0 0 (PQ G below args s rm_TxR_readLines_2.cells rm_TxR_readLines_2.slots (fun z => (.inl (some (.int z.1)), z.2, r)) (f_TxR_readLines_2_20 N this a0 y0 M)) (F0 m 20 ls [.int y0]) := by
    intro y0 M H locs ls hw hl
    unfold f_TxR_readLines_2_20
    refine lv_istore_n (lv' := [(2, .int y0), (0, .ref this), (1, .int a0)]) hx hb dX7_readLines_20 rfl hl (by decide) rfl (fun ls hl => ?_)
    refine lv_iconst (v := 0) hx hb dX7_readLines_21 (by decide) ?_
    refine lv_istore_n (lv' := [(3, .int 0), (2, .int y0), (0, .ref this), (1, .int a0)]) hx hb dX7_readLines_22 rfl hl (by decide) rfl (fun ls hl => ?_)
    exact w23  N y0 0 M _ _ _ hw (lv_sub hl [2, 3, 1, 0] rfl)
  unfold f_TxR_readLines_2
  refine lv_aload_n hx hb dX7_readLines_0 rfl (lv_at hl 0 rfl) ?_
  refine W_bind fun _ hck => ?_
  refine W_bind fun z1 hz => ?_
  refine w_after (cells1 := 0) (slots1 := 0) (w_runU E kU_TxR_28_LR kc_X7_goOn (t_TxR_goOn_2 l hfl G N this M r ((fun z => (.inl none, z, r)) z1) (by rw [hz]; rfl)) ⟨Nat.le_of_ble_eq_true rfl, Nat.le_of_ble_eq_true rfl⟩ hw (w_recv E hw (by decide) ⟨_, _, rfl⟩ (ck_ok hck)) rfl hl.1 rfl (Nat.le_of_ble_eq_true rfl) dX7_readLines_1 ⟨Nat.le_of_ble_eq_true rfl, Nat.le_of_ble_eq_true rfl⟩) hw rfl (Nat.le_of_ble_eq_true rfl) (Nat.le_of_ble_eq_true rfl) (fun H locs hw => ?_)
  refine W.eq (g2 := F0 m 4 ls []) rfl ?_
  have hw : w_W G z1 r s H locs := hw
  refine lv_aload_n hx hb dX7_readLines_4 rfl (lv_at hl 0 rfl) ?_
  refine gx_getI E hw kF_TxR_31_2 (by decide) dX7_readLines_5 (fun v2 _ => ?_)
  refine lv_aload_n hx hb dX7_readLines_8 rfl (lv_at hl 0 rfl) ?_
  refine gx_getI E hw kF_TxR_25_2 (by decide) dX7_readLines_9 (fun v3 _ => ?_)
  refine cx_icmp_ge (tgt := 19) E dX7_readLines_12 (by decide) (fun _ => ?_) (fun _ => ?_)
  · refine lv_iconst (v := 0) hx hb dX7_readLines_19 (by decide) ?_
    exact w20  0 z1 _ _ _ hw (lv_sub hl [0, 1] rfl)
  · refine lv_iconst (v := 1) hx hb dX7_readLines_15 (by decide) ?_
    refine lv_goto (tgt := 20) hx hb dX7_readLines_16 (by decide) ?_
    exact w20  1 z1 _ _ _ hw (lv_sub hl [0, 1] rfl)
set_option maxHeartbeats 4000000 in
set_option maxRecDepth 100000 in
theorem t_TxR_bytesLeft_8 (l : Launch) (hfl : l.stackTraces = false) (G : wG) (this : Nat) (M : Mem) (r : Rho) : Ctr l yX7_bytesLeft (wWs yX7_bytesLeft cX7_bytesLeft 1 (some .int)) rm_TxR_bytesLeft_8 rm_TxR_bytesLeft_8.cells rm_TxR_bytesLeft_8.slots G [.ref this] M r ((f_TxR_bytesLeft_8 this M).map (fun z => (.inl (some (.int z)), M, r))) := by
  refine Ctr.ofF (own := "CheekTown$TextReade\x72") (by decide +kernel) hfl rfl (Nat.le_of_ble_eq_true rfl) (fun p e s m args below meth c E hno hr hnm hw ls hl => ?_)
  obtain ⟨hx, hb, hts, hown, hml, hTT, -⟩ := id E
  have hl : lv_has ls 1 [(0, .ref this)] := hl
  obtain ⟨H, hH⟩ : ∃ H, H = s.heap := ⟨_, rfl⟩
  obtain ⟨locs, hlo⟩ : ∃ L : List Loc, L = [] := ⟨_, rfl⟩
  rw [← hH, ← hlo]
  rw [← hlo] at hw
  replace hw : w_W G M r s H locs := by rw [hH]; exact hw
  unfold f_TxR_bytesLeft_8
  refine lv_aload_n hx hb dX7_bytesLeft_0 rfl (lv_at hl 0 rfl) ?_
  refine gx_getI E hw kF_TxR_25_8 (by decide) dX7_bytesLeft_1 (fun v1 _ => ?_)
  refine lv_aload_n hx hb dX7_bytesLeft_4 rfl (lv_at hl 0 rfl) ?_
  refine gx_getI E hw kF_TxR_31_8 (by decide) dX7_bytesLeft_5 (fun v2 _ => ?_)
  refine lv_isub hx hb dX7_bytesLeft_8 ?_
  exact p_iret E hw hr (Nat.le_of_ble_eq_true rfl) (Nat.le_of_ble_eq_true rfl) rfl dX7_bytesLeft_9
set_option maxHeartbeats 4000000 in
set_option maxRecDepth 100000 in
theorem t_TxR_isWrong_2 (l : Launch) (hfl : l.stackTraces = false) (G : wG) (this : Nat) (M : Mem) (r : Rho) : Ctr l yX7_isWrong (wWs yX7_isWrong cX7_isWrong 1 (some .boolean)) rm_TxR_isWrong_2 rm_TxR_isWrong_2.cells rm_TxR_isWrong_2.slots G [.ref this] M r ((f_TxR_isWrong_2 this M).map (fun z => (.inl (some (.int z)), M, r))) := by
  refine Ctr.ofF (own := "CheekTown$TextReade\x72") (by decide +kernel) hfl rfl (Nat.le_of_ble_eq_true rfl) (fun p e s m args below meth c E hno hr hnm hw ls hl => ?_)
  obtain ⟨hx, hb, hts, hown, hml, hTT, -⟩ := id E
  have hl : lv_has ls 1 [(0, .ref this)] := hl
  obtain ⟨H, hH⟩ : ∃ H, H = s.heap := ⟨_, rfl⟩
  obtain ⟨locs, hlo⟩ : ∃ L : List Loc, L = [] := ⟨_, rfl⟩
  rw [← hH, ← hlo]
  rw [← hlo] at hw
  replace hw : w_W G M r s H locs := by rw [hH]; exact hw
  unfold f_TxR_isWrong_2
  refine lv_aload_n hx hb dX7_isWrong_0 rfl (lv_at hl 0 rfl) ?_
  refine gx_getI E hw kF_TxR_9_2 (by decide) dX7_isWrong_1 (fun v1 _ => ?_)
  refine lv_iconst (v := (-1)) hx hb dX7_isWrong_4 (by decide) ?_
  refine cx_icmp_eq (tgt := 12) E dX7_isWrong_5 (by decide) (fun _ => ?_) (fun _ => ?_)
  · refine lv_iconst (v := 0) hx hb dX7_isWrong_12 (by decide) ?_
    exact p_zret E hw hr (by decide) (Nat.le_of_ble_eq_true rfl) (Nat.le_of_ble_eq_true rfl) rfl dX7_isWrong_13
  · refine lv_iconst (v := 1) hx hb dX7_isWrong_8 (by decide) ?_
    refine lv_goto (tgt := 13) hx hb dX7_isWrong_9 (by decide) ?_
    exact p_zret E hw hr (by decide) (Nat.le_of_ble_eq_true rfl) (Nat.le_of_ble_eq_true rfl) rfl dX7_isWrong_13

